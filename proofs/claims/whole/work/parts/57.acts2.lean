/-! pairs of acts: rake, undo -/
section L2c
variable {w : Wd} {c : Int} {h h0 : Hp} {K : Int → Hp → Prop} {g : Int → Int}
def rkP (g : Int → Int) (i1 i2 n : Int) (i : Int) : Int := if i = i2 then g i2 + n else if i = i1 then g i1 - n else g i
theorem gs_rake {r : Int} (R : RR h r) (G : GS h g) {a b d n : Int} (ha : 0 ≤ a ∧ a < nrN h) (hb : 0 ≤ b ∧ b < nbN h) (hd : 0 ≤ d ∧ d < nbN h) (hne : b ≠ d) (hn : 0 < n ∧ n ≤ g (29 + 10 * a + b)) : GS h (rkP g (29 + 10 * a + b) (29 + 10 * a + d) n) := by
  have nr := R.nr
  have nb := R.nb
  have G0 := G
  obtain ⟨g1, g2, g3, g4, g5⟩ := G
  have lo : ∀ i : Int, i < 29 → rkP g (29 + 10 * a + b) (29 + 10 * a + d) n i = g i := fun i q => by unfold rkP; rw [if_neg (by omega), if_neg (by omega)]
  refine ⟨by rw [lo 0 (by omega)]; exact g1, fun x x0 x1 => by rw [lo _ (by omega)]; exact g2 x x0 x1, fun b b0 b1 => by rw [lo (9 + b) (by omega), lo (19 + b) (by omega)]; exact g3 b b0 b1, fun x e x0 x1 e0 e1 => ?_, ?_⟩
  · have g4' := g4 x e x0 x1 e0 e1
    have g4d := g4 a d (by omega) (by omega) (by omega) (by omega)
    unfold rkP
    by_cases q : 29 + 10 * x + e = 29 + 10 * a + d
    · rw [if_pos q]; exact ⟨by omega, fun q2 => by omega⟩
    · rw [if_neg q]
      by_cases q2 : 29 + 10 * x + e = 29 + 10 * a + b
      · rw [if_pos q2]; exact ⟨by omega, fun q2 => by omega⟩
      · rw [if_neg q2]; exact g4'
  · rw [← g5, sm_congr (n := 10) (f := fun b_1 => rkP g (29 + 10 * a + b) (29 + 10 * a + d) n (9 + b_1)) (g := fun b => g (9 + b)) (fun b b0 b1 => lo (9 + b) (by omega)), sm_congr (n := 10) (f := fun b_1 => rkP g (29 + 10 * a + b) (29 + 10 * a + d) n (19 + b_1)) (g := fun b => g (19 + b)) (fun b b0 b1 => lo (19 + b) (by omega))]
    have e : sm 8 (fun r => sm 10 (fun b_1 => rkP g (29 + 10 * a + b) (29 + 10 * a + d) n (29 + 10 * r + b_1))) = sm 8 (fun r => sm 10 (fun b => g (29 + 10 * r + b))) := by
      refine sm_congr fun x x0 x1 => ?_
      by_cases q : x = a
      · subst q
        have s1 := sm_upd (n := 10) (f := fun e => g (29 + 10 * x + e)) (g := fun e => if e = b then g (29 + 10 * x + b) - n else g (29 + 10 * x + e)) (k := b) ⟨by omega, by omega⟩ (fun i i0 i1 i2 => if_neg i2)
        have s2 := sm_upd (n := 10) (f := fun e => if e = b then g (29 + 10 * x + b) - n else g (29 + 10 * x + e)) (g := fun e => rkP g (29 + 10 * x + b) (29 + 10 * x + d) n (29 + 10 * x + e)) (k := d) ⟨by omega, by omega⟩ (fun i i0 i1 i2 => by
          unfold rkP
          rw [if_neg (by omega)]
          by_cases c : i = b
          · rw [if_pos c, if_pos (by omega)]
          · rw [if_neg c, if_neg (by omega)])
        rw [s2, s1]
        have r1 : rkP g (29 + 10 * x + b) (29 + 10 * x + d) n (29 + 10 * x + d) = g (29 + 10 * x + d) + n := by unfold rkP; rw [if_pos rfl]
        rw [r1, if_pos rfl, if_neg (fun q => hne q.symm)]
        omega
      · refine sm_congr fun e e0 e1 => ?_
        unfold rkP
        rw [if_neg (by omega), if_neg (by omega)]
    rw [e]
theorem q_rake (I : Inv c h) {a b d n : Int} (ha : inR a) (hb : inR b) (hd : inR d) (hn : inR n) : C_X11_rake w a b d n h (fun z h1 => (z = 0 ∨ z = 1) → C_X12_rake w a b d n h1 (PI c z)) := by
  have R := I.2.1.1
  have nr := R.nr
  have nb := R.nb
  have G := I.2.2.1
  have X := I.2.2.2.1
  have P := I.2.2.2.2.1
  have p1 := P.1
  have p2 := P.2.2.2.1
  have p3 := P.2.2.2.2.1
  have p4 := P.2.2.2.2.2.1
  have p5 := P.2.1
  have p6 := P.2.2.1
  have no : ¬ ((0 ≤ a ∧ a < nrN h) ∧ (0 ≤ b ∧ b < nbN h) ∧ (0 ≤ d ∧ d < nbN h) ∧ b ≠ d ∧ 1 ≤ n ∧ n ≤ h 104 (29 + 10 * a + b)) → C_X11_refuseAct w 3 h (fun z h1 => (z = 0 ∨ z = 1) → (z = 0 ∨ z = 1) → C_X12_rake w a b d n h1 (PI c z)) := fun q => by
    refine x_refuseAct ⟨by decide, by decide⟩ (fun _ _ => c_X12_rake ?_)
    rw [hu_ne (show (68 : Int) ≠ 59 by decide), hu_ne (show (104 : Int) ≠ 59 by decide), hu_ne (show (93 : Int) ≠ 59 by decide), nr.1, nb.1]
    have no : L_X12_rake_46 w (hu h 59 3 (h 59 3 + 1)) (PI c 0) := l_X12_rake_46 (fun h2 e => ⟨rfl, fin_ref I (by decide) e⟩)
    refine ⟨ha, ⟨by omega, by omega⟩, ⟨by omega, by omega⟩, fun _ => no, fun _ => ⟨⟨by omega, by omega⟩, ⟨by omega, by omega⟩, fun _ => no, fun _ => ⟨hb, ⟨by omega, by omega⟩, ⟨by omega, by omega⟩, fun _ => no, fun _ => ⟨⟨by omega, by omega⟩, ⟨by omega, by omega⟩, fun _ => no, fun _ => ⟨hd, ⟨by omega, by omega⟩, ⟨by omega, by omega⟩, fun _ => no, fun _ => ⟨⟨by omega, by omega⟩, ⟨by omega, by omega⟩, fun _ => no, fun _ => ⟨hb, hd, fun _ => no, fun _ => ⟨hn, fun _ => no, fun _ => ⟨⟨by omega, by omega⟩, hn, ?_, fun _ => absurd ⟨⟨by omega, by omega⟩, ⟨by omega, by omega⟩, ⟨by omega, by omega⟩, by omega, by omega, by omega⟩ q, fun _ => no⟩⟩⟩⟩⟩⟩⟩⟩⟩
    have b1 := (G.2.2.2.1 a b (by omega) (by omega) (by omega) (by omega)).1
    have b2 := (G.bnd R).2.2 a b (by omega) (by omega) (by omega) (by omega)
    exact ⟨by omega, by omega⟩
  have no1 : ¬ ((0 ≤ a ∧ a < nrN h) ∧ (0 ≤ b ∧ b < nbN h) ∧ (0 ≤ d ∧ d < nbN h) ∧ b ≠ d ∧ 1 ≤ n ∧ n ≤ h 104 (29 + 10 * a + b)) → C_X11_refuseAct w 3 h (fun z h1 => (z = 0 ∨ z = 1) → (z = 0 ∨ z = 1) → C_X12_rake w a b d n h1 (PI c z)) := no
  refine c_X11_rake ⟨R.ob, x_hasReach R ha (fun g _ => ⟨fun c => absurd c (by decide), fun _ => ⟨R.ob, x_hasBank R hb (fun g2 _ => ⟨fun c => absurd c (by decide), fun _ => ⟨R.ob, x_hasBank R hd (fun g3 _ => ⟨fun c => absurd c (by decide), fun _ => ⟨hb, hd, fun q1 => ⟨hn, fun q2 => no (by omega), fun q2 => ?_⟩, fun q1 => no (by omega)⟩⟩) (fun g3 _ => ⟨fun _ => no (fun q => g3 q.2.2.1), fun c => absurd rfl c⟩)⟩⟩) (fun g2 _ => ⟨fun _ => no (fun q => g2 q.2.1), fun c => absurd rfl c⟩)⟩⟩) (fun g _ => ⟨fun _ => no (fun q => g q.1), fun c => absurd rfl c⟩)⟩
  have e42 : h 42 (a * 10 + b) = h 104 (29 + 10 * a + b) := X.2.2.2 a b g.1 (by omega) g2.1 (by omega)
  have b1 := (G.2.2.2.1 a b g.1 (by omega) g2.1 (by omega)).1
  have b2 := (G.bnd R).2.2 a b g.1 (by omega) g2.1 (by omega)
  rw [e42]
  refine ⟨⟨by omega, by omega⟩, hn, ⟨by omega, by omega⟩, fun q3 => ?_, fun q3 => no (by omega)⟩
  refine x_store (nx := h 50 1) (cn := h 50 2) rfl ⟨by omega, by omega⟩ rfl ⟨by omega, by omega⟩ X (fun h16 F16 e1 e2 ck k2 => ⟨⟨by omega, by omega⟩, ⟨by omega, by omega⟩, fun h36 q36 => ⟨⟨by omega, by omega⟩, ⟨by omega, by omega⟩, fun h19 q19 _ => c_X12_rake ?_⟩⟩)
  have F36 : Fr h16 h36 [] [42] := by rw [q36]; exact Fr.row
  have F40 : Fr h36 h19 [] [42] := by rw [q19]; exact Fr.row
  have F19 : Fr h16 h19 [] [42] := (F36.trans F40).into (by decide)
  have F1 := F16.trans F19
  have e104 : h19 104 = h 104 := (F1.cell (C := []) (W := [104]) (by decide)).2 104 (by decide)
  have c61 : h19 68 61 = h 68 61 := (F1.cell (C := [(68, 61)]) (W := []) (by decide)).1 (68, 61) (by decide)
  have c62 : h19 68 62 = h 68 62 := (F1.cell (C := [(68, 62)]) (W := []) (by decide)).1 (68, 62) (by decide)
  have S19 : Sl h h19 := Sl.of I.2.1.rr F1 (by decide)
  rw [(sl_nb I S19).2.2.1, (sl_nb I S19).1, e104]
  refine ⟨ha, ⟨by omega, by omega⟩, ⟨by omega, by omega⟩, fun _ => by omega, fun _ => ⟨⟨by omega, by omega⟩, ⟨by omega, by omega⟩, fun _ => by omega, fun _ => ⟨hb, ⟨by omega, by omega⟩, ⟨by omega, by omega⟩, fun _ => by omega, fun _ => ⟨⟨by omega, by omega⟩, ⟨by omega, by omega⟩, fun _ => by omega, fun _ => ⟨hd, ⟨by omega, by omega⟩, ⟨by omega, by omega⟩, fun _ => by omega, fun _ => ⟨⟨by omega, by omega⟩, ⟨by omega, by omega⟩, fun _ => by omega, fun _ => ⟨hb, hd, fun _ => by omega, fun _ => ⟨hn, fun _ => by omega, fun _ => ⟨⟨by omega, by omega⟩, hn, ⟨by omega, by omega⟩, fun _ => ?_, fun _ => by omega⟩⟩⟩⟩⟩⟩⟩⟩⟩
  refine y_keeps (nw := h19 68 62) (un := h19 68 61) rfl ⟨by omega, by omega⟩ rfl ⟨by omega, by omega⟩ (fun h13 F13 f1 f2 f3 f4 => ⟨⟨by omega, by omega⟩, ⟨by omega, by omega⟩, fun h27 q27 => ⟨⟨by omega, by omega⟩, ⟨by omega, by omega⟩, fun h2 qq2 => ⟨rfl, ?_⟩⟩⟩)
  have F27 : Fr h13 h27 [] [104] := by rw [q27]; exact Fr.row
  have F31 : Fr h27 h2 [] [104] := by rw [qq2]; exact Fr.row
  have F2 : Fr h13 h2 [] [104] := (F27.trans F31).into (by decide)
  have FF : Fr h h2 actL actR := (F16.trans (F19.trans (F13.trans F2))).into (by decide)
  have S2 : Sl h h2 := Sl.of I.2.1.rr FF (by decide)
  have e104' : h13 104 = h 104 := by rw [← e104]; exact (F13.cell (C := []) (W := [104]) (by decide)).2 104 (by decide)
  refine I.act FF (by decide) (by decide) (by decide) (by decide) (by decide) (by decide) ?_ (gs_rake R G g g2 g3 q1 ⟨by omega, q3⟩) (fun i i0 i1 => ?_) ?_ ?_ ?_
  · exact I.1.2.2.2.1.fr (F16.trans (F19.trans (F13.trans F2))) (by decide)
  · rw [qq2, hu_if, q27, hu_if, hu_if, e104', if_neg (show ¬ 29 + 10 * a + d = 29 + 10 * a + b by omega)]
    rfl
  · refine SX.fr (h := h19) ?_ (Or.inl rfl) (F13.trans F2) (by decide)
    have X16 : SX h16 40 (h 104) := X.fr (Or.inl rfl) F16 (by decide)
    obtain ⟨x1, x2, x3, x4⟩ := X16
    have n42 : ∀ o : Int, o ≠ 42 → h19 o = h16 o := ne_row F19
    have lo : ∀ i : Int, i < 29 → rkP (h 104) (29 + 10 * a + b) (29 + 10 * a + d) n i = h 104 i := fun i q => by unfold rkP; rw [if_neg (by omega), if_neg (by omega)]
    refine ⟨?_, fun x x0 x1' => ?_, fun b b0 b1 => ?_, fun x e x0 x1' e0 e1' => ?_⟩
    · rw [n42 40 (by decide), lo 0 (by omega)]; exact x1
    · rw [n42 (40 + 1) (by decide), lo _ (by omega)]; exact x2 x x0 x1'
    · rw [n42 (40 + 3) (by decide), n42 (40 + 4) (by decide), lo (9 + b) (by omega), lo (19 + b) (by omega)]; exact x3 b b0 b1
    · show h19 42 _ = _
      have y1 : h16 42 (a * 10 + b) = h 104 (29 + 10 * a + b) := x4 a b g.1 (by omega) g2.1 (by omega)
      have y2 : h16 42 (a * 10 + d) = h 104 (29 + 10 * a + d) := x4 a d g.1 (by omega) g3.1 (by omega)
      have y3 : h16 42 (x * 10 + e) = h 104 (29 + 10 * x + e) := x4 x e x0 x1' e0 e1'
      rw [q19, hu_if, q36, hu_if, hu_if, y1, y2, y3, if_neg (show ¬ a * 10 + d = a * 10 + b by omega)]
      unfold rkP
      by_cases d1 : x * 10 + e = a * 10 + d
      · rw [if_pos d1, if_pos (by omega)]
      · rw [if_neg d1, if_neg (show ¬ 29 + 10 * x + e = 29 + 10 * a + d by omega)]
        by_cases d2 : x * 10 + e = a * 10 + b
        · rw [if_pos d2, if_pos (by omega)]
        · rw [if_neg d2, if_neg (by omega)]
  · exact pa_fin P G S2 e1 e2 ck k2 (F19.trans (F13.trans F2)) (by decide) F1 (by decide) f1 f2 f3 f4 F2 (by decide)
  · exact I.2.2.2.2.2.fr (F16.trans (F19.trans (F13.trans F2))) (by decide)
/-! what is given back -/
theorem x_giveBack {nx cn : Int} (e1 : h 50 1 = nx) (n0 : 0 ≤ nx ∧ nx < 20) (e2 : h 50 2 = cn) (c0 : 0 < cn ∧ cn ≤ 20) (Kk : CK h ((nx + 19) % 20) g) (k : ∀ h1, Fr h h1 [(50, 1), (50, 2), (40, 4)] [41, 42, 43, 44] → h1 50 1 = (nx + 19) % 20 → h1 50 2 = cn - 1 → SX h1 40 g → K 1 h1) : C_X5_giveBack w 40 h K := by
  refine c_X5_giveBack ob_40 ?_
  rw [e1, e2]
  refine ⟨⟨by omega, by omega⟩, fun _ => ⟨⟨by omega, by omega⟩, fun h3 q3 h5 q5 => ?_⟩, fun c => absurd (by omega) c⟩
  obtain ⟨t, ht⟩ : ∃ t, t = (nx + 19) % 20 := ⟨_, rfl⟩
  rw [show nx + 20 - 1 = nx + 19 by omega, ← ht] at q3
  rw [← ht] at Kk k
  have v1 : h5 50 1 = t := by rw [q5, hu_if, if_neg (by decide), q3, hu_if, if_pos rfl]
  have v2 : h5 50 2 = cn - 1 := by rw [q5, hu_if, if_pos rfl, q3, hu_if, if_neg (by decide), e2]
  rw [v1, show t * 109 = 109 * t by omega]
  have a1 : (40 : Int) + 1 = 41 ∧ (40 : Int) + 2 = 42 ∧ (40 : Int) + 3 = 43 ∧ (40 : Int) + 4 = 44 := by decide
  rw [a1.1, a1.2.1, a1.2.2.1, a1.2.2.2]
  refine ⟨⟨by omega, by omega⟩, fun h8 q8 => ⟨⟨by omega, by omega, by omega, by omega, by omega⟩, fun h11 q11 => ⟨⟨by omega, by omega, by omega, by omega, by omega⟩, fun h14 q14 => ⟨⟨by omega, by omega, by omega, by omega, by omega⟩, fun h17 q17 => ⟨⟨by omega, by omega, by omega, by omega, by omega⟩, fun h20 q20 => ?_⟩⟩⟩⟩⟩
  have F3 : Fr h h3 [(50, 1)] [] := by rw [q3]; exact Fr.cel
  have F5 : Fr h3 h5 [(50, 2)] [] := by rw [q5]; exact Fr.cel
  have F8 : Fr h5 h8 [(40, 4)] [] := by rw [q8]; exact Fr.cel
  have F11 : Fr h8 h11 [] [41] := by rw [q11]; exact Fr.cpy
  have F14 : Fr h11 h14 [] [42] := by rw [q14]; exact Fr.cpy
  have F17 : Fr h14 h17 [] [43] := by rw [q17]; exact Fr.cpy
  have F20 : Fr h17 h20 [] [44] := by rw [q20]; exact Fr.cpy
  have G5 := F3.trans F5
  have G8 := G5.trans F8
  have G11 := G8.trans F11
  have G14 := G11.trans F14
  have G17 := G14.trans F17
  have r5 : h5 51 = h 51 := (G5.cell (C := []) (W := [51]) (by decide)).2 51 (by decide)
  have r8 : h8 51 = h 51 := (G8.cell (C := []) (W := [51]) (by decide)).2 51 (by decide)
  have r11 : h11 51 = h 51 := (G11.cell (C := []) (W := [51]) (by decide)).2 51 (by decide)
  have r14 : h14 51 = h 51 := (G14.cell (C := []) (W := [51]) (by decide)).2 51 (by decide)
  have r17 : h17 51 = h 51 := (G17.cell (C := []) (W := [51]) (by decide)).2 51 (by decide)
  have z40 : h20 40 4 = h 51 (109 * t) := by
    have q := (F11.trans (F14.trans (F17.trans F20))).cell (C := [(40, 4)]) (W := []) (by decide)
    have := q.1 (40, 4) (by decide)
    dsimp only at this
    rw [this, q8, hu_if, if_pos rfl, r5]
  have z41 : h20 41 = h11 41 := (((F14.trans (F17.trans F20))).cell (C := []) (W := [41]) (by decide)).2 41 (by decide)
  have z42 : h20 42 = h14 42 := ((F17.trans F20).cell (C := []) (W := [42]) (by decide)).2 42 (by decide)
  have z43 : h20 43 = h17 43 := (F20.cell (C := []) (W := [43]) (by decide)).2 43 (by decide)
  have zz := (F8.trans (F11.trans (F14.trans (F17.trans F20)))).cell (C := [(50, 1), (50, 2)]) (W := []) (by decide)
  have z1 := zz.1 (50, 1) (by decide)
  have z2 := zz.1 (50, 2) (by decide)
  dsimp only at z1 z2
  refine k h20 ((G17.trans F20).into (by decide)) (z1.trans v1) (z2.trans v2) ⟨?_, fun x x0 x1 => ?_, fun b b0 b1 => ⟨?_, ?_⟩, fun x b x0 x1 b0 b1 => ?_⟩
  · rw [z40]; exact Kk.1
  · show h20 41 x = _
    rw [z41, q11, hc_if, if_pos ⟨by omega, by omega⟩, r8, ← Kk.2.1 x x0 x1]; exact congrArg _ (by omega)
  · show h20 43 b = _
    rw [z43, q17, hc_if, if_pos ⟨by omega, by omega⟩, r14, ← (Kk.2.2.2 b b0 b1).1]; exact congrArg _ (by omega)
  · show h20 44 b = _
    rw [q20, hc_if, if_pos ⟨by omega, by omega⟩, r17, ← (Kk.2.2.2 b b0 b1).2]; exact congrArg _ (by omega)
  · show h20 42 _ = _
    rw [z42, q14, hc_if, if_pos ⟨by omega, by omega⟩, r11, ← Kk.2.2.1 x b x0 x1 b0 b1]; exact congrArg _ (by omega)
theorem pa_pop {h2 : Hp} (P : PA h) (S : Sl h h2) (hu0 : 0 < h 68 61) (e1 : h2 50 1 = (h 50 1 + 19) % 20) (e2 : h2 50 2 = h 50 2 - 1) (e3 : h2 68 62 = (h 68 62 + 19) % 20) (e4 : h2 68 61 = h 68 61 - 1) (r1 : h2 51 = h 51) (r2 : h2 112 = h 112) : PA h2 := by
  obtain ⟨p1, p2, p3, p4, p5, p6, p7⟩ := P
  refine ⟨by rw [e1, e3, p1], by omega, by omega, by rw [e2, e4, p4], by omega, by omega, fun i i0 i1 => ?_⟩
  have := (p7 (i + 1) (by omega) (by omega)).fr S r1 r2
  rw [e3]
  rw [show ((h 68 62 + 19) % 20 + 20 - i) % 20 = (h 68 62 + 20 - (i + 1)) % 20 by omega, show ((h 68 62 + 19) % 20 + 21 - i) % 20 = (h 68 62 + 21 - (i + 1)) % 20 by omega]
  exact this
theorem q_undo (I : Inv c h) : C_X11_undo w h (fun z h1 => (z = 0 ∨ z = 1) → C_X12_undo w h1 (PI c z)) := by
  have R := I.2.1.1
  have P := I.2.2.2.2.1
  obtain ⟨p1, p2, p3, p4, p5, p6, p7⟩ := id P
  refine c_X11_undo ?_
  by_cases u : h 68 61 = 0
  · refine c_X5_giveBack ob_40 ⟨⟨by omega, by omega⟩, fun c => absurd (by omega) c, fun _ => ?_⟩
    refine fun _ => ⟨fun c => absurd rfl c, fun _ => x_refuseAct ⟨by decide, by decide⟩ (fun _ => ⟨fun _ _ => c_X12_undo ?_, fun c => absurd rfl c⟩)⟩
    rw [hu_ne (show (68 : Int) ≠ 59 by decide)]
    exact ⟨⟨by omega, by omega⟩, fun c => absurd u c, fun _ h2 e => ⟨rfl, fin_ref I (by decide) e⟩⟩
  · have Pi := p7 1 (by omega) (by omega)
    rw [show (h 68 62 + 20 - 1) % 20 = (h 50 1 + 19) % 20 by rw [p1]; omega, show (h 68 62 + 21 - 1) % 20 = h 68 62 by omega] at Pi
    refine x_giveBack rfl ⟨by omega, by omega⟩ rfl ⟨by omega, by omega⟩ Pi.unck (fun h1 F1 e1 e2 X1 _ => ⟨fun _ _ => c_X12_undo ?_, fun c => absurd (by decide) c⟩)
    have q := F1.cell (C := [(68, 61), (68, 62)]) (W := [104, 112, 51]) (by decide)
    have c1 := q.1 (68, 61) (by decide); have c2 := q.1 (68, 62) (by decide)
    dsimp only at c1 c2
    rw [c1]
    refine ⟨⟨by omega, by omega⟩, fun _ => ?_, fun c => absurd u c⟩
    suffices ∀ j m : Nat, m + j = 109 → ∀ h', Fr h1 h' [] [104] → (∀ i : Int, 0 ≤ i → i < m → h' 104 i = h 112 (109 * h 68 62 + i)) → L_X12_undo_21 w m h' (PI c 1) from this 109 0 (by omega) h1 (Fr.into Fr.refl (by decide)) (fun i i0 i1 => by omega)
    intro j
    induction j with
    | zero =>
      intro m e h' F' V
      obtain rfl : m = 109 := e
      have d2 : h' 68 62 = h 68 62 := by rw [ne_row F' 68 (by decide)]; exact c2
      have d1 : h' 68 61 = h 68 61 := by rw [ne_row F' 68 (by decide)]; exact c1
      refine l_X12_undo_21 ?_
      rw [d2]
      refine ⟨⟨by omega, by omega⟩, fun _ => ⟨⟨by omega, by omega⟩, fun h7 q7 h2 q9 => ⟨rfl, ?_⟩⟩, fun c => absurd (by omega) c⟩
      have F7 : Fr h' h7 [(68, 62)] [] := by rw [q7]; exact Fr.cel
      have F9 : Fr h7 h2 [(68, 61)] [] := by rw [q9]; exact Fr.cel
      have FF : Fr h h2 actL actR := (F1.trans (F'.trans (F7.trans F9))).into (by decide)
      have S2 : Sl h h2 := Sl.of I.2.1.rr FF (by decide)
      have FA := F1.trans (F'.trans (F7.trans F9))
      have FB := F'.trans (F7.trans F9)
      have w1 := (FB.cell (C := [(50, 1), (50, 2)]) (W := []) (by decide)).1 (50, 1) (by decide)
      have w2 := (FB.cell (C := [(50, 1), (50, 2)]) (W := []) (by decide)).1 (50, 2) (by decide)
      dsimp only at w1 w2
      refine I.act FF (by decide) (by decide) (by decide) (by decide) (by decide) (by decide) ?_ Pi.1 (fun i i0 i1 => ?_) ?_ (pa_pop P S2 (by omega) (w1.trans e1) (w2.trans e2) ?_ ?_ ?_ ?_) ?_
      · exact I.1.2.2.2.1.fr FA (by decide)
      · rw [hu_row q9 (by decide), hu_row q7 (by decide)]; exact V i i0 (by omega)
      · exact X1.fr (Or.inl rfl) FB (by decide)
      · rw [q9, hu_if, if_neg (by decide), q7, hu_if, if_pos rfl]; omega
      · rw [q9, hu_if, if_pos rfl, q7, hu_if, if_neg (by decide), d1]
      · exact (FA.cell (C := []) (W := [51]) (by decide)).2 51 (by decide)
      · exact (FA.cell (C := []) (W := [112]) (by decide)).2 112 (by decide)
      · exact I.2.2.2.2.2.fr FA (by decide)
    | succ j ih =>
      intro m e h' F' V
      have d2 : h' 68 62 = h 68 62 := by rw [ne_row F' 68 (by decide)]; exact c2
      refine l_X12_undo_21 ?_
      rw [d2]
      refine ⟨⟨by omega, by omega⟩, fun c => absurd c (by omega), fun _ => ⟨⟨by omega, by omega⟩, ⟨by omega, by omega⟩, fun h13 q13 => ?_⟩⟩
      have F13 : Fr h' h13 [] [104] := by rw [q13]; exact Fr.row
      refine ih (m + 1) (by omega) h13 ((F'.trans F13).into (by decide)) (fun i i0 i1 => ?_)
      rw [q13, hu_if]
      by_cases d : i = m
      · rw [if_pos d, d, ne_row F' 112 (by decide), q.2 112 (by decide)]
      · rw [if_neg d]; exact V i i0 (by omega)
end L2c
