/-! pairs of acts: flood, stone, rake, undo -/
section L2b
variable {w : Wd} {c : Int} {h h0 : Hp} {K : Int → Hp → Prop} {g : Int → Int}
theorem ne_row {h h' : Hp} {o : Int} (F : Fr h h' [] [o]) : ∀ o' : Int, o' ≠ o → h' o' = h o' := fun o' n => by funext i; exact F o' i (fun q => n (List.mem_singleton.mp q)) (fun q => absurd q List.not_mem_nil)
abbrev actL : List (Int × Int) := [(50, 1), (50, 2), (40, 4), (52, 4), (61, 5), (61, 6), (61, 7), (68, 61), (68, 62), (68, 50), (0, 17), (68, 63)]
abbrev actR : List Int := [51, 41, 42, 43, 44, 53, 54, 62, 63, 64, 65, 112, 104, 105, 102, 103, 106, 107, 108, 109, 110, 111]
theorem pa_fin {h16 h13 h2 : Hp} {L1 L2 L3 : List (Int × Int)} {R1 R2 R3 : List Int} (P : PA h) (G : GS h (h 104)) (S : Sl h h2) (e1 : h16 50 1 = (h 50 1 + 1) % 20) (e2 : h16 50 2 = (if h 50 2 ≥ 20 then h 50 2 else h 50 2 + 1)) (k1 : CK h16 (h 50 1) (h 104)) (k2 : ∀ i : Int, ¬ (109 * h 50 1 ≤ i ∧ i < 109 * h 50 1 + 109) → h16 51 i = h 51 i) (Fa : Fr h16 h2 L1 R1) (oa : okF L1 R1 [(50, 1), (50, 2)] [51] = true) {h19 : Hp} (Fb : Fr h h19 L2 R2) (ob : okF L2 R2 [(68, 61), (68, 62)] [112, 104] = true) (e3 : h13 68 62 = (h19 68 62 + 1) % 20) (e4 : h13 68 61 = (if h19 68 61 ≥ 20 then h19 68 61 else h19 68 61 + 1)) (k3 : ∀ i : Int, 0 ≤ i → i < 109 → h13 112 (109 * ((h19 68 62 + 1) % 20) + i) = h19 104 i) (k4 : ∀ i : Int, ¬ (109 * ((h19 68 62 + 1) % 20) ≤ i ∧ i < 109 * ((h19 68 62 + 1) % 20) + 109) → h13 112 i = h19 112 i) (Fc : Fr h13 h2 L3 R3) (oc : okF L3 R3 [(68, 61), (68, 62)] [112] = true) : PA h2 := by
  obtain ⟨a1, a2⟩ := Fa.cell oa
  obtain ⟨b1, b2⟩ := Fb.cell ob
  obtain ⟨c1, c2⟩ := Fc.cell oc
  have x1 := a1 (50, 1) (by decide); have x2 := a1 (50, 2) (by decide)
  have y1 := b1 (68, 61) (by decide); have y2 := b1 (68, 62) (by decide)
  have z1 := c1 (68, 61) (by decide); have z2 := c1 (68, 62) (by decide)
  dsimp only at x1 x2 y1 y2 z1 z2
  rw [y2] at e3 k3 k4
  rw [y1] at e4
  rw [b2 104 (by decide)] at k3
  rw [b2 112 (by decide)] at k4
  refine pa_push P (G.st S) S (by rw [x1]; exact e1) (by rw [x2]; exact e2) (by rw [z2]; exact e3) (by rw [z1]; exact e4) ?_ ?_ ?_ ?_
  · unfold CK at k1 ⊢
    rw [a2 51 (by decide)]; exact k1
  · rw [a2 51 (by decide)]; exact k2
  · rw [c2 112 (by decide)]; exact k3
  · rw [c2 112 (by decide)]; exact k4
theorem q_flood (I : Inv c h) {a : Int} (ha : inR a) : C_X11_flood w a h (fun z h1 => inR z ∧ C_X12_flood w a h1 (PI c z)) := by
  have R := I.2.1.1
  have nr := R.nr
  have G := I.2.2.1
  have X := I.2.2.2.1
  have P := I.2.2.2.2.1
  have y := G.1
  have no : ¬ (0 < nrN h ∧ (0 ≤ a ∧ a ≤ 9) ∧ h 104 0 < 999) → C_X11_refuse w 2 h (fun z h1 => inR z ∧ C_X12_flood w a h1 (PI c z)) := fun q => by
    refine x_refuse ⟨by decide, by decide⟩ ⟨⟨by decide, by decide⟩, c_X12_flood ?_⟩
    rw [hu_ne (show (68 : Int) ≠ 59 by decide), hu_ne (show (104 : Int) ≠ 59 by decide), nr.1]
    exact ⟨⟨by omega, by omega⟩, fun _ h2 e => ⟨rfl, fin_ref I (by decide) e⟩, fun _ => ⟨ha, ⟨by omega, by omega⟩, fun _ h2 e => ⟨rfl, fin_ref I (by decide) e⟩, fun _ => ⟨⟨by omega, by omega⟩, fun _ h2 e => ⟨rfl, fin_ref I (by decide) e⟩, fun _ => ⟨⟨by omega, by omega⟩, fun _ => by omega, fun _ h2 e => ⟨rfl, fin_ref I (by decide) e⟩⟩⟩⟩⟩
  refine c_X11_flood ?_
  rw [nr.2.2.1, X.1]
  refine ⟨R.ob, ⟨by omega, by omega⟩, fun _ => no (by omega), fun q0 => ⟨ha, fun _ => no (by omega), fun q1 => ⟨ha, fun _ => no (by omega), fun q2 => ⟨⟨by omega, by omega⟩, fun q3 => ?_, fun _ => no (by omega)⟩⟩⟩⟩
  have C := I.cx (lv := a) ⟨by omega, by omega⟩
  have p1 := P.1
  have p2 := P.2.2.2.1
  have p3 := P.2.2.2.2.1
  have p4 := P.2.2.2.2.2.1
  have p5 := P.2.1
  have p6 := P.2.2.1
  refine x_store (nx := h 50 1) (cn := h 50 2) rfl ⟨by omega, by omega⟩ rfl ⟨by omega, by omega⟩ X (fun h16 F16 e1 e2 ck k2 => ?_)
  have S16 : Sl h h16 := Sl.of I.2.1.rr F16 (by decide)
  refine x_passYear (Or.inl rfl) C S16 (X.fr (Or.inl rfl) F16 (by decide)) (I.2.2.2.2.2.fr F16 (by decide)) (fun h19 F19 S19 X19 B19 => ?_)
  have b := sa_b C
  refine ⟨⟨by omega, by omega⟩, c_X12_flood ?_⟩
  have F1 := F16.trans F19
  have e104 : h19 104 = h 104 := (F1.cell (C := []) (W := [104]) (by decide)).2 104 (by decide)
  have c61 : h19 68 61 = h 68 61 := (F1.cell (C := [(68, 61)]) (W := []) (by decide)).1 (68, 61) (by decide)
  have c62 : h19 68 62 = h 68 62 := (F1.cell (C := [(68, 62)]) (W := []) (by decide)).1 (68, 62) (by decide)
  rw [(sl_nb I S19).2.2.1, e104]
  refine ⟨⟨by omega, by omega⟩, fun _ => by omega, fun _ => ⟨ha, ⟨by omega, by omega⟩, fun _ => by omega, fun _ => ⟨⟨by omega, by omega⟩, fun _ => by omega, fun _ => ⟨⟨by omega, by omega⟩, fun _ => ?_, fun _ => by omega⟩⟩⟩⟩
  refine y_keeps (nw := h19 68 62) (un := h19 68 61) rfl ⟨by omega, by omega⟩ rfl ⟨by omega, by omega⟩ (fun h13 F13 f1 f2 f3 f4 => ?_)
  have S13 : Sl h h13 := S19.tr (Sl.of (by rw [S19.1]; exact I.2.1.rr) F13 (by decide))
  have e104' : h13 104 = h 104 := by rw [← e104]; exact (F13.cell (C := []) (W := [104]) (by decide)).2 104 (by decide)
  refine y_yearGoes C S13 (fun i _ _ => by rw [e104']) (fun h2 F2 S2 V2 => ⟨rfl, ?_⟩)
  have FF : Fr h h2 actL actR := (F16.trans (F19.trans (F13.trans F2))).into (by decide)
  refine I.act FF (by decide) (by decide) (by decide) (by decide) (by decide) (by decide) ?_ (gs_year C q3) V2 (X19.fr (Or.inl rfl) (F13.trans F2) (by decide)) ?_ (B19.fr (F13.trans F2) (by decide))
  · exact I.1.2.2.2.1.fr (F16.trans (F19.trans (F13.trans F2))) (by decide)
  · exact pa_fin P G S2 e1 e2 ck k2 (F19.trans (F13.trans F2)) (by decide) F1 (by decide) f1 f2 f3 f4 F2 (by decide)
theorem gs_stone {r : Int} (R : RR h r) (G : GS h g) {a v : Int} (ha : 0 ≤ a ∧ a < nrN h) (hv : 0 ≤ v ∧ v ≤ 3) : GS h (fun i => if i = 1 + a then v else g i) := by
  have nr := R.nr
  obtain ⟨g1, g2, g3, g4, g5⟩ := G
  refine ⟨by dsimp only; rw [if_neg (by omega)]; exact g1, fun x x0 x1 => ?_, fun b b0 b1 => ?_, fun x b x0 x1 b0 b1 => ?_, ?_⟩
  · dsimp only
    by_cases q : 1 + x = 1 + a
    · rw [if_pos q]; omega
    · rw [if_neg q]; exact g2 x x0 x1
  · dsimp only
    rw [if_neg (by omega), if_neg (by omega)]; exact g3 b b0 b1
  · dsimp only
    rw [if_neg (by omega)]; exact g4 x b x0 x1 b0 b1
  · rw [← g5, sm_congr (n := 8) (fun r r0 r1 => sm_congr (n := 10) (fun b b0 b1 => if_neg (show ¬ 29 + 10 * r + b = 1 + a by omega))), sm_congr (n := 10) (fun b b0 b1 => if_neg (show ¬ 9 + b = 1 + a by omega)), sm_congr (n := 10) (fun b b0 b1 => if_neg (show ¬ 19 + b = 1 + a by omega))]
theorem q_stone (I : Inv c h) {a s : Int} (ha : inR a) (hs : s = 0 ∨ s = 1) : C_X11_stone w a s h (fun z h1 => (z = 0 ∨ z = 1) → C_X12_stone w a s h1 (PI c z)) := by
  have R := I.2.1.1
  have nr := R.nr
  have G := I.2.2.1
  have X := I.2.2.2.1
  have P := I.2.2.2.2.1
  have p1 := P.1
  have p2 := P.2.2.2.1
  have p3 := P.2.2.2.2.1
  have p4 := P.2.2.2.2.2.1
  have p5 := P.2.1
  have p6 := P.2.2.1
  have no : ¬ ((0 ≤ a ∧ a < nrN h) ∧ ((s = 0 ∧ h 104 (1 + a) ≠ 0) ∨ (s = 1 ∧ h 104 (1 + a) ≠ 3))) → C_X11_refuseAct w 3 h (fun z h1 => (z = 0 ∨ z = 1) → (z = 0 ∨ z = 1) → C_X12_stone w a s h1 (PI c z)) := fun q => by
    refine x_refuseAct ⟨by decide, by decide⟩ (fun _ _ => c_X12_stone hs ?_)
    rw [hu_ne (show (68 : Int) ≠ 59 by decide), hu_ne (show (104 : Int) ≠ 59 by decide), nr.1]
    have gg : 0 ≤ a → a < 8 → 0 ≤ h 104 (1 + a) ∧ h 104 (1 + a) ≤ 3 := fun q1 q2 => by have := G.2.1 a q1 q2; omega
    exact ⟨ha, ⟨by omega, by omega⟩, ⟨by omega, by omega⟩, fun _ h2 e => ⟨rfl, fin_ref I (by decide) e⟩, fun _ => ⟨⟨by omega, by omega⟩, ⟨by omega, by omega⟩, fun _ h2 e => ⟨rfl, fin_ref I (by decide) e⟩, fun _ => ⟨⟨by omega, by omega⟩, fun _ => ⟨⟨by omega, by omega⟩, fun _ => absurd ⟨⟨by omega, by omega⟩, by omega⟩ q, fun _ h2 e => ⟨rfl, fin_ref I (by decide) e⟩⟩, fun _ => ⟨⟨by omega, by omega⟩, fun _ => absurd ⟨⟨by omega, by omega⟩, by omega⟩ q, fun _ h2 e => ⟨rfl, fin_ref I (by decide) e⟩⟩⟩⟩⟩
  have ye : (0 ≤ a ∧ a < nrN h) → ∀ v, ((s = 0 ∧ v = h 104 (1 + a) + (-1)) ∨ (s = 1 ∧ v = h 104 (1 + a) + 1)) → 0 ≤ v → v ≤ 3 → C_X5_store w 40 h (fun _ h12 => (0 ≤ a ∧ a < 8) ∧ (∀ h15 : Hp, h15 = hu h12 41 a v → ((1 : Int) = 0 ∨ (1 : Int) = 1) → C_X12_stone w a s h15 (PI c 1))) := fun g v hv v0 v3 => by
    refine x_store (nx := h 50 1) (cn := h 50 2) rfl ⟨by omega, by omega⟩ rfl ⟨by omega, by omega⟩ X (fun h16 F16 e1 e2 ck k2 => ⟨⟨g.1, by omega⟩, fun h19 q19 _ => c_X12_stone hs ?_⟩)
    have F19 : Fr h16 h19 [] [41] := by rw [q19]; exact Fr.row
    have F1 := F16.trans F19
    have e104 : h19 104 = h 104 := (F1.cell (C := []) (W := [104]) (by decide)).2 104 (by decide)
    have c61 : h19 68 61 = h 68 61 := (F1.cell (C := [(68, 61)]) (W := []) (by decide)).1 (68, 61) (by decide)
    have c62 : h19 68 62 = h 68 62 := (F1.cell (C := [(68, 62)]) (W := []) (by decide)).1 (68, 62) (by decide)
    have S19 : Sl h h19 := Sl.of I.2.1.rr F1 (by decide)
    rw [(sl_nb I S19).2.2.1, e104]
    have gg := G.2.1 a g.1 (by omega)
    have go : ∀ K' : Int → Hp → Prop, (∀ h13 : Hp, h13 104 (1 + a) = h 104 (1 + a) → (∀ h2 : Hp, h2 = hu h13 104 (1 + a) v → PI c 1 1 h2) → K' 0 h13) → C_X12_keeps w h19 K' := fun K' kk => by
      refine y_keeps (nw := h19 68 62) (un := h19 68 61) rfl ⟨by omega, by omega⟩ rfl ⟨by omega, by omega⟩ (fun h13 F13 f1 f2 f3 f4 => kk h13 (by rw [(F13.cell (C := []) (W := [104]) (by decide)).2 104 (by decide), e104]) (fun h2 q2 => ⟨rfl, ?_⟩))
      have F2 : Fr h13 h2 [] [104] := by rw [q2]; exact Fr.row
      have FF : Fr h h2 actL actR := (F16.trans (F19.trans (F13.trans F2))).into (by decide)
      have S2 : Sl h h2 := Sl.of I.2.1.rr FF (by decide)
      have e104' : h13 104 = h 104 := by rw [← e104]; exact (F13.cell (C := []) (W := [104]) (by decide)).2 104 (by decide)
      refine I.act FF (by decide) (by decide) (by decide) (by decide) (by decide) (by decide) ?_ (gs_stone R G g ⟨v0, v3⟩) (fun i i0 i1 => ?_) ?_ ?_ ?_
      · exact I.1.2.2.2.1.fr (F16.trans (F19.trans (F13.trans F2))) (by decide)
      · rw [q2, hu_if, e104']
      · have r := F13.trans F2
        refine SX.fr (h := h19) ?_ (Or.inl rfl) r (by decide)
        have X16 : SX h16 40 (h 104) := X.fr (Or.inl rfl) F16 (by decide)
        obtain ⟨x1, x2, x3, x4⟩ := X16
        have n41 : ∀ o : Int, o ≠ 41 → h19 o = h16 o := ne_row F19
        refine ⟨?_, fun x x0 x1' => ?_, fun b b0 b1 => ?_, fun x b x0 x1' b0 b1 => ?_⟩
        · dsimp only; rw [n41 40 (by decide), if_neg (by omega)]; exact x1
        · show h19 41 x = _
          dsimp only
          rw [q19, hu_if]
          by_cases q : x = a
          · rw [if_pos q, if_pos (by omega)]
          · rw [if_neg q, if_neg (by omega)]; exact x2 x x0 x1'
        · dsimp only
          rw [n41 (40 + 3) (by decide), n41 (40 + 4) (by decide), if_neg (by omega), if_neg (by omega)]; exact x3 b b0 b1
        · dsimp only
          rw [n41 (40 + 2) (by decide), if_neg (by omega)]; exact x4 x b x0 x1' b0 b1
      · exact pa_fin P G S2 e1 e2 ck k2 (F19.trans (F13.trans F2)) (by decide) F1 (by decide) f1 f2 f3 f4 F2 (by decide)
      · exact I.2.2.2.2.2.fr (F16.trans (F19.trans (F13.trans F2))) (by decide)
    refine ⟨ha, ⟨by omega, by omega⟩, ⟨by omega, by omega⟩, fun _ => by omega, fun _ => ⟨⟨by omega, by omega⟩, ⟨by omega, by omega⟩, fun _ => by omega, fun _ => ⟨⟨by omega, by omega⟩, fun q => ⟨⟨by omega, by omega⟩, fun q2 => ?_, fun q2 => by omega⟩, fun q => ⟨⟨by omega, by omega⟩, fun q2 => ?_, fun q2 => by omega⟩⟩⟩⟩
    · refine go _ (fun h13 e13 k => ⟨⟨by omega, by omega⟩, fun _ => ⟨⟨by omega, by omega⟩, fun h17 e17 => k h17 ?_⟩, fun q3 => absurd q q3⟩)
      rw [e17, e13, show v = h 104 (1 + a) + (-1) by omega]
    · refine go _ (fun h13 e13 k => ⟨⟨by omega, by omega⟩, fun q3 => absurd q3 q, fun _ => ⟨⟨by omega, by omega⟩, fun h17 e17 => k h17 ?_⟩⟩)
      rw [e17, e13, show v = h 104 (1 + a) + 1 by omega]
  refine c_X11_stone hs ⟨R.ob, x_hasReach R ha (fun g _ => ⟨fun _ => ?_, fun c => absurd (by decide) c⟩) (fun g _ => ⟨fun c => absurd rfl c, fun _ => no (fun q => g q.1)⟩)⟩
  have e41 : h 41 a = h 104 (1 + a) := X.2.1 a g.1 (by omega)
  have gg := G.2.1 a g.1 (by omega)
  rw [e41]
  exact ⟨⟨g.1, by omega⟩, fun q => ⟨⟨by omega, by omega⟩, fun q2 => no (by omega), fun q2 => ⟨⟨by omega, by omega⟩, fun q3 => ye g _ (Or.inl ⟨q, rfl⟩) (by omega) q3, fun q3 => no (by omega)⟩⟩, fun q => ⟨⟨by omega, by omega⟩, fun q2 => by omega, fun q2 => ⟨⟨by omega, by omega⟩, fun q3 => ye g _ (Or.inr ⟨by omega, rfl⟩) (by omega) q3, fun q3 => no (by omega)⟩⟩⟩
end L2b
