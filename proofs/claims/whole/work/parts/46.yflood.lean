/-! the reference's flood -/
def AY (h0 h : Hp) (st g : Int → Int) : Prop := Sl h0 h ∧ (∀ x : Int, 0 ≤ x → x < nrN h0 → h 105 x = st x) ∧ (∀ i : Int, 0 ≤ i → i < 109 → h 104 i = g i)
/-- what a flood leaves: holdsThen, cutOf, seaBy, carriedOut, settled -/
def YV (h0 : Hp) (st : Int → Int) (lv : Int) (g : Int → Int) (h : Hp) : Prop :=
  (∀ b : Int, 0 ≤ b → b < 10 → h 106 b = g (9 + b) - (if b < nbN h0 then cuP h0 st lv (g 0) b (g (9 + b)) else 0) ∧ h 107 b = (if b < nbN h0 then cuP h0 st lv (g 0) b (g (9 + b)) else 0) ∧ h 111 b = (if b < nbN h0 then caP h0 st lv g b (nrN h0) else 0)) ∧
  (∀ (x : Nat) (b : Int), x < 8 → 0 ≤ b → b < 10 → h 110 (10 * (x : Int) + b) = (if x < nrN h0 ∧ b < nbN h0 then sdP h0 st lv g b x else 0) ∧ (x < nrN h0 → b < nbN h0 → h 109 (10 * (x : Int) + b) = caP h0 st lv g b (x + 1)))
abbrev yfR : List Int := [102, 103, 106, 107, 108, 109, 110, 111]
section L2R
variable {w : Wd} {h h0 : Hp} {K : Int → Hp → Prop} {r lv : Int} {st g : Int → Int}
theorem AY.fr (A : AY h0 h st g) (C : CX h0 r lv st g) {h' : Hp} {L : List (Int × Int)} {R : List Int} (F : Fr h h' L R) (ok : okS L R = true) (ok2 : okF L R [] [104, 105] = true) : AY h0 h' st g := by
  obtain ⟨a1, a2, a3⟩ := A
  obtain ⟨-, q⟩ := F.cell ok2
  have S : Sl h h' := Sl.of (by rw [a1.1]; exact C.rr.2) F ok
  refine ⟨a1.tr S, ?_, ?_⟩
  · rw [q 105 (by decide)]; exact a2
  · rw [q 104 (by decide)]; exact a3
theorem AY.fl (A : AY h0 h st g) (C : CX h0 r lv st g) {x : Int} (hx : 0 ≤ x ∧ x < nrN h0) : (if (lv + h 95 (8 + x)) - 3 * h 105 x ≥ 0 then (lv + h 95 (8 + x)) - 3 * h 105 x else 0) = flP h0 st lv x ∧ inR ((lv + h 95 (8 + x)) - 3 * h 105 x) ∧ 0 ≤ flP h0 st lv x ∧ flP h0 st lv x ≤ 18 := by
  have hnr := C.1.nr
  have e1 := A.1.2.2.2.2.2.2.1 (8 + x) (by omega)
  have e2 := C.1.sl x hx.1 (by omega)
  have e3 := A.2.1 x hx.1 hx.2
  have e4 := C.2.2.2.2.1 x hx.1 (by omega)
  have e5 := C.2.2.2.1
  rw [e1, e3]
  unfold flP
  refine ⟨by split <;> omega, ⟨by omega, by omega⟩, by omega, by omega⟩
theorem y_flowOf (C : CX h0 r lv st g) (A : AY h0 h st g) {x : Int} (hx : 0 ≤ x ∧ x < nrN h0) (k : K (flP h0 st lv x) h) : C_X12_flowOf w x lv h K := by
  have f := A.fl C hx
  rw [← f.1] at k
  have hnr := C.1.nr
  refine c_X12_flowOf ⟨⟨by omega, by omega⟩, ⟨by omega, by omega⟩, f.2.1, fun q => ?_, fun q => ?_⟩
  · rw [if_pos q] at k; exact k
  · rw [if_neg q] at k; exact k
theorem y_asksOf (C : CX h0 r lv st g) (A : AY h0 h st g) {b x hd : Int} (hb : 0 ≤ b ∧ b < 10) (hx : 0 ≤ x ∧ x < nrN h0) (k : ∀ h1, Fr h h1 [] [103] → (∀ j : Int, 0 ≤ j → j < 7 → h1 103 j = knP h0 st lv (g 0) x b hd j) → K 0 h1) : C_X12_asksOf w b x lv hd h K := by
  have fl := A.fl C hx
  have hnr := C.1.nr
  have hx8 : 0 ≤ x ∧ x < 8 := ⟨hx.1, by omega⟩
  obtain ⟨a1, a2, a3⟩ := id A
  have s96 := a1.2.2.2.2.2.2.2.1 (50 + 5 * b + 4) (by omega)
  have go : ∀ k1 f : _, k1 = hu h 103 0 lv → f = flP h0 st lv x → ∀ k6, k6 = hu k1 103 1 f → (0 ≤ ((50 + (5 * b)) + 4) ∧ ((50 + (5 * b)) + 4) < 100) ∧ (∀ h9 : Hp, h9 = hu k6 103 2 (k6 96 ((50 + (5 * b)) + 4)) → ∀ h11 : Hp, h11 = hu h9 103 3 hd → (0 ≤ x ∧ x < 8) ∧ (∀ h14 : Hp, h14 = hu h11 103 4 (h11 105 x) → ∀ h16 : Hp, h16 = hu h14 103 5 (h14 104 0) → ∀ h18 : Hp, h18 = hu h16 103 6 x → K 0 h18)) := by
    intro k1 f e1 ef k6 e6
    subst ef
    refine ⟨⟨by omega, by omega⟩, fun k9 e9 k11 e11 => ⟨hx8, fun k14 e14 k16 e16 k18 e18 => ?_⟩⟩
    have E6 : ∀ o : Int, o ≠ 103 → k6 o = h o := fun o n => (hu_row e6 n).trans (hu_row e1 n)
    have E11 : ∀ o : Int, o ≠ 103 → k11 o = h o := fun o n => (hu_row e11 n).trans ((hu_row e9 n).trans (E6 o n))
    have E14 : ∀ o : Int, o ≠ 103 → k14 o = h o := fun o n => (hu_row e14 n).trans (E11 o n)
    have E18 : ∀ o : Int, o ≠ 103 → k18 o = h o := fun o n => (hu_row e18 n).trans ((hu_row e16 n).trans (E14 o n))
    have F : Fr h k18 [] [103] := fun o i q _ => by rw [E18 o (fun g => q (by rw [g]; exact List.mem_singleton.mpr rfl))]
    refine k k18 F (fun j j0 j1 => ?_)
    rw [e18, hu_if, e16, hu_if, E14 104 (by decide), e14, hu_if, E11 105 (by decide), e11, hu_if, e9, hu_if, E6 96 (by decide), e6, hu_if, e1, hu_if, a3 0 (by omega) (by omega), a2 x hx.1 hx.2, s96]
    unfold knP
    rcases (show j = 0 ∨ j = 1 ∨ j = 2 ∨ j = 3 ∨ j = 4 ∨ j = 5 ∨ j = 6 by omega) with rfl | rfl | rfl | rfl | rfl | rfl | rfl <;> rfl
  refine c_X12_asksOf (fun k1 e1 => ?_)
  rw [hu_row e1 (show (95 : Int) ≠ 103 by decide), hu_row e1 (show (105 : Int) ≠ 103 by decide)]
  refine ⟨⟨by omega, by omega⟩, hx8, fl.2.1, fun q k6 e6 => ?_, fun q k6 e6 => ?_⟩
  · rw [if_pos q] at fl
    exact go k1 _ e1 fl.1 k6 e6
  · rw [if_neg q] at fl
    exact go k1 _ e1 fl.1 k6 e6
theorem clm_t {v m : Int} : (if v ≥ 0 then (if v ≤ m then v else m) else 0) = clm v m := by
  unfold clm
  by_cases q : v < 0
  · rw [if_pos q, if_neg (by omega)]
  · rw [if_neg q, if_pos (by omega)]
    by_cases q2 : v > m
    · rw [if_pos q2, if_neg (by omega)]
    · rw [if_neg q2, if_pos (by omega)]
/-- a river's formula, told -/
theorem y_value (C : CX h0 r lv st g) (A : AY h0 h st g) {a o yr x b hd m : Int} (ho : (o = r + 13 ∧ a = 0) ∨ (o = r + 15 ∧ a = 1)) (hm : 0 ≤ m ∧ m ≤ 1000) (hx : 0 ≤ x ∧ x < nrN h0) (hb : 0 ≤ b ∧ b < nbN h0) (hh : 0 ≤ hd ∧ hd ≤ 1000) (hy : 0 ≤ yr ∧ yr ≤ 999) (hk : ∀ j : Int, 0 ≤ j → j < 7 → h 103 j = knP h0 st lv yr x b hd j) (hn : h0 98 (2 + a) ≠ -1) (k : ∀ h1, Fr h h1 [(68, 50)] [102] → K (clm (vaP h0 o (knP h0 st lv yr x b hd)) m) h1) : C_X12_told w a m h K := by
  have hr := C.rr.1
  have I : FQ h0 o a := by
    have := C.2.2.1.of hb
    rw [← C.2.1] at this
    rcases ho with ⟨rfl, rfl⟩ | ⟨rfl, rfl⟩
    · exact this.1
    · exact this.2
  rcases I with ⟨_, I⟩ | ⟨n, n0, n1, hn', W, hf, c1, c2, c3, c4⟩
  · exact absurd I hn
  have s98 := A.1.2.2.2.2.2.2.2.2.2.1 (2 + a) (by omega)
  have s99 := A.1.2.2.2.2.2.2.2.2.2.2.1 (2 + a) (by omega)
  have s100 := A.1.2.2.2.2.2.2.2.2.2.2.2
  have B : ∀ j : Int, -1000000 ≤ knP h0 st lv yr x b hd j ∧ knP h0 st lv yr x b hd j ≤ 1000000 := fun j => by
    have q1 := C.2.2.2.1
    have q2 := (A.fl C hx).2.2
    have hnr := C.1.nr
    have q3 := C.2.2.2.2.1 x hx.1 (by omega)
    have q4 := (C.1.bk hb.1 hb.2).2.2.2.2.2
    unfold knP
    repeat' split
    all_goals omega
  refine y_told (a2 := m) (fr := h0 98 (2 + a)) (n := n) (kn := knP h0 st lv yr x b hd) (ly := z0) (ho := z0) (f := h0 (o + 1)) ⟨by omega, by omega⟩ ⟨by omega, by omega⟩ W hf (fun i hi => by rw [s100 _ (by omega)]; exact c4 i hi) s98 (by rw [s99]; exact c2) c1 c3 B (fun j => ⟨by unfold z0; omega, by unfold z0; omega⟩) (fun j => ⟨by unfold z0; omega, by unfold z0; omega⟩) hk (fun v h1 F _ e => ?_)
  have ev : v = vaP h0 o (knP h0 st lv yr x b hd) := by
    rw [e]; unfold vaP; rw [hn', Int.toNat_natCast]
  have := k h1 F
  rw [← ev, ← clm_t] at this
  exact this
theorem FQ.nz (C : CX h0 r lv st g) {b : Int} (hb : 0 ≤ b ∧ b < nbN h0) : (h0 (r + 13) 1 = 0 ↔ h0 98 2 = -1) ∧ (h0 (r + 15) 1 = 0 ↔ h0 98 3 = -1) ∧ inR (h0 98 2) ∧ inR (h0 98 3) := by
  have I := C.2.2.1.of hb
  rw [← C.2.1] at I
  have e2 : (2 : Int) + 0 = 2 := rfl
  have e3 : (2 : Int) + 1 = 3 := rfl
  obtain ⟨I, J⟩ := I
  unfold FQ at I J
  rw [e2] at I
  rw [e3] at J
  have i : (h0 (r + 13) 1 = 0 ↔ h0 98 2 = -1) ∧ inR (h0 98 2) := by
    rcases I with I | ⟨n, q1, q2, q3, _, _, q4, _, q5, _⟩
    · exact ⟨⟨fun _ => I.2, fun _ => I.1⟩, by rw [I.2]; exact ⟨by omega, by omega⟩⟩
    · exact ⟨⟨fun q => by omega, fun q => by omega⟩, ⟨by omega, by omega⟩⟩
  have j : (h0 (r + 15) 1 = 0 ↔ h0 98 3 = -1) ∧ inR (h0 98 3) := by
    rcases J with I | ⟨n, q1, q2, q3, _, _, q4, _, q5, _⟩
    · exact ⟨⟨fun _ => I.2, fun _ => I.1⟩, by rw [I.2]; exact ⟨by omega, by omega⟩⟩
    · exact ⟨⟨fun q => by omega, fun q => by omega⟩, ⟨by omega, by omega⟩⟩
  exact ⟨i.1, j.1, i.2, j.2⟩
theorem y_isCut (C : CX h0 r lv st g) (A : AY h0 h st g) {b : Int} {n : Nat} (hb : 0 ≤ b ∧ b < nbN h0) (hn : n < nrN h0) (hl : lv ≠ 0) (hh : h 106 b = g (9 + b)) (kn : plP h0 b ≠ n → K 0 h) (k : plP h0 b = n → ∀ h1, Fr h h1 [(68, 50)] [102, 103, 106, 107, 108] → (∀ i : Int, h1 106 i = if i = b then g (9 + b) - cuP h0 st lv (g 0) b (g (9 + b)) else h 106 i) → (∀ i : Int, h1 107 i = if i = b then h 107 b + cuP h0 st lv (g 0) b (g (9 + b)) else h 107 i) → (∀ i : Int, h1 108 i = if i = b then h 108 b + cuP h0 st lv (g 0) b (g (9 + b)) else h 108 i) → K 0 h1) : C_X12_isCut w b n lv h K := by
  have hnb := C.1.nb
  have hbk := C.1.bk hb.1 hb.2
  have hnr := C.1.nr
  have nz := FQ.nz C hb
  have gh := GS.hl C.2.2.2.2.2 (b := b) ⟨hb.1, by omega⟩
  have gy := C.2.2.2.2.2.1
  have s96 : h 96 (50 + 5 * b + 2) = plP h0 b := A.1.2.2.2.2.2.2.2.1 (50 + 5 * b + 2) (by omega)
  have s98 : h 98 2 = h0 98 2 := A.1.2.2.2.2.2.2.2.2.2.1 2 (by omega)
  have pb : 0 ≤ plP h0 b ∧ plP h0 b < h0 68 36 := hbk.2.2.1.2
  refine c_X12_isCut ?_
  rw [s96, s98, hh]
  refine ⟨⟨by omega, by omega⟩, ⟨by omega, by omega⟩, ⟨by omega, by omega⟩, kn, fun q => ⟨nz.2.2.1, fun q2 => ⟨⟨hb.1, by omega⟩, ?_⟩, fun q2 => ?_⟩⟩
  · have q := Classical.not_not.mp q
    refine y_asksOf C A ⟨hb.1, by omega⟩ ⟨by omega, by omega⟩ (fun h7 F7 V7 => ⟨⟨hb.1, by omega⟩, ?_⟩)
    have A7 := A.fr C F7 (by decide) (by decide)
    rw [show h7 106 = h 106 from (F7.cell (C := []) (W := [106]) (by decide)).2 106 (by decide), hh]
    refine y_value C A7 (a := 0) (o := r + 13) (yr := g 0) (x := n) (b := b) (hd := g (9 + b)) (Or.inl ⟨rfl, rfl⟩) ⟨by omega, by omega⟩ ⟨by omega, by omega⟩ hb ⟨by omega, by omega⟩ ⟨by omega, by omega⟩ V7 q2 (fun h11 F11 => ⟨⟨hb.1, by omega⟩, ⟨hb.1, by omega⟩, fun h15 e15 => ⟨⟨hb.1, by omega⟩, ⟨hb.1, by omega⟩, fun h19 e19 => ⟨⟨hb.1, by omega⟩, ⟨hb.1, by omega⟩, fun h23 e23 => ?_⟩⟩⟩)
    have ec : clm (vaP h0 (r + 13) (knP h0 st lv (g 0) n b (g (9 + b)))) (g (9 + b)) = cuP h0 st lv (g 0) b (g (9 + b)) := by
      unfold cuP
      rw [← C.2.1, if_neg (fun q3 => q3.elim hl (fun q4 => q2 (nz.1.mp q4))), q]
    rw [ec] at e15 e19 e23
    have FF := F7.trans F11
    have r106 : h11 106 = h 106 := (FF.cell (C := []) (W := [106]) (by decide)).2 106 (by decide)
    have r107 : h15 107 = h 107 := by rw [hu_row e15 (by decide)]; exact (FF.cell (C := []) (W := [107]) (by decide)).2 107 (by decide)
    have r108 : h19 108 = h 108 := by rw [hu_row e19 (by decide), hu_row e15 (by decide)]; exact (FF.cell (C := []) (W := [108]) (by decide)).2 108 (by decide)
    have FA : Fr h11 h15 [] [106] := by rw [e15]; exact Fr.row
    have FB : Fr h15 h19 [] [107] := by rw [e19]; exact Fr.row
    have FC : Fr h19 h23 [] [108] := by rw [e23]; exact Fr.row
    refine k q h23 ((FF.trans (FA.trans (FB.trans FC))).into rfl) (fun i => ?_) (fun i => ?_) (fun i => ?_)
    · rw [hu_row e23 (by decide), hu_row e19 (by decide), e15, hu_if, r106, hh]
    · rw [hu_row e23 (by decide), e19, hu_if, r107]
    · rw [e23, hu_if, r108]
  · have q := Classical.not_not.mp q
    have q2 := Classical.not_not.mp q2
    have ec : cuP h0 st lv (g 0) b (g (9 + b)) = 0 := by
      unfold cuP
      rw [← C.2.1, if_pos (Or.inr (nz.1.mpr q2))]
    refine k q h (Fr.into Fr.refl rfl) (fun i => ?_) (fun i => ?_) (fun i => ?_)
    · rw [ec]
      by_cases c : i = b
      · rw [if_pos c, c, hh]; omega
      · rw [if_neg c]
    · rw [ec]
      by_cases c : i = b
      · rw [if_pos c, c]; omega
      · rw [if_neg c]
    · rw [ec]
      by_cases c : i = b
      · rw [if_pos c, c]; omega
      · rw [if_neg c]
theorem y_settlesOf (C : CX h0 r lv st g) (A : AY h0 h st g) {b : Int} {n : Nat} (hb : 0 ≤ b ∧ b < nbN h0) (hn : n < nrN h0) (hl : lv ≠ 0) {c : Int} (hc : h 108 b = c) (hc2 : 0 ≤ c ∧ c ≤ 1000) (k : ∀ h1, Fr h h1 [(68, 50)] [102, 103] → K (seP h0 st lv (g 0) n b c) h1) : C_X12_settlesOf w b n lv h K := by
  have hnb := C.1.nb
  have hnr := C.1.nr
  have hbk := C.1.bk hb.1 hb.2
  have nz := FQ.nz C hb
  have fl := A.fl C (x := n) ⟨by omega, by omega⟩
  have gy := C.2.2.2.2.2.1
  have s96 : h 96 (50 + 5 * b + 4) = h0 96 (50 + 5 * b + 4) := A.1.2.2.2.2.2.2.2.1 (50 + 5 * b + 4) (by omega)
  have s98 : h 98 3 = h0 98 3 := A.1.2.2.2.2.2.2.2.2.2.1 3 (by omega)
  have kk := k h (Fr.into Fr.refl rfl)
  have szb := hbk.2.2.2.2
  have e5 : seP h0 st lv (g 0) n b c = if c = 0 then 0 else if h0 98 3 = -1 then (if h0 96 (50 + 5 * b + 4) ≤ flP h0 st lv n then 0 else c) else clm (vaP h0 (r + 15) (knP h0 st lv (g 0) n b c)) c := by
    unfold seP
    rw [← C.2.1]
    by_cases q : c = 0
    · rw [if_pos (Or.inr q), if_pos q]
    · rw [if_neg (by omega), if_neg q]
      by_cases q2 : h0 98 3 = -1
      · rw [if_pos (nz.2.1.mpr q2), if_pos q2]
      · rw [if_neg (fun q3 => q2 (nz.2.1.mp q3)), if_neg q2]
  refine c_X12_settlesOf ?_
  rw [s96, s98, hc]
  refine ⟨⟨hb.1, by omega⟩, ⟨by omega, by omega⟩, fun q => ⟨nz.2.2.2, fun q2 => ⟨⟨hb.1, by omega⟩, ?_⟩, fun q2 => ⟨⟨by omega, by omega⟩, ⟨by omega, by omega⟩, ⟨by omega, by omega⟩, fl.2.1, fun q3 => ⟨⟨by omega, by omega⟩, fl.2.1, fun q4 => ?_, fun q4 => ⟨⟨hb.1, by omega⟩, ?_⟩⟩, fun q3 => ⟨⟨by omega, by omega⟩, fun q4 => ?_, fun q4 => ⟨⟨hb.1, by omega⟩, ?_⟩⟩⟩⟩, fun q => ?_⟩
  · refine y_asksOf C A ⟨hb.1, by omega⟩ ⟨by omega, by omega⟩ (fun h7 F7 V7 => ⟨⟨hb.1, by omega⟩, ?_⟩)
    have A7 := A.fr C F7 (by decide) (by decide)
    rw [show h7 108 = h 108 from (F7.cell (C := []) (W := [108]) (by decide)).2 108 (by decide), hc]
    refine y_value C A7 (a := 1) (o := r + 15) (yr := g 0) (x := n) (b := b) (hd := c) (Or.inr ⟨rfl, rfl⟩) ⟨by omega, by omega⟩ ⟨by omega, by omega⟩ hb ⟨by omega, by omega⟩ ⟨by omega, by omega⟩ V7 q2 (fun h11 F11 => ?_)
    have := k h11 ((F7.trans F11).into rfl)
    rw [e5, if_neg q, if_neg q2] at this
    exact this
  · rw [if_pos q3] at fl
    rw [e5, if_neg q, if_pos (Classical.not_not.mp q2), if_pos (by rw [← fl.1]; exact q4)] at kk
    exact kk
  · rw [if_pos q3] at fl
    rw [e5, if_neg q, if_pos (Classical.not_not.mp q2), if_neg (by rw [← fl.1]; exact q4)] at kk
    exact kk
  · rw [if_neg q3] at fl
    rw [e5, if_neg q, if_pos (Classical.not_not.mp q2), if_pos (by rw [← fl.1]; exact q4)] at kk
    exact kk
  · rw [if_neg q3] at fl
    rw [e5, if_neg q, if_pos (Classical.not_not.mp q2), if_neg (by rw [← fl.1]; exact q4)] at kk
    exact kk
  · rw [e5, if_pos (Classical.not_not.mp q)] at kk
    exact kk
end L2R
