/-! the class's flood, bank by bank -/
def CX (h0 : Hp) (r lv : Int) (st g : Int → Int) : Prop := RR h0 r ∧ r = h0 0 4 ∧ FI h0 ∧ (0 ≤ lv ∧ lv ≤ 9) ∧ (∀ x : Int, 0 ≤ x → x < 8 → 0 ≤ st x ∧ st x ≤ 3) ∧ GS h0 g
/-- the flood is aimed: river r, state s (which is g), level lv, stones st -/
def AX (h0 h : Hp) (r s lv : Int) (st g : Int → Int) : Prop := Sl h0 h ∧ h 61 5 = r ∧ h 61 6 = s ∧ h 61 7 = lv ∧ (∀ x : Int, 0 ≤ x → x < 8 → h 62 x = st x) ∧ SX h s g ∧ BD h
theorem hu_row {h h1 : Hp} {o i v o' : Int} (e : h1 = hu h o i v) (n : o' ≠ o) : h1 o' = h o' := by
  rw [e]; funext j; exact hu_ne n
theorem SX.fr {h h' : Hp} {L : List (Int × Int)} {R : List Int} {g : Int → Int} {s : Int} (I : SX h s g) (hs : s = 40 ∨ s = 45) (F : Fr h h' L R) (ok : okF L R [(40, 4), (45, 4)] [41, 42, 43, 44, 46, 47, 48, 49] = true) : SX h' s g := by
  obtain ⟨c, q⟩ := F.cell ok
  have c0 := c (40, 4) (by decide); have c1 := c (45, 4) (by decide)
  dsimp only at c0 c1
  unfold SX at I ⊢
  rcases hs with rfl | rfl
  · have e : (40 : Int) + 1 = 41 ∧ (40 : Int) + 2 = 42 ∧ (40 : Int) + 3 = 43 ∧ (40 : Int) + 4 = 44 := by decide
    rw [e.1, e.2.1, e.2.2.1, e.2.2.2] at I ⊢
    rw [c0, q 41 (by decide), q 42 (by decide), q 43 (by decide), q 44 (by decide)]
    exact I
  · have e : (45 : Int) + 1 = 46 ∧ (45 : Int) + 2 = 47 ∧ (45 : Int) + 3 = 48 ∧ (45 : Int) + 4 = 49 := by decide
    rw [e.1, e.2.1, e.2.2.1, e.2.2.2] at I ⊢
    rw [c1, q 46 (by decide), q 47 (by decide), q 48 (by decide), q 49 (by decide)]
    exact I
section L2P
variable {w : Wd} {h h0 : Hp} {K : Int → Hp → Prop} {r s lv : Int} {st g : Int → Int}
theorem CX.rr (C : CX h0 r lv st g) : (r = 6 ∨ r = 23) ∧ (h0 0 4 = 6 ∨ h0 0 4 = 23) := ⟨C.1.1, by rw [← C.2.1]; exact C.1.1⟩
theorem AX.row (A : AX h0 h r s lv st g) (C : CX h0 r lv st g) {o : Int} (h1 : r ≤ o) (h2 : o < r + 17) : h o = h0 o := A.1.2.2.2.1 o (by rw [← C.2.1]; exact h1) (by rw [← C.2.1]; exact h2)
theorem AX.fr (A : AX h0 h r s lv st g) (C : CX h0 r lv st g) (hs : s = 40 ∨ s = 45) {h' : Hp} {L : List (Int × Int)} {R : List Int} (F : Fr h h' L R) (ok : okS L R = true) (ok2 : okF L R [(61, 5), (61, 6), (61, 7), (40, 4), (45, 4)] [62, 41, 42, 43, 44, 46, 47, 48, 49] = true) (ok3 : okF L R [(40, 4), (45, 4)] [41, 42, 43, 44, 46, 47, 48, 49] = true) (B : BD h') : AX h0 h' r s lv st g := by
  obtain ⟨a1, a2, a3, a4, a5, a6, a7⟩ := A
  obtain ⟨c, q⟩ := F.cell ok2
  have c1 := c (61, 5) (by decide); have c2 := c (61, 6) (by decide); have c3 := c (61, 7) (by decide)
  dsimp only at c1 c2 c3
  have S : Sl h h' := Sl.of (by rw [a1.1]; exact C.rr.2) F ok
  exact ⟨a1.tr S, c1.trans a2, c2.trans a3, c3.trans a4, fun x h0 h1 => by rw [q 62 (by decide)]; exact a5 x h0 h1, a6.fr hs F ok3, B⟩
theorem ob9 (hs : s = 40 ∨ s = 45) : Ob 9 s := by rcases hs with rfl | rfl <;> exact ⟨by decide, rfl⟩
/-- the flow, as the class reckons it -/
theorem AX.fl (A : AX h0 h r s lv st g) (C : CX h0 r lv st g) {x : Int} (hx : 0 ≤ x ∧ x < 8) : max 0 ((lv + h (r + 7) x) - 3 * h 62 x) = flP h0 st lv x ∧ inR ((lv + h (r + 7) x) - 3 * h 62 x) ∧ 0 ≤ flP h0 st lv x ∧ flP h0 st lv x ≤ 18 := by
  have e1 := A.row C (o := r + 7) (by omega) (by omega)
  have e2 := C.1.sl x hx.1 hx.2
  have e3 := A.2.2.2.2.1 x hx.1 hx.2
  have e4 := C.2.2.2.2.1 x hx.1 hx.2
  have e5 := C.2.2.2.1
  rw [e1, e3, e2.1]
  unfold flP
  refine ⟨rfl, ⟨by omega, by omega⟩, by omega, by omega⟩
theorem x_tell (C : CX h0 r lv st g) (hs : s = 40 ∨ s = 45) (A : AX h0 h r s lv st g) {a1 a2 a3 : Int} (h1 : 0 ≤ a1 ∧ a1 < 8) (h2 : 0 ≤ a2 ∧ a2 < nbN h0) (h3 : 0 ≤ a3 ∧ a3 ≤ 1000) (k : ∀ h1, Fr h h1 [] [54] → BD h1 → (∀ j : Int, 0 ≤ j → j < 7 → h1 54 j = knP h0 st lv (g 0) a1 a2 a3 j) → K 0 h1) : C_X0_tell w a1 a2 a3 h K := by
  have hr := C.rr.1
  have hn := C.1.nb
  have hb := C.1.bk h2.1 h2.2
  have fl := A.fl C h1
  obtain ⟨a1', a2', a3', a4', a5', a6', a7'⟩ := id A
  have ob7 : Ob 7 r := C.1.ob
  have ob9 := ob9 hs
  refine c_X0_tell (fun k1 e1 => ?_)
  have E1 : ∀ o : Int, o ≠ 54 → k1 o = h o := fun o n => hu_row e1 n
  rw [E1 61 (by decide), E1 62 (by decide), a2', E1 (r + 7) (by omega), a4', fl.1]
  refine ⟨ob7, h1, h1, fl.2.1, fun k7 e7 => ?_⟩
  have E7 : ∀ o : Int, o ≠ 54 → k7 o = h o := fun o n => (hu_row e7 n).trans (E1 o n)
  rw [E7 61 (by decide), a2', E7 (r + 12) (by omega)]
  refine ⟨ob7, ⟨by omega, by omega⟩, fun k11 e11 k13 e13 => ⟨h1, fun k16 e16 => ?_⟩⟩
  have E11 : ∀ o : Int, o ≠ 54 → k11 o = h o := fun o n => (hu_row e11 n).trans (E7 o n)
  have E13 : ∀ o : Int, o ≠ 54 → k13 o = h o := fun o n => (hu_row e13 n).trans (E11 o n)
  have E16 : ∀ o : Int, o ≠ 54 → k16 o = h o := fun o n => (hu_row e16 n).trans (E13 o n)
  rw [E16 61 (by decide), a3', E16 s (by omega)]
  refine ⟨ob9, fun k19 e19 k21 e21 => ?_⟩
  have E19 : ∀ o : Int, o ≠ 54 → k19 o = h o := fun o n => (hu_row e19 n).trans (E16 o n)
  have E21 : ∀ o : Int, o ≠ 54 → k21 o = h o := fun o n => (hu_row e21 n).trans (E19 o n)
  have F : Fr h k21 [] [54] := fun o i q _ => by rw [E21 o (fun g => q (by rw [g]; exact List.mem_singleton.mpr rfl))]
  have V : ∀ j : Int, k21 54 j = if j = 6 then a1 else if j = 5 then g 0 else if j = 4 then st a1 else if j = 3 then a3 else if j = 2 then h0 96 (50 + 5 * a2 + 4) else if j = 1 then flP h0 st lv a1 else if j = 0 then lv else h 54 j := fun j => by
    rw [e21, hu_if, e19, hu_if, e16, hu_if, E13 62 (by decide), e13, hu_if, e11, hu_if, e7, hu_if, e1, hu_if, a5' a1 h1.1 h1.2, a6'.1, A.row C (o := r + 12) (by omega) (by omega), hb.2.2.2.2.1, a4']
  have gy := C.2.2.2.2.2.1
  have gs := C.2.2.2.2.1 a1 h1.1 h1.2
  have gl := C.2.2.2.1
  refine k k21 F ?_ (fun j j0 j1 => ?_)
  · intro j j0
    rw [E21 55 (by decide), E21 56 (by decide)]
    refine ⟨fun j1 => ?_, (a7' j j0).2.1, (a7' j j0).2.2⟩
    rw [V]
    have := (a7' j j0).1 j1
    repeat' split
    all_goals omega
  · rw [V]
    unfold knP
    rcases (show j = 0 ∨ j = 1 ∨ j = 2 ∨ j = 3 ∨ j = 4 ∨ j = 5 ∨ j = 6 by omega) with rfl | rfl | rfl | rfl | rfl | rfl | rfl <;> rfl
/-- a formula is reckoned by what was told -/
theorem x_value (C : CX h0 r lv st g) (hs : s = 40 ∨ s = 45) (A : AX h0 h r s lv st g) {b0 : Int} (hb0 : 0 ≤ b0 ∧ b0 < nbN h0) {a o yr a1 a2 a3 : Int} (ho : (o = r + 13 ∧ a = 0) ∨ (o = r + 15 ∧ a = 1)) (hk : ∀ j : Int, 0 ≤ j → j < 7 → h 54 j = knP h0 st lv yr a1 a2 a3 j) (hn : h0 o 1 ≠ 0) (k : ∀ h1, Fr h h1 [(52, 4)] [53] → -1000000 ≤ vaP h0 o (knP h0 st lv yr a1 a2 a3) ∧ vaP h0 o (knP h0 st lv yr a1 a2 a3) ≤ 1000000 → K (vaP h0 o (knP h0 st lv yr a1 a2 a3)) h1) : C_X6_reckon w o h K := by
  have hr := C.rr.1
  have I : FQ h0 o a := by
    have := C.2.2.1.of hb0
    rw [← C.2.1] at this
    rcases ho with ⟨rfl, rfl⟩ | ⟨rfl, rfl⟩
    · exact this.1
    · exact this.2
  have e1 := A.row C (o := o) (by omega) (by omega)
  have e2 := A.row C (o := o + 1) (by omega) (by omega)
  rcases I with ⟨I, _⟩ | ⟨n, n0, n1, hn', W, hf, _⟩
  · exact absurd I hn
  have B := A.2.2.2.2.2.2
  refine x_reckon (o := o) (n := n) (b := false) ?_ (by omega) (by rw [e1]; exact hn') n1 (by rw [e2]; exact W) (fun j j0 j1 => (B j j0).1 j1) (fun j j0 j1 => (B j j0).2.1 j1) (fun j j0 j1 => (B j j0).2.2 j1) (fun v h1 F V e => ?_)
  · rcases ho with ⟨rfl, -⟩ | ⟨rfl, -⟩ <;> rcases hr with rfl | rfl <;> exact ⟨by decide, rfl⟩
  · have ev : v = vaP h0 o (knP h0 st lv yr a1 a2 a3) := by
      rw [e, e2]
      unfold vaP
      rw [hn', Int.toNat_natCast]
      exact congrArg (fun l => List.headD l 0) (evl_cg hf (fun j j0 j1 => by unfold knF; rw [if_pos ⟨j0, by omega⟩]; exact hk j j0 j1))
    have b : -1000000 ≤ v ∧ v ≤ 1000000 := V.1
    rw [ev] at b ⊢
    exact k h1 F b
theorem x_clm {v m : Int} (hv : -1000000 ≤ v ∧ v ≤ 1000000) (hm : 0 ≤ m ∧ m ≤ 1000000) (k : K (clm v m) h) : C_X11_within w v 0 m h K := x_within ⟨by omega, by omega⟩ ⟨by omega, by omega⟩ ⟨by omega, by omega⟩ k
theorem x_cutOf (C : CX h0 r lv st g) (hs : s = 40 ∨ s = 45) (A : AX h0 h r s lv st g) {b : Int} (hb : 0 ≤ b ∧ b < nbN h0) (k : ∀ h1, Fr h h1 [(52, 4)] [53, 54] → AX h0 h1 r s lv st g → K (cuP h0 st lv (g 0) b (g (9 + b))) h1) : C_X0_cutOf w b h K := by
  have hr := C.rr.1
  have hn := C.1.nb
  have hbk := C.1.bk hb.1 hb.2
  have hnr := C.1.nr
  have ob7 : Ob 7 r := C.1.ob
  have ob9 := ob9 hs
  have gl := C.2.2.2.1
  have gh := C.2.2.2.2.2.2.2.1 b hb.1 (by omega)
  obtain ⟨a1, a2, a3, a4, a5, a6, a7⟩ := id A
  have e13 := A.row C (o := r + 13) (by omega) (by omega)
  have e10 := A.row C (o := r + 10) (by omega) (by omega)
  have Fq : FQ h0 (r + 13) 0 := by
    have := (C.2.2.1.of hb).1
    rwa [← C.2.1] at this
  have n13 : 0 ≤ h0 (r + 13) 1 ∧ h0 (r + 13) 1 ≤ 1600 := by
    rcases Fq with q | ⟨n, q1, q2, q3, _⟩ <;> omega
  have no : (lv = 0 ∨ h0 (r + 13) 1 = 0) → K 0 h := fun q => by
    have := k h (Fr.into Fr.refl rfl) A
    unfold cuP at this
    rw [← C.2.1, if_pos q] at this
    exact this
  refine c_X0_cutOf ?_
  rw [a4, a2, a3, e13, e10]
  refine ⟨⟨by omega, by omega⟩, fun q => no (Or.inl q), fun q => ⟨ob7, ⟨by omega, by omega⟩, fun q2 => no (Or.inr (by omega)), fun q2 => ⟨ob7, ⟨hb.1, by omega⟩, ob9, ⟨hb.1, by omega⟩, ?_⟩⟩⟩
  rw [show h (s + 3) b = g (9 + b) from (a6.2.2.1 b hb.1 (by omega)).1]
  refine x_tell C hs A ⟨by omega, by omega⟩ hb ⟨by omega, by omega⟩ (fun h9 F9 B9 V9 => ?_)
  have A9 := A.fr C hs F9 (by decide) (by decide) (by decide) B9
  rw [A9.2.1]
  refine ⟨ob7, x_value C hs A9 hb (a := 0) (yr := g 0) (a1 := plP h0 b) (a2 := b) (a3 := g (9 + b)) (Or.inl ⟨rfl, rfl⟩) (fun j j0 j1 => ?_) (fun q3 => q2 (by omega)) (fun h13 F13 b13 => ?_)⟩
  · rw [V9 j j0 j1, hbk.2.2.1.1]; rfl
  have F0 : Fr h h13 [(52, 4)] [53, 54] := (F9.trans F13).into rfl
  have A13 := A9.fr C hs F13 (by decide) (by decide) (by decide) (B9.fr F13 (by decide))
  rw [A13.2.2.1]
  refine ⟨⟨by omega, by omega⟩, ob9, ⟨hb.1, by omega⟩, ?_⟩
  rw [show h13 (s + 3) b = g (9 + b) from (A13.2.2.2.2.2.1.2.2.1 b hb.1 (by omega)).1]
  refine x_clm b13 ⟨by omega, by omega⟩ ?_
  have := k h13 F0 A13
  unfold cuP at this
  rw [← C.2.1, if_neg (fun q3 => q3.elim q (fun q4 => q2 (by omega)))] at this
  exact this
theorem x_settling (C : CX h0 r lv st g) (hs : s = 40 ∨ s = 45) (A : AX h0 h r s lv st g) {x b c : Int} (hx : 0 ≤ x ∧ x < 8) (hb : 0 ≤ b ∧ b < nbN h0) (hc : 0 ≤ c ∧ c ≤ 1000) (k : ∀ h1, Fr h h1 [(52, 4)] [53, 54] → AX h0 h1 r s lv st g → K (seP h0 st lv (g 0) x b c) h1) : C_X0_settling w x b c h K := by
  have hr := C.rr.1
  have hn := C.1.nb
  have hbk := C.1.bk hb.1 hb.2
  have ob7 : Ob 7 r := C.1.ob
  have ob9 := ob9 hs
  have gl := C.2.2.2.1
  have fl := A.fl C hx
  obtain ⟨a1, a2, a3, a4, a5, a6, a7⟩ := id A
  have e15 := A.row C (o := r + 15) (by omega) (by omega)
  have e12 := A.row C (o := r + 12) (by omega) (by omega)
  have Fq : FQ h0 (r + 15) 1 := by
    have := (C.2.2.1.of hb).2
    rwa [← C.2.1] at this
  have n15 : 0 ≤ h0 (r + 15) 1 ∧ h0 (r + 15) 1 ≤ 1600 := by
    rcases Fq with q | ⟨n, q1, q2, q3, _⟩ <;> omega
  have kk := k h (Fr.into Fr.refl rfl) A
  have no : (lv = 0 ∨ c = 0) → K 0 h := fun q => by
    unfold seP at kk
    rw [if_pos q] at kk
    exact kk
  refine c_X0_settling ?_
  rw [a4, a2, e15, e12, fl.1]
  refine ⟨⟨by omega, by omega⟩, fun q => no (Or.inl q), fun q => ⟨⟨by omega, by omega⟩, fun q2 => ⟨ob7, ⟨by omega, by omega⟩, fun q3 => ⟨ob7, ⟨hb.1, by omega⟩, ob7, hx, hx, fl.2.1, ⟨by omega, by omega⟩, ⟨by omega, by omega⟩, fun q4 => ?_, fun q4 => ?_⟩, fun q3 => ?_⟩, fun q2 => no (Or.inr (by omega))⟩⟩
  · unfold seP at kk
    rw [← C.2.1, if_neg (by omega), if_pos (by omega), if_pos (by rw [hbk.2.2.2.2.1] at q4; exact q4)] at kk
    exact kk
  · unfold seP at kk
    rw [← C.2.1, if_neg (by omega), if_pos (by omega), if_neg (by rw [hbk.2.2.2.2.1] at q4; exact q4)] at kk
    exact kk
  · refine x_tell C hs A hx hb hc (fun h9 F9 B9 V9 => ?_)
    have A9 := A.fr C hs F9 (by decide) (by decide) (by decide) B9
    rw [A9.2.1]
    refine ⟨ob7, x_value C hs A9 hb (a := 1) (yr := g 0) (a1 := x) (a2 := b) (a3 := c) (Or.inr ⟨rfl, rfl⟩) V9 (fun q4 => q3 (by omega)) (fun h13 F13 b13 => ⟨⟨by omega, by omega⟩, x_clm b13 ⟨by omega, by omega⟩ ?_⟩)⟩
    have F0 : Fr h h13 [(52, 4)] [53, 54] := (F9.trans F13).into rfl
    have A13 := A9.fr C hs F13 (by decide) (by decide) (by decide) (B9.fr F13 (by decide))
    have := k h13 F0 A13
    unfold seP at this
    rw [← C.2.1, if_neg (by omega), if_neg (by omega)] at this
    exact this
end L2P
