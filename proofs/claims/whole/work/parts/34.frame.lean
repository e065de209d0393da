/-! what changed: cells L, rows R -/
def Fr (h h' : Hp) (L : List (Int × Int)) (R : List Int) : Prop := ∀ o i : Int, o ∉ R → (o, i) ∉ L → h' o i = h o i
theorem Fr.refl {h : Hp} : Fr h h [] [] := fun _ _ _ _ => rfl
theorem Fr.trans {h h1 h2 : Hp} {L L' : List (Int × Int)} {R R' : List Int} (a : Fr h h1 L R) (b : Fr h1 h2 L' R') : Fr h h2 (L ++ L') (R ++ R') := fun o i h1 h2 => by
  rw [b o i (fun q => h1 (List.mem_append_right _ q)) (fun q => h2 (List.mem_append_right _ q)), a o i (fun q => h1 (List.mem_append_left _ q)) (fun q => h2 (List.mem_append_left _ q))]
theorem Fr.sub {h h' : Hp} {L L' : List (Int × Int)} {R R' : List Int} (a : Fr h h' L R) (hL : ∀ p ∈ L, p ∈ L' ∨ p.1 ∈ R') (hR : ∀ o ∈ R, o ∈ R') : Fr h h' L' R' := fun o i h1 h2 => a o i (fun q => h1 (hR o q)) (fun q => (hL _ q).elim h2 h1)
theorem Fr.cel {h : Hp} {o i v : Int} : Fr h (hu h o i v) [(o, i)] [] := fun o' i' _ h2 => by
  unfold hu
  rw [if_neg (fun q => h2 (by rw [q.1, q.2]; exact List.mem_singleton.mpr rfl))]
theorem Fr.row {h : Hp} {o i v : Int} : Fr h (hu h o i v) [] [o] := fun o' i' h1 _ => hu_ne (fun q => h1 (by rw [q]; exact List.mem_singleton.mpr rfl))
theorem Fr.cpy {h : Hp} {a sp b dp n : Int} : Fr h (hcpy h a sp b dp n) [] [b] := fun o' i' h1 _ => hcpy_ne (fun q => h1 (by rw [q]; exact List.mem_singleton.mpr rfl))
/-- cells C and rows W aren't among what changed -/
def okF (L : List (Int × Int)) (R : List Int) (C : List (Int × Int)) (W : List Int) : Bool := C.all (fun c => !R.contains c.1 && !L.contains c) && W.all (fun o => !R.contains o && L.all (fun p => p.1 != o))
theorem Fr.cell {h h' : Hp} {L : List (Int × Int)} {R : List Int} (F : Fr h h' L R) {C : List (Int × Int)} {W : List Int} (ok : okF L R C W = true) : (∀ c ∈ C, h' c.1 c.2 = h c.1 c.2) ∧ ∀ o ∈ W, h' o = h o := by
  unfold okF at ok
  rw [Bool.and_eq_true] at ok
  refine ⟨fun c hc => ?_, fun o ho => ?_⟩
  · have := List.all_eq_true.mp ok.1 c hc
    simp only [Bool.and_eq_true, Bool.not_eq_true', List.contains_eq_mem, decide_eq_false_iff_not] at this
    exact F c.1 c.2 this.1 this.2
  · have := List.all_eq_true.mp ok.2 o ho
    simp only [Bool.and_eq_true, Bool.not_eq_true', List.contains_eq_mem, decide_eq_false_iff_not, List.all_eq_true, bne_iff_ne, ne_eq] at this
    funext i
    exact F o i this.1 (fun q => this.2 _ q rfl)
/-! the parts of what holds between calls -/
def I1 (h : Hp) : Prop := h 1 1 = h 68 1 ∧ 0 ≤ h 68 1 ∧ h 68 1 ≤ 1600 ∧ ∀ k : Int, 0 ≤ k → k < h 68 1 → h 69 k = h 2 k % 256 ∧ -128 ≤ h 2 k ∧ h 2 k < 128
def I2 (c : Int) (h : Hp) : Prop := ∀ k : Int, 0 ≤ k → k < 6 → h 59 k = h 70 k ∧ 0 ≤ h 70 k ∧ h 70 k ≤ c
def I3 (h : Hp) : Prop := h 0 18 = h 68 7 ∧ 0 ≤ h 68 7 ∧ h 68 7 ≤ 5 ∧ h 0 19 = h 68 8 ∧ -1 ≤ h 68 8 ∧ h 68 8 ≤ 1600
def I4 (h : Hp) : Prop := h 0 17 = h 68 63 ∧ 0 ≤ h 68 63 ∧ h 68 63 < 2147483648
def I5 (h : Hp) : Prop := h 0 15 = h 68 67 ∧ (h 68 67 = 0 ∨ h 68 67 = 1) ∧ (h 68 67 = 1 → ∀ r : Int, 0 ≤ r → r < h 68 36 → h 57 r = h 115 r ∧ 0 ≤ h 115 r ∧ h 115 r ≤ 65535)
def I6 (h : Hp) : Prop := h 0 16 = h 68 97 ∧ 0 ≤ h 68 97 ∧ h 68 97 ≤ 201 ∧ ∀ k : Int, 0 ≤ k → k < h 68 97 → h 58 k = h 136 k ∧ 0 ≤ h 136 k ∧ h 136 k ≤ 255
theorem I1.fr {h h' : Hp} {L : List (Int × Int)} {R : List Int} (I : I1 h) (F : Fr h h' L R) (ok : okF L R [(1, 1), (68, 1)] [2, 69] = true) : I1 h' := by
  obtain ⟨c, r⟩ := F.cell ok
  have c1 := c (1, 1) (by decide); have c2 := c (68, 1) (by decide); have r1 := r 2 (by decide); have r2 := r 69 (by decide)
  dsimp only at c1 c2
  unfold I1; rw [c1, c2, r1, r2]; exact I
theorem I2.fr {n : Int} {h h' : Hp} {L : List (Int × Int)} {R : List Int} (I : I2 n h) (F : Fr h h' L R) (ok : okF L R [] [59, 70] = true) : I2 n h' := by
  obtain ⟨c, r⟩ := F.cell ok
  have r1 := r 59 (by decide); have r2 := r 70 (by decide)
  unfold I2; rw [r1, r2]; exact I
theorem I2.up {n m : Int} {h : Hp} (I : I2 n h) (hm : n ≤ m) : I2 m h := fun k h0 h1 => ⟨(I k h0 h1).1, (I k h0 h1).2.1, Int.le_trans (I k h0 h1).2.2 hm⟩
theorem I3.fr {h h' : Hp} {L : List (Int × Int)} {R : List Int} (I : I3 h) (F : Fr h h' L R) (ok : okF L R [(0, 18), (0, 19), (68, 7), (68, 8)] [] = true) : I3 h' := by
  obtain ⟨c, r⟩ := F.cell ok
  have c1 := c (0, 18) (by decide); have c2 := c (0, 19) (by decide); have c3 := c (68, 7) (by decide); have c4 := c (68, 8) (by decide)
  dsimp only at c1 c2 c3 c4
  unfold I3; rw [c1, c2, c3, c4]; exact I
theorem I4.fr {h h' : Hp} {L : List (Int × Int)} {R : List Int} (I : I4 h) (F : Fr h h' L R) (ok : okF L R [(0, 17), (68, 63)] [] = true) : I4 h' := by
  obtain ⟨c, r⟩ := F.cell ok
  have c1 := c (0, 17) (by decide); have c2 := c (68, 63) (by decide)
  dsimp only at c1 c2
  unfold I4; rw [c1, c2]; exact I
theorem I5.fr {h h' : Hp} {L : List (Int × Int)} {R : List Int} (I : I5 h) (F : Fr h h' L R) (ok : okF L R [(0, 15), (68, 67), (68, 36)] [57, 115] = true) : I5 h' := by
  obtain ⟨c, r⟩ := F.cell ok
  have c1 := c (0, 15) (by decide); have c2 := c (68, 67) (by decide); have c3 := c (68, 36) (by decide); have r1 := r 57 (by decide); have r2 := r 115 (by decide)
  dsimp only at c1 c2 c3
  unfold I5; rw [c1, c2, c3, r1, r2]; exact I
theorem I6.fr {h h' : Hp} {L : List (Int × Int)} {R : List Int} (I : I6 h) (F : Fr h h' L R) (ok : okF L R [(0, 16), (68, 97)] [58, 136] = true) : I6 h' := by
  obtain ⟨c, r⟩ := F.cell ok
  have c1 := c (0, 16) (by decide); have c2 := c (68, 97) (by decide); have r1 := r 58 (by decide); have r2 := r 136 (by decide)
  dsimp only at c1 c2
  unfold I6; rw [c1, c2, r1, r2]; exact I
theorem RR.fr {h h' : Hp} {L : List (Int × Int)} {R : List Int} {r : Int} (I : RR h r) (F : Fr h h' L R) (ok : okF L R [(68, 36), (6, 12), (6, 13), (6, 14), (6, 15), (23, 12), (23, 13), (23, 14), (23, 15), (7, 1), (9, 1), (11, 1), (24, 1), (26, 1), (28, 1)] [13, 14, 15, 16, 17, 18, 30, 31, 32, 33, 34, 35, 93, 95, 96, 97] = true) : RR h' r := by
  obtain ⟨c, q⟩ := F.cell ok
  have c0 := c (68, 36) (by decide)
  have q93 := q 93 (by decide); have q95 := q 95 (by decide); have q96 := q 96 (by decide); have q97 := q 97 (by decide)
  dsimp only at c0
  rcases I.1 with rfl | rfl
  · have a1 := c (6, 12) (by decide); have a2 := c (6, 13) (by decide); have a3 := c (6, 14) (by decide); have a4 := c (6, 15) (by decide); have a5 := c (7, 1) (by decide); have a6 := c (9, 1) (by decide); have a7 := c (11, 1) (by decide)
    have b1 := q 13 (by decide); have b2 := q 14 (by decide); have b3 := q 15 (by decide); have b4 := q 16 (by decide); have b5 := q 17 (by decide); have b6 := q 18 (by decide)
    unfold RR at I ⊢
    have e : (6 : Int) + 1 = 7 ∧ (6 : Int) + 3 = 9 ∧ (6 : Int) + 5 = 11 ∧ (6 : Int) + 7 = 13 ∧ (6 : Int) + 8 = 14 ∧ (6 : Int) + 9 = 15 ∧ (6 : Int) + 10 = 16 ∧ (6 : Int) + 11 = 17 ∧ (6 : Int) + 12 = 18 := by decide
    rw [e.1, e.2.1, e.2.2.1, e.2.2.2.1, e.2.2.2.2.1, e.2.2.2.2.2.1, e.2.2.2.2.2.2.1, e.2.2.2.2.2.2.2.1, e.2.2.2.2.2.2.2.2] at I ⊢
    dsimp only at a1 a2 a3 a4 a5 a6 a7
    rw [c0, q93, q95, q96, q97, a1, a2, a3, a4, a5, a6, a7, b1, b2, b3, b4, b5, b6]
    exact I
  · have a1 := c (23, 12) (by decide); have a2 := c (23, 13) (by decide); have a3 := c (23, 14) (by decide); have a4 := c (23, 15) (by decide); have a5 := c (24, 1) (by decide); have a6 := c (26, 1) (by decide); have a7 := c (28, 1) (by decide)
    have b1 := q 30 (by decide); have b2 := q 31 (by decide); have b3 := q 32 (by decide); have b4 := q 33 (by decide); have b5 := q 34 (by decide); have b6 := q 35 (by decide)
    unfold RR at I ⊢
    have e : (23 : Int) + 1 = 24 ∧ (23 : Int) + 3 = 26 ∧ (23 : Int) + 5 = 28 ∧ (23 : Int) + 7 = 30 ∧ (23 : Int) + 8 = 31 ∧ (23 : Int) + 9 = 32 ∧ (23 : Int) + 10 = 33 ∧ (23 : Int) + 11 = 34 ∧ (23 : Int) + 12 = 35 := by decide
    rw [e.1, e.2.1, e.2.2.1, e.2.2.2.1, e.2.2.2.2.1, e.2.2.2.2.2.1, e.2.2.2.2.2.2.1, e.2.2.2.2.2.2.2.1, e.2.2.2.2.2.2.2.2] at I ⊢
    dsimp only at a1 a2 a3 a4 a5 a6 a7
    rw [c0, q93, q95, q96, q97, a1, a2, a3, a4, a5, a6, a7, b1, b2, b3, b4, b5, b6]
    exact I
theorem GS.fr {h h' : Hp} {L : List (Int × Int)} {R : List Int} {g : Int → Int} (I : GS h g) (F : Fr h h' L R) (ok : okF L R [(68, 36)] [93, 96] = true) : GS h' g := by
  obtain ⟨c, q⟩ := F.cell ok
  have c0 := c (68, 36) (by decide); have q93 := q 93 (by decide); have q96 := q 96 (by decide)
  dsimp only at c0
  unfold GS tAll at I ⊢
  rw [c0, q93, q96]
  exact I
/-- the class's state 40 -/
theorem SX.fr40 {h h' : Hp} {L : List (Int × Int)} {R : List Int} {g : Int → Int} (I : SX h 40 g) (F : Fr h h' L R) (ok : okF L R [(40, 4)] [41, 42, 43, 44] = true) : SX h' 40 g := by
  obtain ⟨c, q⟩ := F.cell ok
  have c0 := c (40, 4) (by decide); have q1 := q 41 (by decide); have q2 := q 42 (by decide); have q3 := q 43 (by decide); have q4 := q 44 (by decide)
  dsimp only at c0
  unfold SX at I ⊢
  have e : (40 : Int) + 1 = 41 ∧ (40 : Int) + 2 = 42 ∧ (40 : Int) + 3 = 43 ∧ (40 : Int) + 4 = 44 := by decide
  rw [e.1, e.2.1, e.2.2.1, e.2.2.2] at I ⊢
  rw [c0, q1, q2, q3, q4]
  exact I
/-! refusals, the tape's end, the seed, what is looked at -/
section L2E
variable {w : Wd} {h : Hp} {K : Int → Hp → Prop}
theorem x_refuse {k : Int} (hk : 0 ≤ k ∧ k < 6) (kk : K (-1) (hu h 59 k (h 59 k + 1))) : C_X11_refuse w k h K :=
  c_X11_refuse ⟨⟨by omega, by omega⟩, fun c => absurd c (by omega), fun _ => ⟨⟨by omega, by omega⟩, fun c => absurd c (by omega), fun _ => ⟨hk, hk, fun h5 e => by rw [e]; exact kk⟩⟩⟩
theorem x_refuseAct {k : Int} (hk : 0 ≤ k ∧ k < 6) (kk : K 0 (hu h 59 k (h 59 k + 1))) : C_X11_refuseAct w k h K := c_X11_refuseAct (x_refuse hk kk)
/-- one more refused on both sides -/
theorem I2.more {n : Int} (I : I2 n h) {k : Int} (hk : 0 ≤ k ∧ k < 6) {h1 : Hp} (F : Fr h h1 [] [59, 70]) (e1 : ∀ i : Int, h1 59 i = if i = k then h 59 k + 1 else h 59 i) (e2 : ∀ i : Int, h1 70 i = if i = k then h 70 k + 1 else h 70 i) : I2 (n + 1) h1 := by
  intro i h0 h1'
  have := I i h0 h1'
  have hk2 := I k hk.1 hk.2
  rw [e1, e2]
  by_cases g : i = k
  · rw [if_pos g, if_pos g]; omega
  · rw [if_neg g, if_neg g]; omega
theorem hu_if {o i v j : Int} : hu h o i v o j = if j = i then v else h o j := by
  unfold hu
  by_cases g : j = i
  · rw [if_pos ⟨rfl, g⟩, if_pos g]
  · rw [if_neg (fun q => g q.2), if_neg g]
theorem two_refused {n k : Int} (I : I2 n h) (hk : 0 ≤ k ∧ k < 6) : I2 (n + 1) (hu (hu h 59 k (h 59 k + 1)) 70 k (h 70 k + 1)) ∧ Fr h (hu (hu h 59 k (h 59 k + 1)) 70 k (h 70 k + 1)) [] [59, 70] := by
  have F : Fr h (hu (hu h 59 k (h 59 k + 1)) 70 k (h 70 k + 1)) [] [59, 70] := Fr.sub (L := [] ++ []) (R := [59] ++ [70]) (Fr.row.trans Fr.row) (fun p q => absurd q (by simp)) (fun o q => by simpa using q)
  refine ⟨I.more hk F (fun i => ?_) (fun i => ?_), F⟩
  · rw [hu_ne (by decide), hu_if]
  · rw [hu_if, hu_ne (by decide)]
end L2E
