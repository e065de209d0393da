/-! river(): both sides hold the same behind it -/
section L4N
variable {w : Wd} {h h' h0 h1 h2 h3 h4 h5 h6 g g' : Hp} {K : Int → Hp → Prop} {t : Int → Int} {L p q : Nat} {r c : Int}
theorem rr_of (hr : r = 6 ∨ r = 23) (C : CRv h1 g r) (ec : ∀ o : Int, r ≤ o → o < r + 17 → h6 o = h1 o) (G : RG h5 g) (S : STD h5 h6) : RR h6 r := by
  obtain ⟨c1, c2, c3, c4, c5, c6, c7, c8, c9, c10, c11, c12, c13⟩ := C
  obtain ⟨g1, g2, g3, g4, g5, g6, g7, g8⟩ := G
  obtain ⟨s1, s2, s3, s4, s5, s6, s7, s8, s9, s10, s11, s12, s13⟩ := S
  have m0 : h6 93 3 = g 93 0 := by have := (s4 0 (by decide) (by decide)).1; rw [show (3 : Int) + 0 = 3 by decide] at this; rw [this]; exact (g2 0 (by decide) (by decide)).1
  have m1 : h6 93 4 = g 93 1 := by have := (s4 1 (by decide) (by decide)).1; rw [show (3 : Int) + 1 = 4 by decide] at this; rw [this]; exact (g2 1 (by decide) (by decide)).1
  have m2 : h6 93 5 = g 93 2 := by have := (s4 2 (by decide) (by decide)).1; rw [show (3 : Int) + 2 = 5 by decide] at this; rw [this]; exact (g2 2 (by decide) (by decide)).1
  have t0 : h6 97 3 = g 97 0 := by have := (s4 0 (by decide) (by decide)).2; rw [show (3 : Int) + 0 = 3 by decide] at this; rw [this]; exact g5 0 (by decide) (by decide)
  have t1 : h6 97 4 = g 97 1 := by have := (s4 1 (by decide) (by decide)).2; rw [show (3 : Int) + 1 = 4 by decide] at this; rw [this]; exact g5 1 (by decide) (by decide)
  have t2 : h6 97 5 = g 97 2 := by have := (s4 2 (by decide) (by decide)).2; rw [show (3 : Int) + 2 = 5 by decide] at this; rw [this]; exact g5 2 (by decide) (by decide)
  have e36 : h6 68 36 = g 68 35 := by rw [s1]; exact g1.1
  unfold RR
  rw [m0, m1, m2, t0, t1, t2, e36, ec r (by omega) (by omega), ec (r + 1) (by omega) (by omega), ec (r + 3) (by omega) (by omega), ec (r + 5) (by omega) (by omega), ec (r + 7) (by omega) (by omega), ec (r + 8) (by omega) (by omega), ec (r + 9) (by omega) (by omega), ec (r + 10) (by omega) (by omega), ec (r + 11) (by omega) (by omega), ec (r + 12) (by omega) (by omega)]
  have l2 := c2.2; have l3 := c3.2; have l4 := c4.2
  refine ⟨hr, ⟨c1.1, Or.inr c1.2.1, c1.2.2⟩, ⟨c2.1, l2.1, l2.2.1⟩, ⟨c3.1, l3.1, l3.2.1⟩, ⟨c4.1, l4.1, l4.2.1⟩, fun i i0 i1 => ?_, fun b b0 b1 => ?_, c7, c8, c9, c10⟩
  · rw [s6 i i0 i1, g3 i i0 i1]; exact c5 i i0 i1
  · have e : ∀ j : Int, 0 ≤ j → j < 5 → h6 96 (50 + 5 * b + j) = g 96 (5 * b + j) := fun j j0 j1 => by
      have b10 := l4.2.1
      have := s7 (5 * b + j) (by omega) (by omega)
      rw [show (50 : Int) + 5 * b + j = 50 + (5 * b + j) by omega, this]
      exact g4 (5 * b + j) (by omega) (by omega)
    rw [e 0 (by decide) (by decide), e 1 (by decide) (by decide), e 2 (by decide) (by decide), e 3 (by decide) (by decide), e 4 (by decide) (by decide), show 5 * b + 0 = 5 * b by omega]
    exact c6 b b0 b1
theorem fq_of {f a : Int} (ha : a = 0 ∨ a = 1) (C : FS h1 g f a) (e1 : h6 f = h1 f) (e2 : h6 (f + 1) = h1 (f + 1)) (b44 : g 68 44 ≤ 1600) (G : RG h5 g) (S : STD h5 h6) : FQ h6 f a := by
  obtain ⟨g1, g2, g3, g4, g5, g6, g7, g8⟩ := G
  obtain ⟨s1, s2, s3, s4, s5, s6, s7, s8, s9, s10, s11, s12, s13⟩ := S
  have ga := g6 a (by omega) (by omega)
  have sa := s8 a (by omega) (by omega)
  have e98 : h6 98 (2 + a) = g 98 a := by rw [sa.1]; exact ga.1
  unfold FQ
  rw [e1, e2, e98]
  rcases C with C | ⟨n, n0, n1, n2, n3, n4, n5, n6, n7, n8⟩
  · exact Or.inl C
  · refine Or.inr ⟨n, n0, n1, n2, n3, n4, n5, ?_, by omega, fun i hi => ?_⟩
    · rw [sa.2, ga.2.2 (by omega)]; exact n6
    · rw [s9 (g 98 a + i) (by omega) (by rw [g7.1]; omega), g8 (g 98 a + i) (by omega) (by omega)]
      exact n8 i hi
theorem nr_of (hr : r = 6 ∨ r = 23) (C : CRv h1 g r) (ec : ∀ o : Int, r ≤ o → o < r + 17 → h6 o = h1 o) (e4 : h6 0 4 = r) (G : RG h5 g) (S : STD h5 h6) : NR h6 := by
  obtain ⟨c1, c2, c3, c4, -⟩ := C
  obtain ⟨g1, g2, g3, g4, g5, g6, g7, g8⟩ := G
  obtain ⟨s1, s2, s3, s4, s5, -⟩ := S
  intro k i k0 k1 i0 i1
  have gk := g2 k k0 k1
  have e93 : h6 93 (3 + k) = g 93 k := by rw [(s4 k k0 k1).1]; exact gk.1
  rw [e93] at i1
  have b10 := gk.2.2.1
  have e94 : h6 94 (30 + 10 * k + i) = g 94 (10 * k + i) := by
    rw [show (30 : Int) + 10 * k + i = 30 + (10 * k + i) by omega, s5 (10 * k + i) (by omega) (by omega)]
    exact (gk.2.2.2 i i0 i1).1
  rw [e4, e94, ec (r + 2 + 2 * k) (by omega) (by omega)]
  have : k = 0 ∨ k = 1 ∨ k = 2 := by omega
  rcases this with rfl | rfl | rfl
  · have := c2.2.2.2 i i0 i1
    rw [show r + 1 + 1 = r + 2 + 2 * 0 by omega] at this; exact this
  · have := c3.2.2.2 i i0 i1
    rw [show r + 3 + 1 = r + 2 + 2 * 1 by omega] at this; exact this
  · have := c4.2.2.2 i i0 i1
    rw [show r + 5 + 1 = r + 2 + 2 * 2 by omega] at this; exact this
theorem gs_of (C : CRv h1 g r) (G : RG h5 g) (S : STD h5 h6) : GS h6 (h6 104) ∧ ∀ b : Int, 0 ≤ b → b < 10 → h6 104 (9 + b) = h1 (r + 11) b := by
  obtain ⟨c1, c2, c3, c4, c5, c6, c7, -⟩ := C
  obtain ⟨g1, g2, g3, g4, g5, g6, g7, g8⟩ := G
  obtain ⟨s1, s2, s3, s4, s5, s6, s7, s8, s9, s10, s11, s12, s13⟩ := S
  have e2 : h5 93 2 = g 93 2 := (g2 2 (by decide) (by decide)).1
  have m2 : h6 93 5 = g 93 2 := by have := (s4 2 (by decide) (by decide)).1; rw [show (3 : Int) + 2 = 5 by decide] at this; rw [this]; exact e2
  have b10 := c4.2.2.1
  have b0' := c4.2.1
  rw [e2] at s10 s11
  have held : ∀ b : Int, 0 ≤ b → b < 10 → h6 104 (9 + b) = if b < g 93 2 then g 96 (5 * b + 3) else 0 := fun b b0 b1 => by
    by_cases d : b < g 93 2
    · rw [if_pos d, s10 b b0 d]; exact g4 (5 * b + 3) (by omega) (by omega)
    · rw [if_neg d]; exact s11 (9 + b) (by omega) (by omega) (by omega)
  have told : ∀ b : Int, 0 ≤ b → b < 10 → h6 104 (9 + b) = h1 (r + 11) b := fun b b0 b1 => by
    rw [held b b0 b1]
    by_cases d : b < g 93 2
    · rw [if_pos d]; exact (c6 b b0 d).2.2.2.1.1.symm
    · rw [if_neg d]; exact (c7 b (by omega) b1).symm
  have sea : ∀ b : Int, 0 ≤ b → b < 10 → h6 104 (19 + b) = 0 := fun b b0 b1 => s11 (19 + b) (by omega) (by omega) (by omega)
  have li : ∀ x b : Int, 0 ≤ x → x < 8 → 0 ≤ b → b < 10 → h6 104 (29 + 10 * x + b) = 0 := fun x b x0 x1 b0 b1 => s11 _ (by omega) (by omega) (by omega)
  refine ⟨⟨?_, fun x x0 x1 => ?_, fun b b0 b1 => ?_, fun x b x0 x1 b0 b1 => ?_, ?_⟩, told⟩
  · rw [s11 0 (by decide) (by decide) (by omega)]; exact ⟨by decide, by decide⟩
  · rw [s11 (1 + x) (by omega) (by omega) (by omega)]; exact ⟨by decide, by decide, fun _ => rfl⟩
  · rw [held b b0 b1, sea b b0 b1, m2]
    by_cases d : b < g 93 2
    · rw [if_pos d]
      have := (c6 b b0 d).2.2.2.1.2
      exact ⟨this.1, by omega, Int.le_refl _, fun n => absurd d (by omega)⟩
    · rw [if_neg d]; exact ⟨Int.le_refl _, by decide, Int.le_refl _, fun _ => ⟨rfl, rfl⟩⟩
  · rw [li x b x0 x1 b0 b1]; exact ⟨Int.le_refl _, fun _ => rfl⟩
  · rw [sm_zero (n := 8) (fun x x0 x1 => sm_zero (n := 10) (fun b b0 b1 => li x b x0 x1 b0 b1)), sm_zero (n := 10) (f := fun b => h6 104 (19 + b)) sea, Int.zero_add, Int.add_zero]
    unfold tAll
    refine sm_congr fun b b0 b1 => ?_
    rw [held b b0 b1, m2]
    by_cases d : b < g 93 2
    · rw [if_pos d, if_pos d]
      have := s7 (5 * b + 3) (by omega) (by omega)
      rw [show (50 : Int) + 5 * b + 3 = 50 + (5 * b + 3) by omega, this]
      exact (g4 (5 * b + 3) (by omega) (by omega)).symm
    · rw [if_neg d, if_neg d]
theorem RG.tail {a b : Int} (G : RG h4 g) (q5 : h5 = hu (hu h4 68 7 a) 68 8 b) : RG h5 g := by
  have F : Fr h4 h5 ([(68, 7)] ++ [(68, 8)]) ([] ++ []) := by rw [q5]; exact Fr.cel.trans Fr.cel
  exact G.fr F (by decide)
theorem inv_river (I : Inv c h) (hr : r = 6 ∨ r = 23) (C1 : CRv h1 g r) (V1 : XV r h h1) (z1 : h1 1 1 = 0) (z18 : h1 0 18 = 0) (z19 : h1 0 19 = -1) (Z2 : ZS (hu (hu h1 0 4 r) 0 5 (29 - r)) h2 r) (q3 : h3 = hu (hu h2 50 2 0) 0 15 0) (G4 : RG h4 g) (P4 : YR h3 h4) (y1 : h4 68 1 = 0) (q5 : h5 = hu (hu h4 68 7 0) 68 8 (-1)) (S : STD h5 h6) : Inv (c + 1) h6 := by
  have G5 := G4.tail q5
  have S' := S
  obtain ⟨s1, s2, s3, s4, s5, s6, s7, s8, s9, s10, s11, s12, s13⟩ := S'
  -- rows that only the class has, rows that only the reference has
  have r65 : ∀ o : Int, ¬ (93 ≤ o ∧ o ≤ 101) → o ≠ 68 → o ≠ 104 → h6 o = h3 o := fun o n1 n2 n3 => by
    rw [s12 o n2 (by omega) n3, q5]
    funext i
    rw [hu_ne n2, hu_ne n2]
    exact P4 o i (by unfold ysp; omega) (by omega)
  have r3 : ∀ o : Int, o ≠ 0 → o ≠ 50 → ¬ (40 ≤ o ∧ o ≤ 44) → h3 o = h1 o := fun o n1 n2 n3 => by
    rw [q3]; funext i
    rw [hu_ne n1, hu_ne n2, Z2.2.2.2.2 o n3, hu_ne n1, hu_ne n1]
  have V : ∀ o i : Int, ¬ (r ≤ o ∧ o < r + 17) → o ≠ 0 → o ≠ 1 → o ≠ 5 → o ≠ 60 → h1 o i = h o i := fun o i a b1 b2 b3 b4 => V1 o i a (by omega) (by omega) (by omega) (by omega)
  have e0 : ∀ i : Int, h6 0 i = if i = 15 then 0 else if i = 5 then 29 - r else if i = 4 then r else h1 0 i := fun i => by
    rw [r65 0 (by decide) (by decide) (by decide), q3, hu_if, hu_ne (by decide), Z2.2.2.2.2 0 (by decide), hu_if, hu_if]
  have far : ∀ o : Int, ¬ (r ≤ o ∧ o < r + 17) → ¬ (93 ≤ o ∧ o ≤ 101) → o ≠ 68 → o ≠ 104 → o ≠ 0 → o ≠ 1 → o ≠ 5 → o ≠ 60 → o ≠ 50 → ¬ (40 ≤ o ∧ o ≤ 44) → h6 o = h o := fun o a1 a2 a3 a4 a5 a6 a7 a8 a9 a10 => by
    rw [r65 o a2 a3 a4, r3 o a5 a9 a10]; funext i; exact V o i a1 a5 a6 a7 a8
  have e68 : ∀ i : Int, i ≠ 36 → i ≠ 61 → i ≠ 67 → h6 68 i = if i = 8 then -1 else if i = 7 then 0 else h4 68 i := fun i n1 n2 n3 => by
    rw [s13 i n1 n2 n3, q5, hu_if, hu_if]
  have f68 : ∀ i : Int, (i = 62 ∨ i = 63 ∨ i = 97) → h6 68 i = h 68 i := fun i n => by
    rw [e68 i (by omega) (by omega) (by omega), if_neg (by omega), if_neg (by omega), P4 68 i (by unfold ysp; omega) (by omega), r3 68 (by decide) (by decide) (by decide)]
    exact V 68 i (by omega) (by decide) (by decide) (by decide) (by decide)
  have f0 : ∀ i : Int, (i = 16 ∨ i = 17) → h6 0 i = h 0 i := fun i n => by
    rw [e0, if_neg (by omega), if_neg (by omega), if_neg (by omega)]
    exact V1 0 i (by omega) (by omega) (by omega) (by omega) (by omega)
  have e50 : ∀ i : Int, h6 50 i = if i = 2 then 0 else h 50 i := fun i => by
    rw [r65 50 (by decide) (by decide) (by decide), q3, hu_ne (by decide), hu_if, Z2.2.2.2.2 50 (by decide), hu_ne (by decide), hu_ne (by decide), V 50 i (by omega) (by decide) (by decide) (by decide) (by decide)]
  have ec : ∀ o : Int, r ≤ o → o < r + 17 → h6 o = h1 o := fun o o0 o1 => by rw [r65 o (by omega) (by omega) (by omega), r3 o (by omega) (by omega) (by omega)]
  have c44 : g 68 44 ≤ 1600 := C1.2.2.2.2.2.2.2.2.2.2.2.2.2.1
  obtain ⟨⟨i1, i2, i3, i4, i5, i6⟩, ⟨j1, j2, j3, j4⟩, ⟨k1, k2, k3, k4⟩⟩ := I
  have e04 : h6 0 4 = r := by rw [e0]; rfl
  have e05 : h6 0 5 = 29 - r := by rw [e0]; rfl
  have gs := gs_of C1 G5 S
  refine ⟨⟨?_, ?_, ?_, ?_, ?_, ?_⟩, ⟨?_, ?_, Or.inr ⟨?_, ?_⟩, ?_⟩, gs.1, ?_, ?_, ?_⟩
  · have a1 : h6 1 1 = 0 := by rw [r65 1 (by decide) (by decide) (by decide), r3 1 (by decide) (by decide) (by decide)]; exact z1
    have a2 : h6 68 1 = 0 := by rw [e68 1 (by decide) (by decide) (by decide), if_neg (by decide), if_neg (by decide)]; exact y1
    unfold I1; rw [a1, a2]
    exact ⟨rfl, Int.le_refl _, by decide, fun k k0 k1 => absurd k1 (by omega)⟩
  · have := i2.up (m := c + 1) (by omega)
    unfold I2 at this ⊢
    rw [far 59 (by omega) (by decide) (by decide) (by decide) (by decide) (by decide) (by decide) (by decide) (by decide) (by decide), far 70 (by omega) (by decide) (by decide) (by decide) (by decide) (by decide) (by decide) (by decide) (by decide) (by decide)]
    exact this
  · have a1 : h6 0 18 = 0 := by rw [e0]; exact z18
    have a2 : h6 0 19 = -1 := by rw [e0]; exact z19
    have a3 : h6 68 7 = 0 := by rw [e68 7 (by decide) (by decide) (by decide)]; rfl
    have a4 : h6 68 8 = -1 := by rw [e68 8 (by decide) (by decide) (by decide)]; rfl
    unfold I3; rw [a1, a2, a3, a4]
    exact ⟨rfl, Int.le_refl _, by decide, rfl, Int.le_refl _, by decide⟩
  · unfold I4; rw [f0 17 (Or.inr rfl), f68 63 (by omega)]; exact i4
  · have a1 : h6 0 15 = 0 := by rw [e0]; rfl
    unfold I5; rw [a1, s3]
    exact ⟨rfl, Or.inl rfl, fun x => absurd x (by decide)⟩
  · unfold I6
    rw [f0 16 (Or.inl rfl), f68 97 (by omega), far 58 (by omega) (by decide) (by decide) (by decide) (by decide) (by decide) (by decide) (by decide) (by decide) (by decide), far 136 (by omega) (by decide) (by decide) (by decide) (by decide) (by decide) (by decide) (by decide) (by decide) (by decide)]
    exact i6
  · rw [e04]; exact rr_of hr C1 ec G5 S
  · rw [e04, e05]
  · rw [e04]; exact fq_of (Or.inl rfl) C1.2.2.2.2.2.2.2.2.2.2.1 (ec _ (by omega) (by omega)) (ec _ (by omega) (by omega)) c44 G5 S
  · rw [e04]; exact fq_of (Or.inr rfl) C1.2.2.2.2.2.2.2.2.2.2.2.1 (ec _ (by omega) (by omega)) (ec _ (by omega) (by omega)) c44 G5 S
  · exact nr_of hr C1 ec e04 G5 S
  · have t2 : h5 93 2 = g 93 2 := (G5.2.1 2 (by decide) (by decide)).1
    have tb : 0 ≤ g 93 2 ∧ g 93 2 ≤ 10 := ⟨(G5.2.1 2 (by decide) (by decide)).2.1, (G5.2.1 2 (by decide) (by decide)).2.2.1⟩
    rw [t2] at s11
    have e4 : ∀ o : Int, 40 < o → o ≤ 44 → h6 o = h2 o := fun o o0 o1 => by
      rw [r65 o (by omega) (by omega) (by omega), q3]; funext i
      rw [hu_ne (by omega), hu_ne (by omega)]
    refine ⟨?_, fun x x0 x1 => ?_, fun b b0 b1 => ⟨?_, ?_⟩, fun x b x0 x1 b0 b1 => ?_⟩
    · rw [r65 40 (by decide) (by decide) (by decide), q3, hu_ne (by decide), hu_ne (by decide), Z2.1, s11 0 (by decide) (by decide) (by omega)]
    · rw [e4 (40 + 1) (by decide) (by decide), s11 (1 + x) (by omega) (by omega) (by omega)]
      exact Z2.2.1 x x0 x1
    · rw [e4 (40 + 3) (by decide) (by decide), gs.2 b b0 b1]
      have := (Z2.2.2.2.1 b b0 b1).1
      rw [hu_ne (by omega), hu_ne (by omega)] at this
      exact this
    · rw [e4 (40 + 4) (by decide) (by decide), s11 (19 + b) (by omega) (by omega) (by omega)]
      exact (Z2.2.2.2.1 b b0 b1).2
    · rw [e4 (40 + 2) (by decide) (by decide), s11 (29 + 10 * x + b) (by omega) (by omega) (by omega)]
      exact Z2.2.2.1 (x * 10 + b) (by omega) (by omega)
  · unfold PA
    rw [e50, if_neg (by decide), e50, if_pos rfl, f68 62 (by omega), s2]
    exact ⟨k3.1, k3.2.1, k3.2.2.1, rfl, Int.le_refl _, by decide, fun i i0 i1 => absurd i1 (by omega)⟩
  · unfold BD
    rw [far 54 (by omega) (by decide) (by decide) (by decide) (by decide) (by decide) (by decide) (by decide) (by decide) (by decide), far 55 (by omega) (by decide) (by decide) (by decide) (by decide) (by decide) (by decide) (by decide) (by decide) (by decide), far 56 (by omega) (by decide) (by decide) (by decide) (by decide) (by decide) (by decide) (by decide) (by decide) (by decide)]
    exact k4
end L4N
