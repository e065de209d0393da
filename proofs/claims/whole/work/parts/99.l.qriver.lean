/-! river(): the pair of calls -/
section L4P
variable {w : Wd} {h h' h0 h1 h2 h3 h4 h5 h6 g g' : Hp} {K : Int → Hp → Prop} {t : Int → Int} {L p q : Nat} {r c : Int}
theorem inv_refused (I : Inv c h) (hr : r = 6 ∨ r = 23) (e5 : h 0 5 = r) (V1 : XV r h h1) (z1 : h1 1 1 = 0) {f : Int × Int} (fk : 1 ≤ f.1 ∧ f.1 ≤ 5) (fp : 0 ≤ f.2 ∧ f.2 ≤ 1600) (z18 : h1 0 18 = f.1) (z19 : h1 0 19 = f.2) (q2 : h2 = hu h1 59 1 (h1 59 1 + 1)) (P4 : YR h2 h4) (y1 : h4 68 1 = 0) (q5 : h5 = hu (hu (hu h4 68 7 f.1) 68 8 f.2) 70 1 (h4 70 1 + 1)) : Inv (c + 1) h5 := by
  have e5s : ∀ o i : Int, o ≠ 70 → ¬ (o = 68 ∧ (i = 7 ∨ i = 8)) → h5 o i = h4 o i := fun o i n m => by
    rw [q5, hu_ne n]
    unfold hu
    rw [if_neg (fun x => m ⟨x.1, Or.inr x.2⟩), if_neg (fun x => m ⟨x.1, Or.inl x.2⟩)]
  have e2s : ∀ o i : Int, o ≠ 59 → h2 o i = h1 o i := fun o i n => by rw [q2, hu_ne n]
  have al : ∀ o i : Int, o ≠ 70 → o ≠ 59 → ¬ (o = 68 ∧ (i = 7 ∨ i = 8)) → ¬ ysp o i → ¬ (o = 68 ∧ (i = 42 ∨ i = 35 ∨ i = 1 ∨ i = 3)) → h5 o i = h1 o i := fun o i n1 n2 m1 m2 m3 => by
    rw [e5s o i n1 m1, P4 o i m2 m3, e2s o i n2]
  -- what stays
  have kp : ∀ o i : Int, o ≠ 70 → o ≠ 59 → ¬ (o = 68 ∧ (i = 7 ∨ i = 8)) → ¬ ysp o i → ¬ (o = 68 ∧ (i = 42 ∨ i = 35 ∨ i = 1 ∨ i = 3)) → ¬ (r ≤ o ∧ o < r + 17) → ¬ (o = 1 ∧ 1 ≤ i ∧ i ≤ 5) → ¬ (o = 5 ∧ 2 ≤ i ∧ i ≤ 4) → ¬ (o = 60 ∧ i = 2) → ¬ (o = 0 ∧ (i = 18 ∨ i = 19)) → h5 o i = h o i := fun o i n1 n2 m1 m2 m3 m4 m5 m6 m7 m8 => by
    rw [al o i n1 n2 m1 m2 m3]; exact V1 o i m4 m5 m6 m7 m8
  have row : ∀ o : Int, o ≠ 70 → o ≠ 59 → o ≠ 68 → ¬ (93 ≤ o ∧ o ≤ 101) → ¬ (r ≤ o ∧ o < r + 17) → o ≠ 0 → o ≠ 1 → o ≠ 5 → o ≠ 60 → h5 o = h o := fun o n1 n2 n3 n4 n5 n6 n7 n8 n9 => by
    funext i
    exact kp o i n1 n2 (by omega) (by unfold ysp; omega) (by omega) n5 (by omega) (by omega) (by omega) (by omega)
  obtain ⟨⟨i1, i2, i3, i4, i5, i6⟩, IBh, ⟨k1, k2, k3, k4⟩⟩ := I
  have e4 : h 0 4 = 29 - r := by have := IBh.2.1; have := IBh.rr; omega
  have S : Sl h h5 := by
    refine ⟨kp 0 4 (by decide) (by decide) (by decide) (by unfold ysp; omega) (by decide) (by omega) (by omega) (by omega) (by omega) (by decide), kp 0 5 (by decide) (by decide) (by decide) (by unfold ysp; omega) (by decide) (by omega) (by omega) (by omega) (by omega) (by decide), kp 68 36 (by decide) (by decide) (by decide) (by unfold ysp; omega) (by decide) (by omega) (by omega) (by omega) (by omega) (by omega), fun o o0 o1 => row o (by omega) (by omega) (by omega) (by omega) (by omega) (by omega) (by omega) (by omega) (by omega), fun i q => ?_, fun i q => ?_, fun i q => ?_, fun i q => ?_, fun i q => ?_, fun i q => ?_, fun i q => ?_, fun i q => ?_⟩ <;>
    exact kp _ i (by decide) (by decide) (by omega) (by unfold ysp; omega) (by omega) (by omega) (by omega) (by omega) (by omega) (by omega)
  have far : ∀ o : Int, (o = 2 ∨ o = 104 ∨ (40 ≤ o ∧ o ≤ 58) ∨ o = 112 ∨ o = 115 ∨ o = 136) → h5 o = h o := fun o x => row o (by omega) (by omega) (by omega) (by omega) (by omega) (by omega) (by omega) (by omega) (by omega)
  have f68 : ∀ i : Int, (i = 36 ∨ i = 61 ∨ i = 62 ∨ i = 63 ∨ i = 67 ∨ i = 97) → h5 68 i = h 68 i := fun i x => kp 68 i (by decide) (by decide) (by omega) (by unfold ysp; omega) (by omega) (by omega) (by omega) (by omega) (by omega) (by omega)
  have f0 : ∀ i : Int, (i = 15 ∨ i = 16 ∨ i = 17) → h5 0 i = h 0 i := fun i x => kp 0 i (by decide) (by decide) (by omega) (by unfold ysp; omega) (by omega) (by omega) (by omega) (by omega) (by omega) (by omega)
  have g0 : ∀ i : Int, h5 0 i = h1 0 i := fun i => al 0 i (by decide) (by decide) (by omega) (by unfold ysp; omega) (by omega)
  refine ⟨⟨?_, ?_, ?_, ?_, ?_, ?_⟩, IBh.sl S, ?_, ?_, ?_, ?_⟩
  · have a1 : h5 1 1 = 0 := by rw [al 1 1 (by decide) (by decide) (by decide) (by unfold ysp; omega) (by decide)]; exact z1
    have a2 : h5 68 1 = 0 := by rw [e5s 68 1 (by decide) (by decide)]; exact y1
    unfold I1; rw [a1, a2]
    exact ⟨rfl, Int.le_refl _, by decide, fun k k0 k1 => absurd k1 (by omega)⟩
  · intro k k0 k1
    have i2 := i2 k k0 k1
    have a1 : h5 59 k = if k = 1 then h 59 1 + 1 else h 59 k := by
      have v : ∀ j, h1 59 j = h 59 j := fun j => V1 59 j (by omega) (by omega) (by omega) (by omega) (by omega)
      rw [e5s 59 k (by decide) (by omega), P4 59 k (by unfold ysp; omega) (by omega), q2, hu_if, v, v]
    have a2 : h5 70 k = if k = 1 then h 70 1 + 1 else h 70 k := by
      have v : ∀ j, h4 70 j = h 70 j := fun j => by rw [P4 70 j (by unfold ysp; omega) (by omega), e2s 70 j (by decide)]; exact V1 70 j (by omega) (by omega) (by omega) (by omega) (by omega)
      rw [q5, hu_if, hu_ne (by decide), hu_ne (by decide), v, v]
    rw [a1, a2]
    by_cases d : k = 1
    · rw [if_pos d, if_pos d]; subst d; omega
    · rw [if_neg d, if_neg d]; omega
  · have a3 : h5 68 7 = f.1 := by rw [q5, hu_ne (by decide), hu_if, if_neg (by decide), hu_if, if_pos rfl]
    have a4 : h5 68 8 = f.2 := by rw [q5, hu_ne (by decide), hu_if, if_pos rfl]
    unfold I3; rw [g0, g0, z18, z19, a3, a4]
    exact ⟨rfl, by omega, by omega, rfl, by omega, by omega⟩
  · unfold I4; rw [f0 17 (by omega), f68 63 (by omega)]; exact i4
  · unfold I5; rw [f0 15 (by omega), f68 67 (by omega), f68 36 (by omega), far 57 (by omega), far 115 (by omega)]; exact i5
  · unfold I6; rw [f0 16 (by omega), f68 97 (by omega), far 58 (by omega), far 136 (by omega)]; exact i6
  · rw [far 104 (by omega)]; exact k1.st S
  · unfold SX at k2 ⊢; rw [far 104 (by omega), far 40 (by omega), far (40 + 1) (by omega), far (40 + 2) (by omega), far (40 + 3) (by omega), far (40 + 4) (by omega)]; exact k2
  · unfold PA at k3 ⊢
    rw [far 50 (by omega), f68 62 (by omega), f68 61 (by omega)]
    obtain ⟨x1, x2, x3, x4, x5, x6, x7⟩ := k3
    exact ⟨x1, x2, x3, x4, x5, x6, fun i i0 i1 => (x7 i i0 i1).fr S (far 51 (by omega)) (far 112 (by omega))⟩
  · unfold BD at k4 ⊢; rw [far 54 (by omega), far 55 (by omega), far 56 (by omega)]; exact k4
theorem q_river (I : Inv c h) : C_X11_river w h (fun z h1 => inR z ∧ C_X12_river w h1 (PI c z)) := by
  have rr := I.2.1.rr
  have e4 := I.2.1.2.1
  obtain ⟨r, er⟩ : ∃ r, h 0 5 = r := ⟨_, rfl⟩
  have hr : r = 6 ∨ r = 23 := by omega
  obtain ⟨a1, a2, a3, a4⟩ := I.1.1
  obtain ⟨L, eL⟩ : ∃ L : Nat, h 68 1 = L := ⟨(h 68 1).toNat, by omega⟩
  have L16 : L ≤ 1600 := by omega
  have T : h 1 1 = L ∧ L ≤ 1600 ∧ ∀ k : Nat, k < L → (0 ≤ h 69 k ∧ h 69 k ≤ 255) ∧ h 2 k % 256 = h 69 k ∧ -128 ≤ h 2 k ∧ h 2 k < 128 := by
    refine ⟨by omega, L16, fun k hk => ?_⟩
    have := a4 k (by omega) (by omega)
    omega
  refine x_river (t := h 69) hr er (by omega) T (fun p' g' D h1 C1 V1 z1 z18 z19 h2 Z2 h3 q3 => ?_) (fun f D f1 f5 h1 V1 z1 z18 z19 => ?_)
  · have b42 := rdP_42 D
    have hi : ∀ o : Int, 61 ≤ o → h3 o = h o := fun o ho => by
      rw [q3]; funext i
      rw [hu_ne (by omega), hu_ne (by omega), Z2.2.2.2.2 o (by omega), hu_ne (by omega), hu_ne (by omega)]
      exact V1 o i (by omega) (by omega) (by omega) (by omega) (by omega)
    refine ⟨⟨by omega, by omega⟩, yc_river (t := h 69) (L := L) (by rw [hi 68 (by decide)]; exact eL) L16 (fun k hk => ⟨(T.2.2 k hk).1, by rw [hi 69 (by decide)]⟩) D (fun p'' g'' e h4 G4 z42 P4 y1 h5 q5 => ?_) (fun f e => nomatch e)⟩
    have ee : g' = g'' := congrArg Prod.snd (Sum.inr.inj e)
    subst ee
    have G5 := G4.tail q5
    have c44 : g' 68 44 ≤ 1600 := C1.2.2.2.2.2.2.2.2.2.2.2.2.2.1
    have g44 := G5.2.2.2.2.2.2.1
    have g93 := G5.2.1 2 (by decide) (by decide)
    refine y_stands (by omega) (by omega) (fun h6 S => ⟨?_, inv_river I hr C1 V1 z1 z18 z19 Z2 q3 G4 P4 y1 q5 S⟩)
    rw [S.2.2.2.2.2.2.2.2.2.2.2.2 42 (by decide) (by decide) (by decide), q5, hu_if, if_neg (by decide), hu_if, if_neg (by decide)]
    exact z42
  · obtain ⟨h2, q2⟩ : ∃ h2, h2 = hu h1 59 1 (h1 59 1 + 1) := ⟨_, rfl⟩
    rw [← q2]
    have hi : ∀ o : Int, 61 ≤ o → h2 o = h o := fun o ho => by
      rw [q2]; funext i
      rw [hu_ne (by omega)]
      exact V1 o i (by omega) (by omega) (by omega) (by omega) (by omega)
    have fb := rdP.fb 0 _ D (Nat.zero_le _)
    have fb2 : 0 ≤ f.2 ∧ f.2 ≤ (L : Int) := fb
    refine ⟨⟨by decide, by decide⟩, yc_river (t := h 69) (L := L) (by rw [hi 68 (by decide)]; exact eL) L16 (fun k hk => ⟨(T.2.2 k hk).1, by rw [hi 69 (by decide)]⟩) D (fun p'' g'' e => nomatch e) (fun f' e h4 P4 y1 g1 g5 h5 q5 => ⟨rfl, ?_⟩)⟩
    have ee := Sum.inl.inj e
    subst ee
    exact inv_refused I hr er V1 z1 ⟨f1, f5⟩ ⟨fb2.1, by omega⟩ z18 z19 q2 P4 y1 q5
end L4P
