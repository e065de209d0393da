/-! the class's river is cleared -/
def gI (v : Int) : Hp := fun o i => if o = 97 then (if i = 0 then 10 else if i = 1 then 20 else 0) else if o = 98 then -1 else if o = 68 then (if i = 35 then v else if i = 42 then 1 else 0) else 0
/-- a river of the class with nothing told -/
def Z0 (h : Hp) (r : Int) : Prop := h (r + 1) 1 = 0 ∧ h (r + 3) 1 = 0 ∧ h (r + 5) 1 = 0 ∧ (∀ i : Int, 0 ≤ i → i < 8 → h (r + 7) i = 0) ∧ (∀ b : Int, 0 ≤ b → b < 10 → h (r + 11) b = 0) ∧ h (r + 13) 1 = 0 ∧ h (r + 15) 1 = 0 ∧ h r 11 = 0 ∧ h r 13 = 10 ∧ h r 14 = 20 ∧ h r 15 = 0
section L4D
variable {w : Wd} {h h' h0 h1 h2 g g' : Hp} {K : Int → Hp → Prop} {t : Int → Int} {L p q : Nat} {r : Int}
theorem x_clear7 (hr : r = 6 ∨ r = 23) (k : ∀ h1, Z0 h1 r → (∀ o : Int, ¬ (r ≤ o ∧ o < r + 17) → h1 o = h o) → K 0 h1) : C_X7_clear w r h K := by
  refine c_X7_clear (ob7 hr) (fun h1 q1 h2 q2 h3 q3 => ?_)
  have fr3 : ∀ o : Int, ¬ (r ≤ o ∧ o < r + 17) → h3 o = h o := fun o n => by rw [hu_row q3 (by omega), hu_row q2 (by omega), hu_row q1 (by omega)]
  have z1 : h3 (r + 1) 1 = 0 := by rw [hu_row q3 (by omega), hu_row q2 (by omega), q1, hu_if, if_pos rfl]
  have z3 : h3 (r + 3) 1 = 0 := by rw [hu_row q3 (by omega), q2, hu_if, if_pos rfl]
  have z5 : h3 (r + 5) 1 = 0 := by rw [q3, hu_if, if_pos rfl]
  have last : ∀ h5 : Hp, h5 (r + 1) 1 = 0 → h5 (r + 3) 1 = 0 → h5 (r + 5) 1 = 0 → (∀ i : Int, 0 ≤ i → i < 8 → h5 (r + 7) i = 0) → (∀ o : Int, ¬ (r ≤ o ∧ o < r + 17) → h5 o = h o) → ∀ j n : Nat, n + j = 10 → (∀ i : Int, 0 ≤ i → i < n → h5 (r + 11) i = 0) → L_X7_clear_50 w r n h5 K := by
    intro h5 y1 y3 y5 y7 fr j
    induction j generalizing h5 with
    | zero =>
      intro n e V
      refine l_X7_clear_50 (ob7 hr) ⟨⟨by omega, by omega⟩, fun _ g1 p1 g2 p2 g3 p3 g4 p4 g5 p5 g6 p6 g7 p7 => ?_, fun c => absurd (by omega) c⟩
      have er : ∀ o : Int, o ≠ r → o ≠ r + 13 → o ≠ r + 15 → g7 o = h5 o := fun o x1 x2 x3 => by rw [hu_row p7 x1, hu_row p6 x1, hu_row p5 x1, hu_row p4 x1, hu_row p3 x1, hu_row p2 x3, hu_row p1 x2]
      refine k g7 ⟨by rw [er _ (by omega) (by omega) (by omega)]; exact y1, by rw [er _ (by omega) (by omega) (by omega)]; exact y3, by rw [er _ (by omega) (by omega) (by omega)]; exact y5, by rw [er _ (by omega) (by omega) (by omega)]; exact y7, fun b b0 b1 => by rw [er _ (by omega) (by omega) (by omega)]; exact V b b0 (by omega), ?_, ?_, ?_, ?_, ?_, ?_⟩ (fun o n => by rw [er o (by omega) (by omega) (by omega)]; exact fr o n)
      · rw [hu_row p7 (by omega), hu_row p6 (by omega), hu_row p5 (by omega), hu_row p4 (by omega), hu_row p3 (by omega), hu_row p2 (by omega), p1, hu_if, if_pos rfl]
      · rw [hu_row p7 (by omega), hu_row p6 (by omega), hu_row p5 (by omega), hu_row p4 (by omega), hu_row p3 (by omega), p2, hu_if, if_pos rfl]
      · rw [p7, hu_if, if_neg (by decide), p6, hu_if, if_neg (by decide), p5, hu_if, if_neg (by decide), p4, hu_if, if_neg (by decide), p3, hu_if, if_pos rfl]
      · rw [p7, hu_if, if_neg (by decide), p6, hu_if, if_neg (by decide), p5, hu_if, if_pos rfl]
      · rw [p7, hu_if, if_neg (by decide), p6, hu_if, if_pos rfl]
      · rw [p7, hu_if, if_pos rfl]
    | succ j ih =>
      intro n e V
      refine l_X7_clear_50 (ob7 hr) ⟨⟨by omega, by omega⟩, fun c => absurd c (by omega), fun _ => ⟨⟨by omega, by omega⟩, fun h6 q6 => ?_⟩⟩
      refine ih h6 (by rw [hu_row q6 (by omega)]; exact y1) (by rw [hu_row q6 (by omega)]; exact y3) (by rw [hu_row q6 (by omega)]; exact y5) (by rw [hu_row q6 (by omega)]; exact y7) (fun o n' => by rw [hu_row q6 (by omega)]; exact fr o n') (n + 1) (by omega) (fun i i0 i1 => ?_)
      rw [q6, hu_if]
      by_cases d : i = n
      · rw [if_pos d]
      · rw [if_neg d]; exact V i i0 (by omega)
  suffices ∀ j n : Nat, n + j = 8 → ∀ h5 : Hp, h5 (r + 1) 1 = 0 → h5 (r + 3) 1 = 0 → h5 (r + 5) 1 = 0 → (∀ o : Int, ¬ (r ≤ o ∧ o < r + 17) → h5 o = h o) → (∀ i : Int, 0 ≤ i → i < n → h5 (r + 7) i = 0) → L_X7_clear_26 w r n h5 K from this 8 0 rfl h3 z1 z3 z5 fr3 (fun i i0 i1 => absurd i1 (by omega))
  intro j
  induction j with
  | zero =>
    intro n e h5 y1 y3 y5 fr V
    exact l_X7_clear_26 (ob7 hr) ⟨⟨by omega, by omega⟩, fun _ => last h5 y1 y3 y5 (fun i i0 i1 => V i i0 (by omega)) fr 10 0 rfl (fun i i0 i1 => absurd i1 (by omega)), fun c => absurd (by omega) c⟩
  | succ j ih =>
    intro n e h5 y1 y3 y5 fr V
    refine l_X7_clear_26 (ob7 hr) ⟨⟨by omega, by omega⟩, fun c => absurd c (by omega), fun _ => ⟨⟨by omega, by omega⟩, fun h6 q6 => ?_⟩⟩
    refine ih (n + 1) (by omega) h6 (by rw [hu_row q6 (by omega)]; exact y1) (by rw [hu_row q6 (by omega)]; exact y3) (by rw [hu_row q6 (by omega)]; exact y5) (fun o n' => by rw [hu_row q6 (by omega)]; exact fr o n') (fun i i0 i1 => ?_)
    rw [q6, hu_if]
    by_cases d : i = n
    · rw [if_pos d]
    · rw [if_neg d]; exact V i i0 (by omega)
theorem Z0.cr {v : Int} (Z : Z0 h r) (hr : r = 6 ∨ r = 23) (hv : 3 ≤ v ∧ v ≤ 8) (e12 : h r 12 = v) (h1 : h' = hu h r 11 1) : CRv h' (gI v) r := by
  obtain ⟨z1, z3, z5, z7, z11, z13, z15, c11, c13, c14, c15⟩ := Z
  have er : ∀ o : Int, o ≠ r → h' o = h o := fun o n => hu_row h1 n
  have e0 : ∀ j : Int, h' r j = if j = 11 then 1 else h r j := fun j => by rw [h1, hu_if]
  have lk : ∀ {o k : Int} {m : Nat}, o ≠ r → h o 1 = 0 → LK h' (gI v) o k m := fun x y => ⟨by rw [er _ x]; exact y, Int.le_refl _, by show (0 : Int) ≤ _; omega, fun i i0 i1 => absurd (show i < 0 from i1) (by omega)⟩
  refine ⟨⟨by rw [e0, if_neg (by decide)]; exact e12, hv.1, hv.2⟩, lk (by omega) z1, lk (by omega) z3, lk (by omega) z5, fun i i0 i1 => ⟨by rw [er _ (by omega)]; exact z7 i i0 i1, Int.le_refl _, by show (0 : Int) ≤ 9; decide⟩, fun b b0 b1 => absurd (show b < 0 from b1) (by omega), fun b b0 b1 => by rw [er _ (by omega)]; exact z11 b b0 b1, ⟨by rw [e0, if_neg (by decide)]; exact c13, by show (1 : Int) ≤ 10; decide, by show (10 : Int) ≤ 99; decide⟩, ⟨by rw [e0, if_neg (by decide)]; exact c14, by show (1 : Int) ≤ 20; decide, by show (20 : Int) ≤ 99; decide⟩, ⟨by rw [e0, if_neg (by decide)]; exact c15, by show (0 : Int) ≤ 0; decide, by show (0 : Int) ≤ 50; decide⟩, Or.inl ⟨by rw [er _ (by omega)]; exact z13, rfl⟩, Or.inl ⟨by rw [er _ (by omega)]; exact z15, rfl⟩, by show (0 : Int) ≤ 0; decide, by show (0 : Int) ≤ 1600; decide, by rw [e0, if_pos rfl]; rfl⟩
end L4D
