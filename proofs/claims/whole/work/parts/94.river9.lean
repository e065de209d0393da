/-! a bank is told on both sides -/
section L3Z
variable {w : Wd} {h h' h0 h1 h2 g g' : Hp} {K : Int → Hp → Prop} {t : Int → Int} {L p q : Nat} {r b v a c s n z : Int}
theorem gB_93 {j : Int} : gBank g v a c s n z 93 j = if j = 2 then g 93 2 + 1 else g 93 j := by
  unfold gBank
  rw [hu_if, hu_row rfl (by decide), hu_row rfl (by decide), hu_row rfl (by decide), hu_row rfl (by decide), hu_row rfl (by decide), hu_row rfl (by decide)]
theorem gB_94 {j : Int} : gBank g v a c s n z 94 j = if j = 20 + g 93 2 then v else g 94 j := by
  unfold gBank
  rw [hu_row rfl (by decide), hu_row rfl (by decide), hu_row rfl (by decide), hu_row rfl (by decide), hu_row rfl (by decide), hu_row rfl (by decide), hu_if]
theorem gB_96 {j : Int} : gBank g v a c s n z 96 j = if j = 5 * g 93 2 + 4 then z else if j = 5 * g 93 2 + 3 then n else if j = 5 * g 93 2 + 2 then s else if j = 5 * g 93 2 + 1 then c else if j = 5 * g 93 2 then a else g 96 j := by
  unfold gBank
  rw [hu_row rfl (by decide), hu_if, hu_if, hu_if, hu_if, hu_if, hu_row rfl (by decide)]
theorem gB_o {o : Int} (x1 : o ≠ 93) (x2 : o ≠ 94) (x3 : o ≠ 96) : gBank g v a c s n z o = g o := by
  unfold gBank
  rw [hu_row rfl x1, hu_row rfl x3, hu_row rfl x3, hu_row rfl x3, hu_row rfl x3, hu_row rfl x3, hu_row rfl x2]
theorem s5_o {o : Int} (H : ¬ (r + 8 ≤ o ∧ o ≤ r + 12)) : S5 h r b a c s n z o = h o := by
  unfold S5
  rw [hu_row rfl (by omega), hu_row rfl (by omega), hu_row rfl (by omega), hu_row rfl (by omega), hu_row rfl (by omega)]
theorem s5_8 {j : Int} : S5 h r b a c s n z (r + 8) j = if j = b then a else h (r + 8) j := by
  unfold S5
  rw [hu_row rfl (by omega), hu_row rfl (by omega), hu_row rfl (by omega), hu_row rfl (by omega), hu_if]
theorem s5_9 {j : Int} : S5 h r b a c s n z (r + 9) j = if j = b then c else h (r + 9) j := by
  unfold S5
  rw [hu_row rfl (by omega), hu_row rfl (by omega), hu_row rfl (by omega), hu_if, hu_row rfl (by omega)]
theorem s5_10 {j : Int} : S5 h r b a c s n z (r + 10) j = if j = b then s else h (r + 10) j := by
  unfold S5
  rw [hu_row rfl (by omega), hu_row rfl (by omega), hu_if, hu_row rfl (by omega), hu_row rfl (by omega)]
theorem s5_11 {j : Int} : S5 h r b a c s n z (r + 11) j = if j = b then n else h (r + 11) j := by
  unfold S5
  rw [hu_row rfl (by omega), hu_if, hu_row rfl (by omega), hu_row rfl (by omega), hu_row rfl (by omega)]
theorem s5_12 {j : Int} : S5 h r b a c s n z (r + 12) j = if j = b then z else h (r + 12) j := by
  unfold S5
  rw [hu_if, hu_row rfl (by omega), hu_row rfl (by omega), hu_row rfl (by omega), hu_row rfl (by omega)]
theorem CRv.bank {x : Int} (A : CRv h g r) (hr : r = 6 ∨ r = 23) (full : g 93 2 < 10) (N : NmR x v) (e : ∀ o' i : Int, h' o' i = if o' = r + 5 ∧ i = 1 then g 93 2 + 1 else if o' = r + 5 + 1 ∧ i = g 93 2 then x else if o' = 1 then h' 1 i else h o' i) (ab : 0 ≤ a ∧ a < g 93 0) (cb : 0 ≤ c ∧ c < g 93 1) (sb : 0 ≤ s ∧ s < g 68 35) (nb : 0 ≤ n ∧ n ≤ 99) (zb : 1 ≤ z ∧ z ≤ 9) : CRv (S5 h' r (g 93 2) a c s n z) (gBank g v a c s n z) r := by
  obtain ⟨a1, a2, a3, a4, a5, a6, a7, a8, a9, a10, a11, a12, a13⟩ := A
  have er : ∀ o' : Int, o' ≠ 1 → o' ≠ r + 5 → o' ≠ r + 6 → ¬ (r + 8 ≤ o' ∧ o' ≤ r + 12) → S5 h' r (g 93 2) a c s n z o' = h o' := fun o' x0 x1 x2 x3 => by
    rw [s5_o x3]
    exact funext (fun i => by rw [e, if_neg (fun y => x1 y.1), if_neg (fun y => x2 (by omega)), if_neg x0])
  have eh : ∀ o' : Int, r + 8 ≤ o' → o' ≤ r + 12 → h' o' = h o' := fun o' x0 x1 => funext (fun i => by rw [e, if_neg (fun y => by omega), if_neg (fun y => by omega), if_neg (by omega)])
  have p0 := a4.2.1
  have gg : ∀ {o k : Int} {m : Nat} {H : Hp}, LK H (gN g 2 v) o k m → LK H (gBank g v a c s n z) o k m := fun B => B.gg (funext (fun j => by rw [gB_93, gN_93])) (funext (fun j => by rw [gB_94, gN_94]; rfl))
  have b2 : gBank g v a c s n z 93 2 = g 93 2 + 1 := by rw [gB_93, if_pos rfl]
  refine ⟨by rw [er r (by omega) (by omega) (by omega) (by omega), gB_o (by decide) (by decide) (by decide)]; exact a1, gg (a2.oth (by decide) (by decide) ⟨p0, full⟩ (by rw [er _ (by omega) (by omega) (by omega) (by omega)]) (er _ (by omega) (by omega) (by omega) (by omega))), gg (a3.oth (by decide) (by decide) ⟨p0, full⟩ (by rw [er _ (by omega) (by omega) (by omega) (by omega)]) (er _ (by omega) (by omega) (by omega) (by omega))), gg (a4.new (by omega) N (by rw [s5_o (by omega), e, if_pos ⟨rfl, rfl⟩]) (fun i => ?_)), by rw [er _ (by omega) (by omega) (by omega) (by omega), gB_o (by decide) (by decide) (by decide)]; exact a5, fun b b0 b1 => ?_, fun b b0 b1 => ?_, by rw [er r (by omega) (by omega) (by omega) (by omega), gB_o (by decide) (by decide) (by decide)]; exact a8, by rw [er r (by omega) (by omega) (by omega) (by omega), gB_o (by decide) (by decide) (by decide)]; exact a9, by rw [er r (by omega) (by omega) (by omega) (by omega), gB_o (by decide) (by decide) (by decide)]; exact a10, (a11.hh (er _ (by omega) (by omega) (by omega) (by omega)) (er _ (by omega) (by omega) (by omega) (by omega))).gg (gB_o (by decide) (by decide) (by decide)) (gB_o (by decide) (by decide) (by decide)) (gB_o (by decide) (by decide) (by decide)) (gB_o (by decide) (by decide) (by decide)), (a12.hh (er _ (by omega) (by omega) (by omega) (by omega)) (er _ (by omega) (by omega) (by omega) (by omega))).gg (gB_o (by decide) (by decide) (by decide)) (gB_o (by decide) (by decide) (by decide)) (gB_o (by decide) (by decide) (by decide)) (gB_o (by decide) (by decide) (by decide)), by rw [er r (by omega) (by omega) (by omega) (by omega), gB_o (by decide) (by decide) (by decide)]; exact a13⟩
  · rw [s5_o (by omega), e, if_neg (fun y => by omega)]
    by_cases d : i = g 93 2
    · rw [if_pos ⟨rfl, d⟩, if_pos d]
    · rw [if_neg (fun y => d y.2), if_neg d, if_neg (by omega)]
  · rw [b2] at b1
    have u0 : gBank g v a c s n z 93 0 = g 93 0 := by rw [gB_93, if_neg (by decide)]
    have u1 : gBank g v a c s n z 93 1 = g 93 1 := by rw [gB_93, if_neg (by decide)]
    unfold CB
    rw [s5_8, s5_9, s5_10, s5_11, s5_12, gB_96, gB_96, gB_96, gB_96, gB_96, u0, u1, gB_o (o := 68) (by decide) (by decide) (by decide)]
    by_cases d : b = g 93 2
    · subst d
      rw [if_pos rfl, if_pos rfl, if_pos rfl, if_pos rfl, if_pos rfl]
      simp only [show ¬ (5 * g 93 2 = 5 * g 93 2 + 4) by omega, show ¬ (5 * g 93 2 = 5 * g 93 2 + 3) by omega, show ¬ (5 * g 93 2 = 5 * g 93 2 + 2) by omega, show ¬ (5 * g 93 2 = 5 * g 93 2 + 1) by omega, show ¬ (5 * g 93 2 + 1 = 5 * g 93 2 + 4) by omega, show ¬ (5 * g 93 2 + 1 = 5 * g 93 2 + 3) by omega, show ¬ (5 * g 93 2 + 1 = 5 * g 93 2 + 2) by omega, show ¬ (5 * g 93 2 + 2 = 5 * g 93 2 + 4) by omega, show ¬ (5 * g 93 2 + 2 = 5 * g 93 2 + 3) by omega, show ¬ (5 * g 93 2 + 3 = 5 * g 93 2 + 4) by omega, if_true, if_false]
      exact ⟨⟨trivial, ab⟩, ⟨trivial, cb⟩, ⟨trivial, sb⟩, ⟨trivial, nb⟩, trivial, zb⟩
    · have cc := a6 b b0 (by omega)
      unfold CB at cc
      rw [if_neg d, if_neg d, if_neg d, if_neg d, if_neg d, eh _ (by omega) (by omega), eh _ (by omega) (by omega), eh _ (by omega) (by omega), eh _ (by omega) (by omega), eh _ (by omega) (by omega)]
      have no : ∀ j k : Int, 0 ≤ j → j ≤ 4 → 0 ≤ k → k ≤ 4 → ¬ (5 * b + j = 5 * g 93 2 + k) := fun j k x0 x1 x2 x3 y => by omega
      have n0 : ∀ k : Int, 0 ≤ k → k ≤ 4 → ¬ (5 * b = 5 * g 93 2 + k) := fun k x2 x3 y => by omega
      have n5 : ∀ j : Int, 0 ≤ j → j ≤ 4 → ¬ (5 * b + j = 5 * g 93 2) := fun j x2 x3 y => by omega
      have n6 : ¬ (5 * b = 5 * g 93 2) := by omega
      simp only [no 1 4 (by decide) (by decide) (by decide) (by decide), no 1 3 (by decide) (by decide) (by decide) (by decide), no 1 2 (by decide) (by decide) (by decide) (by decide), no 1 1 (by decide) (by decide) (by decide) (by decide), no 2 4 (by decide) (by decide) (by decide) (by decide), no 2 3 (by decide) (by decide) (by decide) (by decide), no 2 2 (by decide) (by decide) (by decide) (by decide), no 2 1 (by decide) (by decide) (by decide) (by decide), no 3 4 (by decide) (by decide) (by decide) (by decide), no 3 3 (by decide) (by decide) (by decide) (by decide), no 3 2 (by decide) (by decide) (by decide) (by decide), no 3 1 (by decide) (by decide) (by decide) (by decide), no 4 4 (by decide) (by decide) (by decide) (by decide), no 4 3 (by decide) (by decide) (by decide) (by decide), no 4 2 (by decide) (by decide) (by decide) (by decide), no 4 1 (by decide) (by decide) (by decide) (by decide), n0 4 (by decide) (by decide), n0 3 (by decide) (by decide), n0 2 (by decide) (by decide), n0 1 (by decide) (by decide), n5 1 (by decide) (by decide), n5 2 (by decide) (by decide), n5 3 (by decide) (by decide), n5 4 (by decide) (by decide), n6, if_false]
      exact cc
  · rw [b2] at b0
    rw [s5_11, if_neg (by omega), eh _ (by omega) (by omega)]
    exact a7 b (by omega) b1
end L3Z
