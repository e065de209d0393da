/-! the reference's river stands: what was told is live -/
def CPY (h h1 : Hp) (o d : Int) (n : Nat) : Prop := (∀ i : Int, 0 ≤ i → i < n → h1 o (d + i) = h o i) ∧ (∀ i : Int, i < d → h1 o i = h o i) ∧ (∀ o' : Int, o' ≠ o → h1 o' = h o')
def CP2 (h h1 : Hp) (o o2 d : Int) (n : Nat) : Prop := (∀ i : Int, 0 ≤ i → i < n → h1 o (d + i) = h o i ∧ h1 o2 (d + i) = h o2 i) ∧ (∀ i : Int, i < d → h1 o i = h o i ∧ h1 o2 i = h o2 i) ∧ (∀ o' : Int, o' ≠ o → o' ≠ o2 → h1 o' = h o')
def STD (h h1 : Hp) : Prop := h1 68 36 = h 68 35 ∧ h1 68 61 = 0 ∧ h1 68 67 = 0 ∧ (∀ k : Int, 0 ≤ k → k < 3 → h1 93 (3 + k) = h 93 k ∧ h1 97 (3 + k) = h 97 k) ∧ (∀ i : Int, 0 ≤ i → i < 30 → h1 94 (30 + i) = h 94 i) ∧ (∀ i : Int, 0 ≤ i → i < 8 → h1 95 (8 + i) = h 95 i) ∧ (∀ i : Int, 0 ≤ i → i < 50 → h1 96 (50 + i) = h 96 i) ∧ (∀ i : Int, 0 ≤ i → i < 2 → h1 98 (2 + i) = h 98 i ∧ h1 99 (2 + i) = h 99 i) ∧ (∀ i : Int, 0 ≤ i → i < h 68 44 → h1 100 (1600 + i) = h 100 i) ∧ (∀ b : Int, 0 ≤ b → b < h 93 2 → h1 104 (9 + b) = h 96 (5 * b + 3)) ∧ (∀ i : Int, 0 ≤ i → i < 109 → ¬ (9 ≤ i ∧ i < 9 + h 93 2) → h1 104 i = 0) ∧ (∀ o : Int, o ≠ 68 → ¬ (93 ≤ o ∧ o ≤ 100) → o ≠ 104 → h1 o = h o) ∧ (∀ i : Int, i ≠ 36 → i ≠ 61 → i ≠ 67 → h1 68 i = h 68 i)
section L4L
variable {w : Wd} {h h' h0 h1 h2 h3 g g' : Hp} {K : Int → Hp → Prop}
theorem CPY.z {o d : Int} : CPY h h o d 0 := ⟨fun i i0 i1 => absurd i1 (by omega), fun _ _ => rfl, fun _ _ => rfl⟩
theorem CPY.step {o d : Int} {n : Nat} (C : CPY h h1 o d n) (hn : (n : Int) < d) (q : h2 = hu h1 o (d + n) (h1 o n)) : CPY h h2 o d (n + 1) := by
  obtain ⟨c1, c2, c3⟩ := C
  refine ⟨fun i i0 i1 => ?_, fun i id => ?_, fun o' n' => by rw [hu_row q n', c3 o' n']⟩
  · rw [q, hu_if]
    by_cases e : i = n
    · subst e; rw [if_pos rfl, c2 n hn]
    · rw [if_neg (by omega)]; exact c1 i i0 (by omega)
  · rw [q, hu_if, if_neg (by omega)]; exact c2 i id
theorem CP2.z {o o2 d : Int} : CP2 h h o o2 d 0 := ⟨fun i i0 i1 => absurd i1 (by omega), fun _ _ => ⟨rfl, rfl⟩, fun _ _ _ => rfl⟩
theorem CP2.step {o o2 d : Int} {n : Nat} (C : CP2 h h1 o o2 d n) (ne : o ≠ o2) (hn : (n : Int) < d) (q : h2 = hu h1 o (d + n) (h1 o n)) (q2 : h3 = hu h2 o2 (d + n) (h2 o2 n)) : CP2 h h3 o o2 d (n + 1) := by
  obtain ⟨c1, c2, c3⟩ := C
  have e1 : h3 o = h2 o := hu_row q2 ne
  have e2 : h2 o2 = h1 o2 := hu_row q (fun x => ne x.symm)
  refine ⟨fun i i0 i1 => ?_, fun i id => ?_, fun o' n' m' => by rw [hu_row q2 m', hu_row q n', c3 o' n' m']⟩
  · rw [e1, q2, hu_if, q, hu_if, ← q, e2]
    by_cases e : i = n
    · subst e; rw [if_pos rfl, if_pos rfl]; exact ⟨(c2 n hn).1, (c2 n hn).2⟩
    · rw [if_neg (by omega), if_neg (by omega)]; exact c1 i i0 (by omega)
  · rw [e1, q2, hu_if, q, hu_if, ← q, e2, if_neg (by omega), if_neg (by omega)]; exact c2 i id
theorem y_s10 (k : ∀ h1, CP2 h h1 93 97 3 3 → L_X12_stands_51 w 0 h1 K) : ∀ j n : Nat, n + j = 3 → ∀ h5 : Hp, CP2 h h5 93 97 3 n → L_X12_stands_10 w n h5 K := by
  intro j
  induction j with
  | zero => intro n e h5 C; obtain rfl : n = 3 := e; exact l_X12_stands_10 ⟨⟨by omega, by omega⟩, fun _ => k h5 C, fun c => absurd (by omega) c⟩
  | succ j ih =>
    intro n e h5 C
    exact l_X12_stands_10 ⟨⟨by omega, by omega⟩, fun c => absurd c (by omega), fun _ => ⟨⟨by omega, by omega⟩, ⟨by omega, by omega⟩, fun h6 q6 => ⟨⟨by omega, by omega⟩, ⟨by omega, by omega⟩, fun h10 q10 => ih (n + 1) (by omega) h10 (C.step (by decide) (by omega) q6 q10)⟩⟩⟩
theorem y_s51 (k : ∀ h1, CPY h h1 94 30 30 → L_X12_stands_80 w 0 h1 K) : ∀ j n : Nat, n + j = 30 → ∀ h5 : Hp, CPY h h5 94 30 n → L_X12_stands_51 w n h5 K := by
  intro j
  induction j with
  | zero => intro n e h5 C; obtain rfl : n = 30 := e; exact l_X12_stands_51 ⟨⟨by omega, by omega⟩, fun _ => k h5 C, fun c => absurd (by omega) c⟩
  | succ j ih =>
    intro n e h5 C
    exact l_X12_stands_51 ⟨⟨by omega, by omega⟩, fun c => absurd c (by omega), fun _ => ⟨⟨by omega, by omega⟩, ⟨by omega, by omega⟩, fun h6 q6 => ih (n + 1) (by omega) h6 (C.step (by omega) q6)⟩⟩
theorem y_s80 (k : ∀ h1, CPY h h1 95 8 8 → L_X12_stands_109 w 0 h1 K) : ∀ j n : Nat, n + j = 8 → ∀ h5 : Hp, CPY h h5 95 8 n → L_X12_stands_80 w n h5 K := by
  intro j
  induction j with
  | zero => intro n e h5 C; obtain rfl : n = 8 := e; exact l_X12_stands_80 ⟨⟨by omega, by omega⟩, fun _ => k h5 C, fun c => absurd (by omega) c⟩
  | succ j ih =>
    intro n e h5 C
    exact l_X12_stands_80 ⟨⟨by omega, by omega⟩, fun c => absurd c (by omega), fun _ => ⟨⟨by omega, by omega⟩, ⟨by omega, by omega⟩, fun h6 q6 => ih (n + 1) (by omega) h6 (C.step (by omega) q6)⟩⟩
theorem y_s109 (k : ∀ h1, CPY h h1 96 50 50 → L_X12_stands_138 w 0 h1 K) : ∀ j n : Nat, n + j = 50 → ∀ h5 : Hp, CPY h h5 96 50 n → L_X12_stands_109 w n h5 K := by
  intro j
  induction j with
  | zero => intro n e h5 C; obtain rfl : n = 50 := e; exact l_X12_stands_109 ⟨⟨by omega, by omega⟩, fun _ => k h5 C, fun c => absurd (by omega) c⟩
  | succ j ih =>
    intro n e h5 C
    exact l_X12_stands_109 ⟨⟨by omega, by omega⟩, fun c => absurd c (by omega), fun _ => ⟨⟨by omega, by omega⟩, ⟨by omega, by omega⟩, fun h6 q6 => ih (n + 1) (by omega) h6 (C.step (by omega) q6)⟩⟩
theorem y_s138 (k : ∀ h1, CP2 h h1 98 99 2 2 → L_X12_stands_179 w 0 h1 K) : ∀ j n : Nat, n + j = 2 → ∀ h5 : Hp, CP2 h h5 98 99 2 n → L_X12_stands_138 w n h5 K := by
  intro j
  induction j with
  | zero => intro n e h5 C; obtain rfl : n = 2 := e; exact l_X12_stands_138 ⟨⟨by omega, by omega⟩, fun _ => k h5 C, fun c => absurd (by omega) c⟩
  | succ j ih =>
    intro n e h5 C
    exact l_X12_stands_138 ⟨⟨by omega, by omega⟩, fun c => absurd c (by omega), fun _ => ⟨⟨by omega, by omega⟩, ⟨by omega, by omega⟩, fun h6 q6 => ⟨⟨by omega, by omega⟩, ⟨by omega, by omega⟩, fun h10 q10 => ih (n + 1) (by omega) h10 (C.step (by decide) (by omega) q6 q10)⟩⟩⟩
theorem y_s179 {N : Nat} (hN : N ≤ 1600) (e44 : h 68 44 = N) (k : ∀ h1, CPY h h1 100 1600 N → L_X12_stands_211 w 0 h1 K) : ∀ j n : Nat, n + j = N → ∀ h5 : Hp, CPY h h5 100 1600 n → L_X12_stands_179 w n h5 K := by
  intro j
  induction j with
  | zero =>
    intro n e h5 C
    obtain rfl : n = N := e
    have e5 : h5 68 44 = n := by rw [C.2.2 68 (by decide), e44]
    refine l_X12_stands_179 ?_
    rw [e5]
    exact ⟨⟨by omega, by omega⟩, ⟨by omega, by omega⟩, fun _ => k h5 C, fun c => absurd (by omega) c⟩
  | succ j ih =>
    intro n e h5 C
    have e5 : h5 68 44 = N := by rw [C.2.2 68 (by decide), e44]
    refine l_X12_stands_179 ?_
    rw [e5]
    exact ⟨⟨by omega, by omega⟩, ⟨by omega, by omega⟩, fun c => absurd c (by omega), fun _ => ⟨⟨by omega, by omega⟩, ⟨by omega, by omega⟩, fun h6 q6 => ih (n + 1) (by omega) h6 (C.step (by omega) q6)⟩⟩
theorem y_s211 (k : ∀ h1, (∀ i : Int, 0 ≤ i → i < 109 → h1 104 i = 0) → (∀ o : Int, o ≠ 104 → h1 o = h o) → L_X12_stands_232 w 0 h1 K) : ∀ j n : Nat, n + j = 109 → ∀ h5 : Hp, (∀ i : Int, 0 ≤ i → i < n → h5 104 i = 0) → (∀ o : Int, o ≠ 104 → h5 o = h o) → L_X12_stands_211 w n h5 K := by
  intro j
  induction j with
  | zero => intro n e h5 V fr; obtain rfl : n = 109 := e; exact l_X12_stands_211 ⟨⟨by omega, by omega⟩, fun _ => k h5 (fun i i0 i1 => V i i0 (by omega)) fr, fun c => absurd (by omega) c⟩
  | succ j ih =>
    intro n e h5 V fr
    refine l_X12_stands_211 ⟨⟨by omega, by omega⟩, fun c => absurd c (by omega), fun _ => ⟨⟨by omega, by omega⟩, fun h6 q6 => ih (n + 1) (by omega) h6 (fun i i0 i1 => ?_) (fun o m => by rw [hu_row q6 m, fr o m])⟩⟩
    rw [q6, hu_if]
    by_cases d : i = n
    · rw [if_pos d]
    · rw [if_neg d]; exact V i i0 (by omega)
theorem y_s232 {N : Nat} (hN : N ≤ 10) (e93 : h 93 2 = N) (k : ∀ h1, (∀ b : Int, 0 ≤ b → b < N → h1 104 (9 + b) = h 96 (5 * b + 3)) → (∀ i : Int, ¬ (9 ≤ i ∧ i < 9 + N) → h1 104 i = h 104 i) → (∀ o : Int, o ≠ 104 → h1 o = h o) → ∀ h2 : Hp, h2 = hu h1 68 61 0 → ∀ h3 : Hp, h3 = hu h2 68 67 0 → K 0 h3) : ∀ j n : Nat, n + j = N → ∀ h5 : Hp, (∀ b : Int, 0 ≤ b → b < n → h5 104 (9 + b) = h 96 (5 * b + 3)) → (∀ i : Int, ¬ (9 ≤ i ∧ i < 9 + N) → h5 104 i = h 104 i) → (∀ o : Int, o ≠ 104 → h5 o = h o) → L_X12_stands_232 w n h5 K := by
  intro j
  induction j with
  | zero =>
    intro n e h5 V U fr
    obtain rfl : n = N := e
    have e5 : h5 93 2 = n := by rw [fr 93 (by decide), e93]
    refine l_X12_stands_232 ?_
    rw [e5]
    exact ⟨⟨by omega, by omega⟩, ⟨by omega, by omega⟩, fun _ h55 q55 h57 q57 => k h5 V U fr h55 q55 h57 q57, fun c => absurd (by omega) c⟩
  | succ j ih =>
    intro n e h5 V U fr
    have e5 : h5 93 2 = N := by rw [fr 93 (by decide), e93]
    refine l_X12_stands_232 ?_
    rw [e5]
    refine ⟨⟨by omega, by omega⟩, ⟨by omega, by omega⟩, fun c => absurd c (by omega), fun _ => ⟨⟨by omega, by omega⟩, ⟨by omega, by omega⟩, fun h6 q6 => ih (n + 1) (by omega) h6 (fun b b0 b1 => ?_) (fun i m => ?_) (fun o m => by rw [hu_row q6 m, fr o m])⟩⟩
    · rw [q6, hu_if]
      by_cases d : b = n
      · subst d; rw [if_pos rfl, fr 96 (by decide)]
      · rw [if_neg (by omega)]; exact V b b0 (by omega)
    · rw [q6, hu_if, if_neg (by omega)]; exact U i m
theorem y_stands (b44 : 0 ≤ h 68 44 ∧ h 68 44 ≤ 1600) (b93 : 0 ≤ h 93 2 ∧ h 93 2 ≤ 10) (k : ∀ h1, STD h h1 → K 0 h1) : C_X12_stands w h K := by
  refine c_X12_stands (fun h1 q1 => ?_)
  have r1 : ∀ o : Int, o ≠ 68 → h1 o = h o := fun o n => hu_row q1 n
  refine y_s10 (h := h1) (fun h2 C2 => ?_) 3 0 rfl h1 CP2.z
  refine y_s51 (h := h2) (fun h3 C3 => ?_) 30 0 rfl h2 CPY.z
  refine y_s80 (h := h3) (fun h4 C4 => ?_) 8 0 rfl h3 CPY.z
  refine y_s109 (h := h4) (fun h5 C5 => ?_) 50 0 rfl h4 CPY.z
  refine y_s138 (h := h5) (fun h6 C6 => ?_) 2 0 rfl h5 CP2.z
  have r61 : ∀ o : Int, ¬ (93 ≤ o ∧ o ≤ 99) → h6 o = h1 o := fun o n => by rw [C6.2.2 o (by omega) (by omega), C5.2.2 o (by omega), C4.2.2 o (by omega), C3.2.2 o (by omega), C2.2.2 o (by omega) (by omega)]
  obtain ⟨N, eN⟩ : ∃ N : Nat, (N : Int) = h 68 44 := ⟨(h 68 44).toNat, by omega⟩
  have e44 : h6 68 44 = N := by rw [r61 68 (by omega), q1, hu_if, if_neg (by decide), eN]
  refine y_s179 (h := h6) (N := N) (by omega) e44 (fun h7 C7 => ?_) N 0 (by omega) h6 CPY.z
  refine y_s211 (h := h7) (fun h8 Z8 r8 => ?_) 109 0 rfl h7 (fun i i0 i1 => absurd i1 (by omega)) (fun _ _ => rfl)
  have r62 : ∀ i : Int, i < 3 → h2 93 i = h 93 i := fun i n => by rw [(C2.2.1 i n).1, r1 93 (by decide)]
  have r82 : ∀ o : Int, o = 93 → h8 o = h2 o := fun o e => by rw [r8 o (by omega), C7.2.2 o (by omega), C6.2.2 o (by omega) (by omega), C5.2.2 o (by omega), C4.2.2 o (by omega), C3.2.2 o (by omega)]
  obtain ⟨M, eM⟩ : ∃ M : Nat, (M : Int) = h 93 2 := ⟨(h 93 2).toNat, by omega⟩
  refine y_s232 (h := h8) (N := M) (by omega) (by rw [r82 93 rfl, r62 2 (by decide), eM]) (fun h9 V9 U9 r9 h10 q10 h11 q11 => ?_) M 0 (by omega) h8 (fun i i0 i1 => absurd i1 (by omega)) (fun _ _ => rfl) (fun _ _ => rfl)
  have e11 : ∀ o : Int, o ≠ 68 → h11 o = h9 o := fun o n => by rw [hu_row q11 n, hu_row q10 n]
  have e68 : ∀ i : Int, h11 68 i = if i = 67 then 0 else if i = 61 then 0 else if i = 36 then h 68 35 else h 68 i := fun i => by
    rw [q11, hu_if, q10, hu_if, r9 68 (by decide), r8 68 (by decide), C7.2.2 68 (by decide), r61 68 (by omega), q1, hu_if]
  have e97 : ∀ o : Int, o ≠ 68 → o ≠ 104 → h11 o = h7 o := fun o n m => by rw [e11 o n, r9 o m, r8 o m]
  have e8 : ∀ o : Int, o ≠ 104 → h8 o = h7 o := fun o m => r8 o m
  have d96 : ∀ i : Int, h8 96 i = h5 96 i := fun i => by rw [r8 96 (by decide), C7.2.2 96 (by decide), C6.2.2 96 (by decide) (by decide)]
  have b96 : ∀ i : Int, h4 96 i = h 96 i := fun i => by rw [C4.2.2 96 (by decide), C3.2.2 96 (by decide), C2.2.2 96 (by decide) (by decide), r1 96 (by decide)]
  refine k h11 ⟨by rw [e68]; rfl, by rw [e68]; rfl, by rw [e68]; rfl, fun k k0 k1 => ⟨?_, ?_⟩, fun i i0 i1 => ?_, fun i i0 i1 => ?_, fun i i0 i1 => ?_, fun i i0 i1 => ⟨?_, ?_⟩, fun i i0 i1 => ?_, fun b b0 b1 => ?_, fun i i0 i1 n => ?_, fun o n1 n2 n3 => ?_, fun i n1 n2 n3 => ?_⟩
  · rw [e97 93 (by decide) (by decide), C7.2.2 93 (by decide), C6.2.2 93 (by decide) (by decide), C5.2.2 93 (by decide), C4.2.2 93 (by decide), C3.2.2 93 (by decide), (C2.1 k k0 k1).1, r1 93 (by decide)]
  · rw [e97 97 (by decide) (by decide), C7.2.2 97 (by decide), C6.2.2 97 (by decide) (by decide), C5.2.2 97 (by decide), C4.2.2 97 (by decide), C3.2.2 97 (by decide), (C2.1 k k0 k1).2, r1 97 (by decide)]
  · rw [e97 94 (by decide) (by decide), C7.2.2 94 (by decide), C6.2.2 94 (by decide) (by decide), C5.2.2 94 (by decide), C4.2.2 94 (by decide), C3.1 i i0 i1, C2.2.2 94 (by decide) (by decide), r1 94 (by decide)]
  · rw [e97 95 (by decide) (by decide), C7.2.2 95 (by decide), C6.2.2 95 (by decide) (by decide), C5.2.2 95 (by decide), C4.1 i i0 i1, C3.2.2 95 (by decide), C2.2.2 95 (by decide) (by decide), r1 95 (by decide)]
  · rw [e97 96 (by decide) (by decide), C7.2.2 96 (by decide), C6.2.2 96 (by decide) (by decide), C5.1 i i0 i1, b96]
  · rw [e97 98 (by decide) (by decide), C7.2.2 98 (by decide), (C6.1 i i0 i1).1, C5.2.2 98 (by decide), C4.2.2 98 (by decide), C3.2.2 98 (by decide), C2.2.2 98 (by decide) (by decide), r1 98 (by decide)]
  · rw [e97 99 (by decide) (by decide), C7.2.2 99 (by decide), (C6.1 i i0 i1).2, C5.2.2 99 (by decide), C4.2.2 99 (by decide), C3.2.2 99 (by decide), C2.2.2 99 (by decide) (by decide), r1 99 (by decide)]
  · rw [e97 100 (by decide) (by decide), C7.1 i i0 (by omega), r61 100 (by omega), r1 100 (by decide)]
  · rw [e11 104 (by decide), V9 b b0 (by omega), d96, C5.2.1 (5 * b + 3) (by omega), b96]
  · rw [e11 104 (by decide), U9 i (by omega)]; exact Z8 i i0 i1
  · rw [e97 o n1 n3, C7.2.2 o (by omega), r61 o (by omega), r1 o n1]
  · rw [e68, if_neg n3, if_neg n2, if_neg n1]
end L4L
