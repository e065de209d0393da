/-! what has been made: final things are in place; nothing has been told yet -/
def U_law : List Up := U_X12_init_68 ++ ((2, 68, 12, 0) :: (U_X11_init_0 ++ ((2, 0, 11, 0) :: [])))
def frozB (U : List Up) : Bool := (List.range NT).all fun k => match tt[k]? with
  | some (.inl ci) => (List.range (nfs.getD ci 0)).all fun j => decide (fk ci j < 3) || lk U k j == some ((k : Int) + (fk ci j - 1000))
  | some (.inr (kd, len)) => decide (kd ≠ 3) || (List.range len).all fun j => lk U k j == some (cw k j)
  | none => true
theorem froz_of {U : List Up} {h : Hp} (e : frozB U = true) : Froz (ap U h) := by
  refine ⟨fun k ci j hk hj hf => ?_, fun k len j hk hj => ?_⟩
  · have kl : k < NT := (List.getElem?_eq_some_iff.mp hk).1
    have a := List.all_eq_true.mp e k (List.mem_range.mpr kl)
    rw [hk] at a
    have b := List.all_eq_true.mp a j (List.mem_range.mpr hj)
    rcases Bool.or_eq_true _ _ |>.mp b with c | c
    · exact absurd (of_decide_eq_true c) (by omega)
    · exact ap_some (by simpa using c)
  · have kl : k < NT := (List.getElem?_eq_some_iff.mp hk).1
    have a := List.all_eq_true.mp e k (List.mem_range.mpr kl)
    rw [hk] at a
    rcases Bool.or_eq_true _ _ |>.mp a with c | c
    · exact absurd rfl (of_decide_eq_true c)
    · have b := List.all_eq_true.mp c j (List.mem_range.mpr hj)
      exact ap_some (by simpa using b)
theorem froz_law {h : Hp} : Froz (ap U_law h) := froz_of (by decide +kernel)
def zerB (U : List Up) (o : Int) (n : Nat) : Bool := (List.range n).all fun i => lk U o i == some 0
def celB (U : List Up) (l : List (Int × Int × Int)) : Bool := l.all fun q => lk U q.1 q.2.1 == some q.2.2
theorem celB.at {U : List Up} {h : Hp} {l : List (Int × Int × Int)} (e : celB U l = true) {o i z : Int} (m : (o, i, z) ∈ l) : ap U h o i = z := ap_some (by have := List.all_eq_true.mp e _ m; simpa using this)
theorem zerB.at {U : List Up} {h : Hp} {o : Int} {n : Nat} (e : zerB U o n = true) (i : Int) (i0 : 0 ≤ i) (i1 : i < n) : ap U h o i = 0 := by
  have := List.all_eq_true.mp e i.toNat (List.mem_range.mpr (by omega))
  have c : lk U o ((i.toNat : Nat) : Int) = some 0 := by simpa using this
  rw [show ((i.toNat : Nat) : Int) = i by omega] at c
  exact ap_some c
abbrev celL : List (Int × Int × Int) := [(1, 1, 0), (68, 1, 0), (0, 18, 0), (68, 7, 0), (0, 19, -1), (68, 8, -1), (0, 17, 1), (68, 63, 1), (0, 15, 0), (68, 67, 0), (0, 16, 0), (68, 97, 0), (0, 4, 6), (0, 5, 23), (6, 12, 0), (68, 36, 0), (7, 1, 0), (93, 3, 0), (9, 1, 0), (93, 4, 0), (11, 1, 0), (93, 5, 0), (6, 13, 10), (97, 3, 10), (6, 14, 20), (97, 4, 20), (6, 15, 0), (97, 5, 0), (19, 1, 0), (21, 1, 0), (40, 4, 0), (50, 1, 0), (68, 62, 0), (50, 2, 0), (68, 61, 0)]
theorem cel_law : celB U_law celL = true := by decide +kernel
theorem z13_law : zerB U_law 13 8 = true := by decide +kernel
theorem z17_law : zerB U_law 17 10 = true := by decide +kernel
theorem rz_law : ([59, 70, 95, 104, 41, 42, 43, 44, 54, 55, 56].all fun o => rz U_law o) = true := by decide +kernel
theorem inv_fresh {h : Hp} : Inv 0 (ap U_law h) := by
  obtain ⟨A, eA⟩ : ∃ A, A = ap U_law h := ⟨_, rfl⟩
  have cv : ∀ {o i z : Int}, (o, i, z) ∈ celL → A o i = z := fun m => by rw [eA]; exact celB.at cel_law m
  have rr : ∀ {o : Int}, o ∈ [59, 70, 95, 104, 41, 42, 43, 44, 54, 55, 56] → ∀ i : Int, A o i = 0 := fun m i => by rw [eA]; exact ap_row i (List.all_eq_true.mp rz_law _ m)
  have z13 : ∀ i : Int, 0 ≤ i → i < 8 → A 13 i = 0 := fun i i0 i1 => by rw [eA]; exact zerB.at z13_law i i0 i1
  have z17 : ∀ i : Int, 0 ≤ i → i < 10 → A 17 i = 0 := fun i i0 i1 => by rw [eA]; exact zerB.at z17_law i i0 i1
  rw [← eA]
  clear eA
  have e11 : A 1 1 = 0 := cv (by decide)
  have e681 : A 68 1 = 0 := cv (by decide)
  have e018 : A 0 18 = 0 := cv (by decide)
  have e687 : A 68 7 = 0 := cv (by decide)
  have e019 : A 0 19 = -1 := cv (by decide)
  have e688 : A 68 8 = -1 := cv (by decide)
  have e017 : A 0 17 = 1 := cv (by decide)
  have e6863 : A 68 63 = 1 := cv (by decide)
  have e015 : A 0 15 = 0 := cv (by decide)
  have e6867 : A 68 67 = 0 := cv (by decide)
  have e016 : A 0 16 = 0 := cv (by decide)
  have e6897 : A 68 97 = 0 := cv (by decide)
  have e04 : A 0 4 = 6 := cv (by decide)
  have e05 : A 0 5 = 23 := cv (by decide)
  have e612 : A 6 12 = 0 := cv (by decide)
  have e6836 : A 68 36 = 0 := cv (by decide)
  have e71 : A 7 1 = 0 := cv (by decide)
  have e933 : A 93 3 = 0 := cv (by decide)
  have e91 : A 9 1 = 0 := cv (by decide)
  have e934 : A 93 4 = 0 := cv (by decide)
  have e111 : A 11 1 = 0 := cv (by decide)
  have e935 : A 93 5 = 0 := cv (by decide)
  have e613 : A 6 13 = 10 := cv (by decide)
  have e973 : A 97 3 = 10 := cv (by decide)
  have e614 : A 6 14 = 20 := cv (by decide)
  have e974 : A 97 4 = 20 := cv (by decide)
  have e615 : A 6 15 = 0 := cv (by decide)
  have e975 : A 97 5 = 0 := cv (by decide)
  have e191 : A 19 1 = 0 := cv (by decide)
  have e211 : A 21 1 = 0 := cv (by decide)
  have e404 : A 40 4 = 0 := cv (by decide)
  have e501 : A 50 1 = 0 := cv (by decide)
  have e6862 : A 68 62 = 0 := cv (by decide)
  have e502 : A 50 2 = 0 := cv (by decide)
  have e6861 : A 68 61 = 0 := cv (by decide)
  have z59 := rr (o := 59) (by decide)
  have z70 := rr (o := 70) (by decide)
  have z95 := rr (o := 95) (by decide)
  have z104 := rr (o := 104) (by decide)
  have z41 := rr (o := 41) (by decide)
  have z42 := rr (o := 42) (by decide)
  have z43 := rr (o := 43) (by decide)
  have z44 := rr (o := 44) (by decide)
  have z54 := rr (o := 54) (by decide)
  have z55 := rr (o := 55) (by decide)
  have z56 := rr (o := 56) (by decide)
  refine ⟨⟨I1.nil e11 e681, fun k k0 k1 => ?_, ?_, ?_, ?_, ?_⟩, ⟨?_, ?_, Or.inl e935, ?_⟩, ⟨?_, ?_, ?_, ?_⟩⟩
  · rw [z59, z70]; exact ⟨rfl, Int.le_refl _, Int.le_refl _⟩
  · unfold I3; rw [e018, e687, e019, e688]; exact ⟨rfl, Int.le_refl _, by decide, rfl, Int.le_refl _, by decide⟩
  · unfold I4; rw [e017, e6863]; exact ⟨rfl, by decide, by decide⟩
  · unfold I5; rw [e015, e6867]; exact ⟨rfl, Or.inl rfl, fun x => absurd x (by decide)⟩
  · unfold I6; rw [e016, e6897]; exact ⟨rfl, Int.le_refl _, by decide, fun k k0 k1 => absurd k1 (by omega)⟩
  · rw [e04]
    refine ⟨Or.inl rfl, ⟨by rw [e612, e6836], Or.inl e6836, by rw [e6836]; decide⟩, ⟨?_, by rw [e933]; decide, by rw [e933]; decide⟩, ⟨?_, by rw [e934]; decide, by rw [e934]; decide⟩, ⟨?_, by rw [e935]; decide, by rw [e935]; decide⟩, fun i i0 i1 => ?_, fun b b0 b1 => absurd b1 (by rw [e935]; omega), fun b b0 b1 => ?_, ⟨by rw [e613, e973], by rw [e973]; decide, by rw [e973]; decide⟩, ⟨by rw [e614, e974], by rw [e974]; decide, by rw [e974]; decide⟩, ⟨by rw [e615, e975], by rw [e975]; decide, by rw [e975]; decide⟩⟩
    · rw [e933]; exact e71
    · rw [e934]; exact e91
    · rw [e935]; exact e111
    · rw [z95]; exact ⟨z13 i i0 i1, Int.le_refl _, by decide⟩
    · rw [e935] at b0; exact z17 b b0 b1
  · rw [e04, e05]; decide
  · intro k i k0 k1 i0 i1
    have : k = 0 ∨ k = 1 ∨ k = 2 := by omega
    rcases this with rfl | rfl | rfl
    · rw [show (3 : Int) + 0 = 3 by decide, e933] at i1; omega
    · rw [show (3 : Int) + 1 = 4 by decide, e934] at i1; omega
    · rw [show (3 : Int) + 2 = 5 by decide, e935] at i1; omega
  · refine ⟨?_, fun r r0 r1 => ?_, fun b b0 b1 => ?_, fun r b r0 r1 b0 b1 => ?_, ?_⟩
    · rw [z104]; decide
    · rw [z104]; exact ⟨Int.le_refl _, by decide, fun _ => rfl⟩
    · rw [z104, z104]; exact ⟨Int.le_refl _, by decide, Int.le_refl _, fun _ => ⟨rfl, rfl⟩⟩
    · rw [z104]; exact ⟨Int.le_refl _, fun _ => rfl⟩
    · rw [sm_zero (n := 8) (fun r r0 r1 => sm_zero (n := 10) (fun b b0 b1 => z104 _)), sm_zero (n := 10) (f := fun b => A 104 (9 + b)) (fun b b0 b1 => z104 _), sm_zero (n := 10) (f := fun b => A 104 (19 + b)) (fun b b0 b1 => z104 _)]
      unfold tAll
      rw [sm_zero (n := 10) (fun b b0 b1 => if_neg (by rw [e935]; omega))]
      decide
  · refine ⟨by rw [e404, z104], fun r r0 r1 => ?_, fun b b0 b1 => ⟨?_, ?_⟩, fun r b r0 r1 b0 b1 => ?_⟩
    · rw [z104]; exact z41 r
    · rw [z104]; exact z43 b
    · rw [z104]; exact z44 b
    · rw [z104]; exact z42 _
  · unfold PA
    rw [e501, e502, e6862, e6861]
    exact ⟨rfl, Int.le_refl _, by decide, rfl, Int.le_refl _, by decide, fun i i0 i1 => absurd i1 (by omega)⟩
  · intro j j0
    rw [z54, z55, z56]
    exact ⟨fun _ => ⟨by decide, by decide⟩, fun _ => ⟨by decide, by decide⟩, fun _ => ⟨by decide, by decide⟩⟩
