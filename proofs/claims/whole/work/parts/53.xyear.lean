/-! the class's year -/
section L2Y
variable {w : Wd} {h h0 : Hp} {K : Int → Hp → Prop} {r s lv : Int} {st g : Int → Int}
/-- the state while the flood is laid: H, S, P: what is laid -/
def LW (h0 : Hp) (st : Int → Int) (lv : Int) (g : Int → Int) (h : Hp) (s : Int) (H S : Int → Prop) (P : Int → Int → Prop) : Prop :=
  (∀ b : Int, 0 ≤ b → b < 10 → (H b → h (s + 3) b = hdP h0 st lv g b) ∧ (¬ H b → h (s + 3) b = g (9 + b)) ∧ (S b → h (s + 4) b = s1P h0 st lv g b) ∧ (¬ S b → h (s + 4) b = g (19 + b))) ∧
  (∀ x b : Int, 0 ≤ x → x < 8 → 0 ≤ b → b < 10 → (P x b → h (s + 2) (x * 10 + b) = lyP h0 st lv g x b) ∧ (¬ P x b → h (s + 2) (x * 10 + b) = g (29 + 10 * x + b)))
/-- only the state's rows change -/
def E3 (h h' : Hp) (s : Int) : Prop := ∀ o : Int, o ≠ s + 2 → o ≠ s + 3 → o ≠ s + 4 → h' o = h o
theorem E3.up {h1 h2 : Hp} {o i v : Int} (E : E3 h h1 s) (e : h2 = hu h1 o i v) (ho : o = s + 2 ∨ o = s + 3 ∨ o = s + 4) : E3 h h2 s := fun o' n1 n2 n3 => (hu_row e (by omega)).trans (E o' n1 n2 n3)
theorem x_lay (C : CX h0 r lv st g) (hs : s = 40 ∨ s = 45) (A : AX h0 h r s lv st g) (V : FV h0 st lv g h (nrN h0) 0) (k : ∀ h1, E3 h h1 s → LW h0 st lv g h1 s (fun _ => True) (fun _ => True) (fun _ _ => True) → K 0 h1) : C_X0_lay w h K := by
  have hr := C.rr.1
  have hn := C.1.nb
  have hnr := C.1.nr
  have ob7 := C.1.ob
  have ob9 := ob9 hs
  have X := A.2.2.2.2.2.1
  have F0 : ∀ h', E3 h h' s → h' 61 5 = r ∧ h' 61 6 = s ∧ h' (r + 5) 1 = nbN h0 ∧ h' r 12 = nrN h0 ∧ h' 63 = h 63 ∧ h' 64 = h 64 ∧ h' 65 = h 65 := fun h' E => by
    rw [E 61 (by omega) (by omega) (by omega), E (r + 5) (by omega) (by omega) (by omega), E r (by omega) (by omega) (by omega), E 63 (by omega) (by omega) (by omega), E 64 (by omega) (by omega) (by omega), E 65 (by omega) (by omega) (by omega)]
    exact ⟨A.2.1, A.2.2.1, by rw [A.row C (by omega) (by omega)]; exact hn.2.2, by rw [A.row C (by omega) (by omega)]; exact hnr.2.2.1, rfl, rfl, rfl⟩
  refine c_X0_lay ?_
  suffices ∀ j m : Nat, m + j = nbN h0 → ∀ h', E3 h h' s → LW h0 st lv g h' s (fun b => b < m) (fun b => b < m) (fun _ b => b < m) → L_X0_lay_2 w m h' K from this (nbN h0) 0 (by omega) h (fun _ _ _ _ => rfl) ⟨fun b b0 b1 => ⟨fun q => by omega, fun _ => (X.2.2.1 b b0 b1).1, fun q => by omega, fun _ => (X.2.2.1 b b0 b1).2⟩, fun x b x0 x1 b0 b1 => ⟨fun q => by omega, fun _ => X.2.2.2 x b x0 x1 b0 b1⟩⟩
  intro j
  induction j with
  | zero =>
    intro m e h' E W
    obtain rfl : m = nbN h0 := e
    obtain ⟨f1, f2, f3, f4, f5, f6, f7⟩ := F0 h' E
    have W' : LW h0 st lv g h' s (fun _ => True) (fun _ => True) (fun _ _ => True) := by
      refine ⟨fun b b0 b1 => ⟨fun _ => ?_, fun q => absurd trivial q, fun _ => ?_, fun q => absurd trivial q⟩, fun x b x0 x1 b0 b1 => ⟨fun _ => ?_, fun q => absurd trivial q⟩⟩
      · by_cases q : b < nbN h0
        · exact (W.1 b b0 b1).1 q
        · rw [(W.1 b b0 b1).2.1 q]; unfold hdP; rw [if_neg q]; omega
      · by_cases q : b < nbN h0
        · exact (W.1 b b0 b1).2.2.1 q
        · rw [(W.1 b b0 b1).2.2.2 q]; unfold s1P; rw [if_neg q]; omega
      · by_cases q : b < nbN h0
        · exact (W.2 x b x0 x1 b0 b1).1 q
        · rw [(W.2 x b x0 x1 b0 b1).2 q]; unfold lyP; rw [if_neg (by omega)]; omega
    refine l_X0_lay_2 ?_
    rw [f1, f3]
    exact ⟨ob7, ⟨by omega, by omega⟩, ⟨by omega, by omega⟩, fun _ => k h' E W', fun c => absurd (Int.le_refl _) c⟩
  | succ j ih =>
    intro m e h' E W
    obtain ⟨f1, f2, f3, f4, f5, f6, f7⟩ := F0 h' E
    have pb : 0 ≤ plP h0 m ∧ plP h0 m < h0 68 36 := (C.1.bk (b := m) (by omega) (by omega)).2.2.1.2
    have v63 := V.2 m (by omega) (by omega) (Or.inl (by omega))
    have w3 := (W.1 m (by omega) (by omega)).2.1 (by omega)
    refine l_X0_lay_2 ?_
    rw [f1, f3, f2, f5, v63, w3]
    refine ⟨ob7, ⟨by omega, by omega⟩, ⟨by omega, by omega⟩, fun c => absurd c (by omega), fun _ => ⟨ob9, ⟨by omega, by omega⟩, ⟨by omega, by omega⟩, ⟨by omega, by omega⟩, fun h8 e8 => ?_⟩⟩
    have eh : g (9 + m) - cuP h0 st lv (g 0) m (g (9 + m)) = hdP h0 st lv g m := by unfold hdP; rw [if_pos (by omega)]
    rw [eh] at e8
    suffices ∀ i q : Nat, q + i = nrN h0 → ∀ h', E3 h h' s → LW h0 st lv g h' s (fun b => b < m + 1) (fun b => b < m) (fun x b => b < m ∨ (b = m ∧ x < q)) → L_X0_lay_36 w m q h' K by
      refine this (nrN h0) 0 (by omega) h8 (E.up e8 (by omega)) ⟨fun b b0 b1 => ?_, fun x b x0 x1 b0 b1 => ?_⟩
      · rw [hu_row e8 (show s + 4 ≠ s + 3 by omega), e8, hu_if]
        refine ⟨fun q => ?_, fun q => ?_, (W.1 b b0 b1).2.2.1, (W.1 b b0 b1).2.2.2⟩
        · by_cases c : b = m
          · rw [if_pos c, c]
          · rw [if_neg c]; exact (W.1 b b0 b1).1 (by omega)
        · rw [if_neg (by omega)]; exact (W.1 b b0 b1).2.1 (by omega)
      · rw [hu_row e8 (show s + 2 ≠ s + 3 by omega)]
        exact ⟨fun q => (W.2 x b x0 x1 b0 b1).1 (by omega), fun q => (W.2 x b x0 x1 b0 b1).2 (by omega)⟩
    intro i
    induction i with
    | zero =>
      intro q eq h' E W
      obtain rfl : q = nrN h0 := eq
      obtain ⟨f1, f2, f3, f4, f5, f6, f7⟩ := F0 h' E
      have v65 := (V.1 (nrN h0 - 1) m (by omega) (by omega) (Or.inl (by omega))).2
      rw [show ((nrN h0 - 1 : Nat) : Int) = (nrN h0 : Int) - 1 by omega, show nrN h0 - 1 + 1 = nrN h0 by omega] at v65
      have w4 := (W.1 m (by omega) (by omega)).2.2.2 (by omega)
      refine l_X0_lay_36 ?_
      rw [f1, f4, f2, f7, v65, w4]
      refine ⟨ob7, ⟨by omega, by omega⟩, ⟨by omega, by omega⟩, fun _ => ⟨ob7, ⟨by omega, by omega⟩, fun c => absurd c (by omega), fun _ => ⟨ob9, ⟨by omega, by omega⟩, ob7, ⟨by omega, by omega⟩, ⟨by omega, by omega⟩, fun h21 e21 => ?_⟩⟩, fun c => absurd (Int.le_refl _) c⟩
      have es : g (19 + m) + caP h0 st lv g m (nrN h0) = s1P h0 st lv g m := by unfold s1P; rw [if_pos (by omega)]
      rw [es] at e21
      refine ih (m + 1) (by omega) h21 (E.up e21 (by omega)) ⟨fun b b0 b1 => ?_, fun x b x0 x1 b0 b1 => ?_⟩
      · rw [hu_row e21 (show s + 3 ≠ s + 4 by omega), e21, hu_if]
        refine ⟨fun q => (W.1 b b0 b1).1 (by omega), fun q => (W.1 b b0 b1).2.1 (by omega), fun q => ?_, fun q => ?_⟩
        · by_cases c : b = m
          · rw [if_pos c, c]
          · rw [if_neg c]; exact (W.1 b b0 b1).2.2.1 (by omega)
        · rw [if_neg (by omega)]; exact (W.1 b b0 b1).2.2.2 (by omega)
      · rw [hu_row e21 (show s + 2 ≠ s + 4 by omega)]
        refine ⟨fun q => ?_, fun q => (W.2 x b x0 x1 b0 b1).2 (by omega)⟩
        by_cases c : b < m ∨ (b = m ∧ x < nrN h0)
        · exact (W.2 x b x0 x1 b0 b1).1 c
        · rw [(W.2 x b x0 x1 b0 b1).2 c]
          unfold lyP
          rw [if_neg (by omega)]; omega
    | succ i ihi =>
      intro q eq h' E W
      obtain ⟨f1, f2, f3, f4, f5, f6, f7⟩ := F0 h' E
      have v64 := (V.1 q m (by omega) (by omega) (Or.inl (by omega))).1
      have w2 := (W.2 q m (by omega) (by omega) (by omega) (by omega)).2 (by omega)
      refine l_X0_lay_36 ?_
      rw [f1, f4, f2, f6, v64, w2]
      refine ⟨ob7, ⟨by omega, by omega⟩, ⟨by omega, by omega⟩, fun c => absurd c (by omega), fun _ => ⟨ob9, ⟨by omega, by omega⟩, ⟨by omega, by omega⟩, ⟨by omega, by omega⟩, fun h28 e28 => ?_⟩⟩
      have el : g (29 + 10 * (q : Int) + m) + sdP h0 st lv g m q = lyP h0 st lv g q m := by unfold lyP; rw [if_pos (by omega)]; rfl
      rw [el] at e28
      refine ihi (q + 1) (by omega) h28 (E.up e28 (by omega)) ⟨fun b b0 b1 => ?_, fun x b x0 x1 b0 b1 => ?_⟩
      · rw [hu_row e28 (show s + 3 ≠ s + 2 by omega), hu_row e28 (show s + 4 ≠ s + 2 by omega)]
        exact W.1 b b0 b1
      · rw [e28, hu_if]
        by_cases c : x * 10 + b = (q : Int) * 10 + m
        · have ex : x = q := by omega
          have eb : b = m := by omega
          subst ex; subst eb
          rw [if_pos rfl]
          exact ⟨fun _ => rfl, fun n => by omega⟩
        · rw [if_neg c]
          exact ⟨fun n => (W.2 x b x0 x1 b0 b1).1 (by omega), fun n => (W.2 x b x0 x1 b0 b1).2 (by omega)⟩
theorem x_payInterest (C : CX h0 r lv st g) (hs : s = 40 ∨ s = 45) (W : LW h0 st lv g h s (fun _ => True) (fun _ => True) (fun _ _ => True)) (k : ∀ h1, E3 h h1 s → (∀ b : Int, 0 ≤ b → b < 10 → h1 (s + 3) b = hdP h0 st lv g b ∧ h1 (s + 4) b = s2P h0 st lv g 80 b) → (∀ x b : Int, 0 ≤ x → x < 8 → 0 ≤ b → b < 10 → h1 (s + 2) (x * 10 + b) = lyP h0 st lv g x b - pdP h0 st lv g x b) → K 0 h1) : C_X9_payInterest w s (h0 97 5) h K := by
  refine c_X9_payInterest (ob9 hs) ?_
  suffices ∀ j m : Nat, m + j = 80 → ∀ h', E3 h h' s → h' (s + 3) = h (s + 3) → (∀ b : Int, 0 ≤ b → b < 10 → h' (s + 4) b = s2P h0 st lv g m b) → (∀ i : Int, 0 ≤ i → i < 80 → h' (s + 2) i = if i < m then lyP h0 st lv g (i / 10) (i % 10) - pdP h0 st lv g (i / 10) (i % 10) else lyP h0 st lv g (i / 10) (i % 10)) → L_X9_payInterest_2 w s (h0 97 5) m h' K by
    refine this 80 0 (by omega) h (fun _ _ _ _ => rfl) rfl (fun b b0 b1 => ?_) (fun i i0 i1 => ?_)
    · rw [(W.1 b b0 b1).2.2.1 trivial]; unfold s2P; show _ = _ + (0 : Int); omega
    · rw [if_neg (by omega)]
      have := (W.2 (i / 10) (i % 10) (by omega) (by omega) (by omega) (by omega)).1 trivial
      rwa [show i / 10 * 10 + i % 10 = i by omega] at this
  intro j
  induction j with
  | zero =>
    intro m e h' E e3 V4 V2
    obtain rfl : m = 80 := e
    refine l_X9_payInterest_2 (ob9 hs) ⟨⟨by omega, by omega⟩, fun _ => k h' E (fun b b0 b1 => ⟨by rw [e3]; exact (W.1 b b0 b1).1 trivial, V4 b b0 b1⟩) (fun x b x0 x1 b0 b1 => ?_), fun c => absurd (by omega) c⟩
    rw [V2 _ (by omega) (by omega), if_pos (by omega), show (x * 10 + b) / 10 = x by omega, show (x * 10 + b) % 10 = b by omega]
  | succ j ih =>
    intro m e h' E e3 V4 V2
    have v := V2 m (by omega) (by omega)
    rw [if_neg (by omega)] at v
    have l := ly_b C (x := (m : Int) / 10) (b := (m : Int) % 10) ⟨by omega, by omega⟩ ⟨by omega, by omega⟩
    refine l_X9_payInterest_2 (ob9 hs) ?_
    rw [v]
    refine ⟨⟨by omega, by omega⟩, fun c => absurd c (by omega), fun _ => ⟨⟨by omega, by omega⟩, ⟨l.2.2.2.2.1, l.2.2.2.2.2⟩, ⟨by omega, by omega⟩, ⟨by omega, by omega⟩, fun h6 e6 => ⟨⟨by omega, by omega⟩, ⟨by omega, by omega⟩, ⟨by omega, by omega⟩, fun h11 e11 => ?_⟩⟩⟩
    refine ih (m + 1) (by omega) h11 ((E.up e6 (by omega)).up e11 (by omega)) ?_ (fun b b0 b1 => ?_) (fun i i0 i1 => ?_)
    · rw [hu_row e11 (by omega), hu_row e6 (by omega)]; exact e3
    · rw [e11, hu_if, hu_row e6 (by omega), V4 b b0 b1]
      have es : s2P h0 st lv g (m + 1) b = s2P h0 st lv g m b + (if (m : Int) % 10 = b then pdK h0 st lv g m else 0) := by
        unfold s2P
        exact (Int.add_assoc _ _ _).symm
      rw [es]
      by_cases c : b = (m : Int) % 10
      · rw [if_pos c, if_pos c.symm, V4 _ (by omega) (by omega), c]; rfl
      · rw [if_neg c, if_neg (fun q => c q.symm)]; omega
    · rw [hu_row e11 (by omega), e6, hu_if]
      by_cases c : i = m
      · rw [if_pos c, if_pos (by omega), c]; rfl
      · rw [if_neg c, V2 i i0 i1]
        by_cases c2 : i < m
        · rw [if_pos c2, if_pos (by omega)]
        · rw [if_neg c2, if_neg (by omega)]
abbrev yeL : List (Int × Int) := [(52, 4), (61, 5), (61, 6), (61, 7)]
/-- a year of the class's state s: from g to the next -/
theorem x_passYear (hs : s = 40 ∨ s = 45) (C : CX h0 r lv (sN g) g) (S : Sl h0 h) (X : SX h s g) (B : BD h) (k : ∀ h1, Fr h h1 ((s, 4) :: yeL) ((s + 2) :: (s + 3) :: (s + 4) :: imR) → Sl h0 h1 → SX h1 s (yrP h0 (sN g) lv g) → BD h1 → K (saP h0 (sN g) lv g) h1) : C_X11_passYear w s lv h K := by
  have hr := C.rr.1
  have hnr := C.1.nr
  have ob7 := C.1.ob
  have e4 : h 0 4 = r := by rw [S.1]; exact C.2.1.symm
  refine c_X11_passYear (ob9 hs) ?_
  rw [e4]
  refine ⟨ob7, x_aim C.1 C.2.1 hs S X B (fun h3 F3 A3 => ?_)⟩
  have e34 : h3 0 4 = r := by rw [A3.1.1]; exact C.2.1.symm
  have e12 : h3 r 12 = nrN h0 := by rw [A3.row C (o := r) (by omega) (by omega)]; exact hnr.2.2.1
  rw [e34, e12]
  refine ⟨ob7, x_run C hs A3 (f := 0) (t := nrN h0) (Nat.le_refl _) (by omega) ⟨fun x b b0 b1 q => by omega, fun b b0 b1 q => ?_⟩ (fun h7 F7 A7 V7 => x_lay C hs A7 V7 (fun h10 E10 W10 => ?_))⟩
  · have pb : 0 ≤ plP h0 b ∧ plP h0 b < h0 68 36 := (C.1.bk b0 b1).2.2.1.2
    omega
  have F10 : Fr h7 h10 [] [s + 2, s + 3, s + 4] := fun o i q _ => by rw [E10 o (fun c => q (by rw [c]; simp)) (fun c => q (by rw [c]; simp)) (fun c => q (by rw [c]; simp))]
  have a4 : h10 0 4 = r := by rw [E10 0 (by omega) (by omega) (by omega), A7.1.1]; exact C.2.1.symm
  have a15 : h10 r 15 = h0 97 5 := by rw [E10 r (by omega) (by omega) (by omega), A7.row C (o := r) (by omega) (by omega)]; exact C.1.se.2.2.1
  rw [a4, a15]
  refine ⟨ob7, x_payInterest C hs W10 (fun h14 E14 V34 V2 h16 e16 => ?_)⟩
  have F14 : Fr h10 h14 [] [s + 2, s + 3, s + 4] := fun o i q _ => by rw [E14 o (fun c => q (by rw [c]; simp)) (fun c => q (by rw [c]; simp)) (fun c => q (by rw [c]; simp))]
  have F16 : Fr h14 h16 [(s, 4)] [] := by rw [e16]; exact Fr.cel
  have FF : Fr h h16 ((s, 4) :: yeL) ((s + 2) :: (s + 3) :: (s + 4) :: imR) := by
    have := F3.trans (F7.trans (F10.trans (F14.trans F16)))
    rcases hs with rfl | rfl
    · exact this.into (by decide)
    · exact this.into (by decide)
  have G7 : Fr h7 h16 [(s, 4)] [s + 2, s + 3, s + 4] := by
    have := F10.trans (F14.trans F16)
    rcases hs with rfl | rfl
    · exact this.into (by decide)
    · exact this.into (by decide)
  have S16 : Sl h0 h16 := by
    refine A7.1.tr ?_
    have e : h7 0 4 = 6 ∨ h7 0 4 = 23 := by rw [A7.1.1]; exact C.rr.2
    rcases hs with rfl | rfl
    · exact Sl.of e G7 (by decide)
    · exact Sl.of e G7 (by decide)
  have B16 : BD h16 := by
    rcases hs with rfl | rfl
    · exact A7.2.2.2.2.2.2.fr G7 (by decide)
    · exact A7.2.2.2.2.2.2.fr G7 (by decide)
  have V16 : FV h0 (sN g) lv g h16 (nrN h0) 0 := by
    rcases hs with rfl | rfl
    · exact V7.fr G7 (by decide)
    · exact V7.fr G7 (by decide)
  have q61 : h16 61 5 = r := by rw [G7 61 5 (by simp; omega) (by simp)]; exact A7.2.1
  have X16 : SX h16 s (yrP h0 (sN g) lv g) := by
    have r1 : h16 (s + 1) = h7 (s + 1) := by funext i; exact G7 _ i (by simp) (by simp; intro q; omega)
    have r2 : h16 (s + 2) = h14 (s + 2) := by funext i; exact F16 _ i (by simp) (by simp; intro q; omega)
    have r3 : h16 (s + 3) = h14 (s + 3) := by funext i; exact F16 _ i (by simp) (by simp; intro q; omega)
    have r4 : h16 (s + 4) = h14 (s + 4) := by funext i; exact F16 _ i (by simp) (by simp; intro q; omega)
    have X7 := A7.2.2.2.2.2.1
    refine ⟨?_, fun x x0 x1 => ?_, fun b b0 b1 => ?_, fun x b x0 x1 b0 b1 => ?_⟩
    · rw [e16, hu_if, if_pos rfl, E14 s (by omega) (by omega) (by omega), E10 s (by omega) (by omega) (by omega), X7.1]; rfl
    · rw [r1, X7.2.1 x x0 x1, yr_st ⟨x0, x1⟩]
    · rw [r3, r4, (V34 b b0 b1).1, (V34 b b0 b1).2, yr_h ⟨b0, b1⟩, yr_s ⟨b0, b1⟩]; exact ⟨rfl, rfl⟩
    · rw [r2, V2 x b x0 x1 b0 b1, yr_l ⟨x0, x1⟩ ⟨b0, b1⟩]
  exact x_settledGrains C ⟨S16, q61⟩ V16 (k h16 FF S16 X16 B16)
end L2Y
