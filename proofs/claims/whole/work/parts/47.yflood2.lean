/-! the reference's flood goes through reaches -/
def YW (h0 : Hp) (st : Int → Int) (lv : Int) (g : Int → Int) (h : Hp) (D : Int → Prop) (cr : Int → Int) (P : Nat → Int → Prop) : Prop :=
  (∀ b : Int, 0 ≤ b → b < 10 → (b < nbN h0 → D b → h 106 b = g (9 + b) - cuP h0 st lv (g 0) b (g (9 + b)) ∧ h 107 b = cuP h0 st lv (g 0) b (g (9 + b))) ∧ (¬ (b < nbN h0 ∧ D b) → h 106 b = g (9 + b) ∧ h 107 b = 0) ∧ (b < nbN h0 → h 108 b = cr b)) ∧
  (∀ (x : Nat) (b : Int), x < 8 → 0 ≤ b → b < 10 → (b < nbN h0 → P x b → h 110 (10 * (x : Int) + b) = sdP h0 st lv g b x ∧ h 109 (10 * (x : Int) + b) = caP h0 st lv g b (x + 1)) ∧ (¬ (b < nbN h0 ∧ P x b) → h 110 (10 * (x : Int) + b) = 0 ∧ h 109 (10 * (x : Int) + b) = 0)) ∧
  (∀ b : Int, 0 ≤ b → b < 10 → h 111 b = 0)
theorem YW.to {h0 : Hp} {st : Int → Int} {lv : Int} {g : Int → Int} {h : Hp} {D D' : Int → Prop} {cr cr' : Int → Int} {P P' : Nat → Int → Prop} (Y : YW h0 st lv g h D cr P) (hD : ∀ b : Int, 0 ≤ b → b < nbN h0 → (D b ↔ D' b)) (hc : ∀ b : Int, 0 ≤ b → b < nbN h0 → cr b = cr' b) (hP : ∀ (x : Nat) (b : Int), x < 8 → 0 ≤ b → b < nbN h0 → (P x b ↔ P' x b)) : YW h0 st lv g h D' cr' P' := by
  refine ⟨fun b b0 b1 => ⟨fun q q2 => (Y.1 b b0 b1).1 q ((hD b b0 q).mpr q2), fun q => (Y.1 b b0 b1).2.1 (fun q2 => q ⟨q2.1, (hD b b0 q2.1).mp q2.2⟩), fun q => by rw [← hc b b0 q]; exact (Y.1 b b0 b1).2.2 q⟩, fun x b x0 b0 b1 => ⟨fun q q2 => (Y.2.1 x b x0 b0 b1).1 q ((hP x b x0 b0 q).mpr q2), fun q => (Y.2.1 x b x0 b0 b1).2 (fun q2 => q ⟨q2.1, (hP x b x0 b0 q2.1).mp q2.2⟩)⟩, Y.2.2⟩
section L2S
variable {w : Wd} {h h0 : Hp} {K : Int → Hp → Prop} {r lv : Int} {st g : Int → Int}
theorem ca_0 (e : lv = 0) {b : Int} (n : Nat) : caP h0 st lv g b n = 0 ∧ sdP h0 st lv g b n = 0 ∧ cuP h0 st lv (g 0) b (g (9 + b)) = 0 := by
  have c : ∀ yr b hd : Int, cuP h0 st lv yr b hd = 0 := fun yr b hd => by unfold cuP; rw [if_pos (Or.inl e)]
  have s : ∀ yr x b hd : Int, seP h0 st lv yr x b hd = 0 := fun yr x b hd => by unfold seP; rw [if_pos (Or.inl e)]
  have a1 : ∀ n : Nat, cA1 h0 st lv g b n = 0 := fun n => by
    unfold cA1; split
    · exact c _ _ _
    · rfl
  refine ⟨?_, s _ _ _ _, c _ _ _⟩
  induction n with
  | zero => rfl
  | succ n ih =>
    show (caP h0 st lv g b n + cA1 h0 st lv g b n) - seP h0 st lv (g 0) n b (caP h0 st lv g b n + cA1 h0 st lv g b n) = 0
    rw [s, ih, a1]; rfl
/-- the end: what is carried then goes to the sea -/
theorem y_fl_sea (C : CX h0 r lv st g) (A : AY h0 h st g) {hs : Hp} (F : Fr hs h [(68, 50)] yfR) (Y : YW h0 st lv g h (fun b => 0 ≤ b) (fun b => caP h0 st lv g b (nrN h0)) (fun x _ => x < nrN h0)) (k : ∀ h1, Fr hs h1 [(68, 50)] yfR → AY h0 h1 st g → YV h0 st lv g h1 → K 0 h1) : L_X12_floods_189 w 0 h K := by
  have hnb := C.1.nb
  suffices ∀ j m : Nat, m + j = nbN h0 → ∀ h', Fr hs h' [(68, 50)] yfR → AY h0 h' st g → (∀ o : Int, o ≠ 111 → h' o = h o) → (∀ b : Int, 0 ≤ b → b < 10 → h' 111 b = if b < m then caP h0 st lv g b (nrN h0) else 0) → L_X12_floods_189 w m h' K from this (nbN h0) 0 (by omega) h F A (fun _ _ => rfl) (fun b b0 b1 => by rw [if_neg (by omega)]; exact Y.2.2 b b0 b1)
  intro j
  induction j with
  | zero =>
    intro m e h' F' A' E V
    obtain rfl : m = nbN h0 := e
    have s5 : h' 93 5 = nbN h0 := by rw [A'.1.2.2.2.2.1 5 (by omega)]; exact hnb.1
    refine l_X12_floods_189 ⟨⟨by omega, by omega⟩, ⟨by omega, by omega⟩, fun _ => k h' F' A' ⟨fun b b0 b1 => ⟨?_, ?_, V b b0 b1⟩, fun x b x0 b0 b1 => ⟨?_, fun q1 q2 => ?_⟩⟩, fun c => absurd (by omega) c⟩
    · rw [E 106 (by decide)]
      by_cases q : b < nbN h0
      · rw [if_pos q]; exact ((Y.1 b b0 b1).1 q b0).1
      · rw [if_neg q, ((Y.1 b b0 b1).2.1 (fun q2 => q q2.1)).1]; omega
    · rw [E 107 (by decide)]
      by_cases q : b < nbN h0
      · rw [if_pos q]; exact ((Y.1 b b0 b1).1 q b0).2
      · rw [if_neg q]; exact ((Y.1 b b0 b1).2.1 (fun q2 => q q2.1)).2
    · rw [E 110 (by decide)]
      by_cases q : x < nrN h0 ∧ b < nbN h0
      · rw [if_pos q]; exact ((Y.2.1 x b x0 b0 b1).1 q.2 q.1).1
      · rw [if_neg q]; exact ((Y.2.1 x b x0 b0 b1).2 (fun q2 => q ⟨q2.2, q2.1⟩)).1
    · rw [E 109 (by decide)]
      exact ((Y.2.1 x b x0 b0 b1).1 q2 q1).2
  | succ j ih =>
    intro m e h' F' A' E V
    have s5 : h' 93 5 = nbN h0 := by rw [A'.1.2.2.2.2.1 5 (by omega)]; exact hnb.1
    refine l_X12_floods_189 ⟨⟨by omega, by omega⟩, ⟨by omega, by omega⟩, fun c => absurd c (by omega), fun _ => ⟨⟨by omega, by omega⟩, ⟨by omega, by omega⟩, fun h56 e56 => ?_⟩⟩
    have F56 : Fr h' h56 [] [111] := by rw [e56]; exact Fr.row
    refine ih (m + 1) (by omega) h56 ((F'.trans F56).into rfl) (A'.fr C F56 (by decide) (by decide)) (fun o n => (hu_row e56 n).trans (E o n)) (fun b b0 b1 => ?_)
    rw [e56, hu_if, E 108 (by decide)]
    by_cases q : b = m
    · subst q
      rw [if_pos rfl, if_pos (by omega)]
      exact (Y.1 m b0 b1).2.2 (by omega)
    · rw [if_neg q, V b b0 b1]
      by_cases q2 : b < m
      · rw [if_pos q2, if_pos (by omega)]
      · rw [if_neg q2, if_neg (by omega)]
theorem y_fl_run (C : CX h0 r lv st g) (hl : lv ≠ 0) {hs : Hp} (k : ∀ h1, Fr hs h1 [(68, 50)] yfR → AY h0 h1 st g → YV h0 st lv g h1 → K 0 h1) : ∀ j n : Nat, n + j = nrN h0 → ∀ h, AY h0 h st g → Fr hs h [(68, 50)] yfR → YW h0 st lv g h (fun b => plP h0 b < n) (fun b => caP h0 st lv g b n) (fun x _ => x < n) → L_X12_floods_80 w lv n h K := by
  have hnb := C.1.nb
  have hnr := C.1.nr
  have gl := C.2.2.2.1
  intro j
  induction j with
  | zero =>
    intro n e h A F Y
    obtain rfl : n = nrN h0 := e
    have s36 : h 68 36 = nrN h0 := by rw [A.1.2.2.1]; exact hnr.1
    refine l_X12_floods_80 ⟨⟨by omega, by omega⟩, ⟨by omega, by omega⟩, fun _ => y_fl_sea C A F (Y.to (fun b b0 b1 => ?_) (fun b _ _ => rfl) (fun x b _ _ _ => Iff.rfl)) k, fun c => absurd (by omega) c⟩
    have pb : 0 ≤ plP h0 b ∧ plP h0 b < h0 68 36 := (C.1.bk b0 b1).2.2.1.2
    exact ⟨fun _ => b0, fun _ => by omega⟩
  | succ j ih =>
    intro n e h A F Y
    have s36 : h 68 36 = nrN h0 := by rw [A.1.2.2.1]; exact hnr.1
    refine l_X12_floods_80 ⟨⟨by omega, by omega⟩, ⟨by omega, by omega⟩, fun c => absurd c (by omega), fun _ => ⟨⟨by omega, by omega⟩, fun c => absurd c (by omega), fun _ => ?_⟩⟩
    -- what settles, bank by bank
    have SE : ∀ i m : Nat, m + i = nbN h0 → ∀ h, AY h0 h st g → Fr hs h [(68, 50)] yfR → YW h0 st lv g h (fun b => plP h0 b < (n + 1 : Nat)) (fun b => if b < m then caP h0 st lv g b (n + 1) else crP h0 st lv g b n) (fun x b => x < n ∨ (x = n ∧ b < m)) → L_X12_floods_117 w lv n m h K := by
      intro i
      induction i with
      | zero =>
        intro m em h A F Y
        obtain rfl : m = nbN h0 := em
        have s5 : h 93 5 = nbN h0 := by rw [A.1.2.2.2.2.1 5 (by omega)]; exact hnb.1
        refine l_X12_floods_117 ⟨⟨by omega, by omega⟩, ⟨by omega, by omega⟩, fun _ => ih (n + 1) (by omega) h A F (Y.to (fun b _ _ => Iff.rfl) (fun b _ q => if_pos q) (fun x b _ _ q => ?_)), fun c => absurd (by omega) c⟩
        omega
      | succ i ihi =>
        intro m em h A F Y
        have s5 : h 93 5 = nbN h0 := by rw [A.1.2.2.2.2.1 5 (by omega)]; exact hnb.1
        have cr := cr_b C (b := m) ⟨by omega, by omega⟩ n
        have h108 : h 108 m = crP h0 st lv g m n := by
          have := (Y.1 m (by omega) (by omega)).2.2 (by omega)
          dsimp only at this
          rw [this, if_neg (by omega)]
        refine l_X12_floods_117 ⟨⟨by omega, by omega⟩, ⟨by omega, by omega⟩, fun c => absurd c (by omega), fun _ => y_settlesOf C A ⟨by omega, by omega⟩ (by omega) hl h108 ⟨by omega, by omega⟩ (fun h38 F38 => ⟨⟨by omega, by omega⟩, ⟨by omega, by omega⟩, fun h42 e42 => ⟨⟨by omega, by omega⟩, fun h45 e45 => ⟨⟨by omega, by omega⟩, ⟨by omega, by omega⟩, fun h49 e49 => ?_⟩⟩⟩)⟩
        have F42 : Fr h38 h42 [] [108] := by rw [e42]; exact Fr.row
        have F45 : Fr h42 h45 [] [110] := by rw [e45]; exact Fr.row
        have F49 : Fr h45 h49 [] [109] := by rw [e49]; exact Fr.row
        have FF := F38.trans (F42.trans (F45.trans F49))
        have q := (F38.cell (C := []) (W := [106, 107, 108, 109, 110, 111]) (by decide)).2
        have r106 : h49 106 = h 106 := by rw [hu_row e49 (by decide), hu_row e45 (by decide), hu_row e42 (by decide)]; exact q 106 (by decide)
        have r107 : h49 107 = h 107 := by rw [hu_row e49 (by decide), hu_row e45 (by decide), hu_row e42 (by decide)]; exact q 107 (by decide)
        have r111 : h49 111 = h 111 := by rw [hu_row e49 (by decide), hu_row e45 (by decide), hu_row e42 (by decide)]; exact q 111 (by decide)
        have es : crP h0 st lv g m n - seP h0 st lv (g 0) n m (crP h0 st lv g m n) = caP h0 st lv g m (n + 1) := rfl
        have r108 : ∀ i : Int, h49 108 i = if i = m then caP h0 st lv g m (n + 1) else h 108 i := fun i => by rw [hu_row e49 (by decide), hu_row e45 (by decide), e42, hu_if, q 108 (by decide), h108, es]
        have r110 : ∀ i : Int, h49 110 i = if i = 10 * (n : Int) + m then sdP h0 st lv g m n else h 110 i := fun i => by rw [hu_row e49 (by decide), e45, hu_if, hu_row e42 (by decide), q 110 (by decide)]; rfl
        have r109 : ∀ i : Int, h49 109 i = if i = 10 * (n : Int) + m then caP h0 st lv g m (n + 1) else h 109 i := fun i => by rw [e49, hu_if, hu_row e45 (show (108 : Int) ≠ 110 by decide), hu_row e45 (show (109 : Int) ≠ 110 by decide), hu_row e42 (show (109 : Int) ≠ 108 by decide), q 109 (by decide), e42, hu_if, if_pos rfl, q 108 (by decide), h108, es]
        refine ihi (m + 1) (by omega) h49 (A.fr C FF (by decide) (by decide)) ((F.trans FF).into rfl) ⟨fun b b0 b1 => ?_, fun x b x0 b0 b1 => ?_, by rw [r111]; exact Y.2.2⟩
        · rw [r106, r107, r108]
          have Yb := Y.1 b b0 b1
          refine ⟨Yb.1, Yb.2.1, fun q2 => ?_⟩
          have Yc := Yb.2.2 q2
          dsimp only at Yc ⊢
          by_cases c : b = m
          · subst c; rw [if_pos rfl, if_pos (by omega)]
          · rw [if_neg c, Yc]
            by_cases c2 : b < m
            · rw [if_pos c2, if_pos (by omega)]
            · rw [if_neg c2, if_neg (by omega)]
        · rw [r109, r110]
          have Yx := Y.2.1 x b x0 b0 b1
          by_cases c : 10 * (x : Int) + b = 10 * (n : Int) + m
          · have ex : x = n := by omega
            have eb : b = m := by omega
            subst ex; subst eb
            rw [if_pos rfl, if_pos rfl]
            exact ⟨fun _ _ => ⟨rfl, rfl⟩, fun q2 => absurd ⟨by omega, Or.inr ⟨rfl, by omega⟩⟩ q2⟩
          · rw [if_neg c, if_neg c]
            refine ⟨fun q1 q2 => Yx.1 q1 ?_, fun q2 => Yx.2 (fun q3 => q2 ⟨q3.1, ?_⟩)⟩
            · rcases q2 with q2 | ⟨q2, q3⟩
              · exact Or.inl q2
              · subst q2; exact Or.inr ⟨rfl, by omega⟩
            · rcases q3.2 with q4 | ⟨q4, q5⟩
              · exact Or.inl q4
              · exact Or.inr ⟨q4, by omega⟩
    -- what is cut, bank by bank
    suffices ∀ i m : Nat, m + i = nbN h0 → ∀ h, AY h0 h st g → Fr hs h [(68, 50)] yfR → YW h0 st lv g h (fun b => plP h0 b < n ∨ (plP h0 b = n ∧ b < m)) (fun b => if b < m then crP h0 st lv g b n else caP h0 st lv g b n) (fun x _ => x < n) → L_X12_floods_94 w lv n m h K from this (nbN h0) 0 (by omega) h A F (Y.to (fun b b0 _ => ⟨fun q => Or.inl q, fun q => by omega⟩) (fun b b0 _ => by rw [if_neg (by omega)]) (fun x b _ _ _ => Iff.rfl))
    intro i
    induction i with
    | zero =>
      intro m em h A F Y
      obtain rfl : m = nbN h0 := em
      have s5 : h 93 5 = nbN h0 := by rw [A.1.2.2.2.2.1 5 (by omega)]; exact hnb.1
      refine l_X12_floods_94 ⟨⟨by omega, by omega⟩, ⟨by omega, by omega⟩, fun _ => SE (nbN h0) 0 (by omega) h A F (Y.to (fun b b0 b1 => ?_) (fun b b0 b1 => ?_) (fun x b _ _ q => ?_)), fun c => absurd (by omega) c⟩
      · omega
      · rw [if_pos b1, if_neg (by omega)]
      · omega
    | succ i ihi =>
      intro m em h A F Y
      have s5 : h 93 5 = nbN h0 := by rw [A.1.2.2.2.2.1 5 (by omega)]; exact hnb.1
      have Ym := Y.1 m (by omega) (by omega)
      by_cases q : plP h0 m = n
      · have h106 : h 106 m = g (9 + m) ∧ h 107 m = 0 := Ym.2.1 (fun q2 => by omega)
        have h108 : h 108 m = caP h0 st lv g m n := by
          have q3 := Ym.2.2 (by omega)
          dsimp only at q3
          rw [q3, if_neg (by omega)]
        refine l_X12_floods_94 ⟨⟨by omega, by omega⟩, ⟨by omega, by omega⟩, fun c => absurd c (by omega), fun _ => y_isCut C A ⟨by omega, by omega⟩ (by omega) hl h106.1 (fun c => absurd q c) (fun _ h1 F1 r106 r107 r108 => ?_)⟩
        have qq := (F1.cell (C := []) (W := [109, 110, 111]) (by decide)).2
        refine ihi (m + 1) (by omega) h1 (A.fr C F1 (by decide) (by decide)) ((F.trans F1).into rfl) ⟨fun b b0 b1 => ?_, by rw [qq 109 (by decide), qq 110 (by decide)]; exact Y.2.1, by rw [qq 111 (by decide)]; exact Y.2.2⟩
        rw [r106, r107, r108]
        by_cases c : b = m
        · subst c
          rw [if_pos rfl, if_pos rfl, if_pos rfl, h106.2]
          refine ⟨fun _ _ => ⟨rfl, by omega⟩, fun q2 => absurd ⟨by omega, Or.inr ⟨q, by omega⟩⟩ q2, fun _ => ?_⟩
          dsimp only
          rw [if_pos (by omega), h108]
          unfold crP cA1
          rw [if_pos q]
        · rw [if_neg c, if_neg c, if_neg c]
          have Yb := Y.1 b b0 b1
          refine ⟨fun q1 q2 => Yb.1 q1 (by omega), fun q2 => Yb.2.1 (fun q3 => q2 ⟨q3.1, by omega⟩), fun q2 => ?_⟩
          have Yc := Yb.2.2 q2
          dsimp only at Yc ⊢
          rw [Yc]
          by_cases c2 : b < m
          · rw [if_pos c2, if_pos (by omega)]
          · rw [if_neg c2, if_neg (by omega)]
      · have gh := GS.hl C.2.2.2.2.2 (b := m) ⟨by omega, by omega⟩
        have go : L_X12_floods_94 w lv n ((m : Int) + 1) h K := ihi (m + 1) (by omega) h A F (Y.to (fun b b0 b1 => ?_) (fun b b0 b1 => ?_) (fun x b _ _ _ => Iff.rfl))
        · refine l_X12_floods_94 ⟨⟨by omega, by omega⟩, ⟨by omega, by omega⟩, fun c => absurd c (by omega), fun _ => ?_⟩
          have hbk := C.1.bk (b := m) (by omega) (by omega)
          have s96 : h 96 (50 + 5 * (m : Int) + 2) = plP h0 m := A.1.2.2.2.2.2.2.2.1 (50 + 5 * (m : Int) + 2) (by omega)
          have pb : 0 ≤ plP h0 m ∧ plP h0 m < h0 68 36 := hbk.2.2.1.2
          refine c_X12_isCut ?_
          rw [s96]
          exact ⟨⟨by omega, by omega⟩, ⟨by omega, by omega⟩, ⟨by omega, by omega⟩, fun _ => go, fun c => absurd q c⟩
        · by_cases c : b = m
          · subst c; omega
          · omega
        · by_cases c : b = m
          · subst c
            rw [if_neg (by omega), if_pos (by omega)]
            unfold crP cA1
            rw [if_neg q]; omega
          · by_cases c2 : b < m
            · rw [if_pos c2, if_pos (by omega)]
            · rw [if_neg c2, if_neg (by omega)]
theorem y_floods (C : CX h0 r lv st g) (A : AY h0 h st g) (k : ∀ h1, Fr h h1 [(68, 50)] yfR → AY h0 h1 st g → YV h0 st lv g h1 → K 0 h1) : C_X12_floods w lv h K := by
  have hnb := C.1.nb
  have hnr := C.1.nr
  have gl := C.2.2.2.1
  -- after both rows of nothing
  have go : ∀ h', Fr h h' [(68, 50)] yfR → AY h0 h' st g → (∀ b : Int, 0 ≤ b → b < 10 → h' 106 b = g (9 + b) ∧ h' 107 b = 0 ∧ h' 108 b = 0 ∧ h' 111 b = 0) → (∀ i : Int, 0 ≤ i → i < 80 → h' 109 i = 0 ∧ h' 110 i = 0) → L_X12_floods_80 w lv 0 h' K := by
    intro h' F' A' V1 V2
    by_cases e : lv = 0
    · have s36 : h' 68 36 = nrN h0 := by rw [A'.1.2.2.1]; exact hnr.1
      have z := fun (b : Int) (n : Nat) => ca_0 (h0 := h0) (st := st) (g := g) e (b := b) n
      have sea : L_X12_floods_189 w 0 h' K := y_fl_sea C A' F' ⟨fun b b0 b1 => ⟨fun _ _ => ⟨by rw [(z b 0).2.2, (V1 b b0 b1).1]; omega, by rw [(z b 0).2.2]; exact (V1 b b0 b1).2.1⟩, fun _ => ⟨(V1 b b0 b1).1, (V1 b b0 b1).2.1⟩, fun _ => by dsimp only; rw [(z b _).1]; exact (V1 b b0 b1).2.2.1⟩, fun x b x0 b0 b1 => ⟨fun _ _ => ⟨by rw [(z b _).2.1]; exact (V2 _ (by omega) (by omega)).2, by rw [(z b _).1]; exact (V2 _ (by omega) (by omega)).1⟩, fun _ => ⟨(V2 _ (by omega) (by omega)).2, (V2 _ (by omega) (by omega)).1⟩⟩, fun b b0 b1 => (V1 b b0 b1).2.2.2⟩ k
      exact l_X12_floods_80 ⟨⟨by omega, by omega⟩, ⟨by omega, by omega⟩, fun _ => sea, fun _ => ⟨⟨by omega, by omega⟩, fun _ => sea, fun c => absurd (by omega) c⟩⟩
    · refine y_fl_run C e k (nrN h0) 0 (by omega) h' A' F' ⟨fun b b0 b1 => ⟨fun q q2 => ?_, fun _ => ⟨(V1 b b0 b1).1, (V1 b b0 b1).2.1⟩, fun _ => (V1 b b0 b1).2.2.1⟩, fun x b x0 b0 b1 => ⟨fun _ q => absurd q (by omega), fun _ => ⟨(V2 _ (by omega) (by omega)).2, (V2 _ (by omega) (by omega)).1⟩⟩, fun b b0 b1 => (V1 b b0 b1).2.2.2⟩
      have pb : 0 ≤ plP h0 b ∧ plP h0 b < h0 68 36 := (C.1.bk b0 q).2.2.1.2
      exact absurd q2 (by omega)
  -- two rows of eighty
  have L52 : ∀ j n : Nat, n + j = 80 → ∀ h', Fr h h' [(68, 50)] yfR → AY h0 h' st g → (∀ b : Int, 0 ≤ b → b < 10 → h' 106 b = g (9 + b) ∧ h' 107 b = 0 ∧ h' 108 b = 0 ∧ h' 111 b = 0) → (∀ i : Int, 0 ≤ i → i < n → h' 109 i = 0 ∧ h' 110 i = 0) → L_X12_floods_52 w lv n h' K := by
    intro j
    induction j with
    | zero =>
      intro n e h' F' A' V1 V2
      obtain rfl : n = 80 := e
      exact l_X12_floods_52 ⟨⟨by omega, by omega⟩, fun _ => go h' F' A' V1 V2, fun c => absurd (by omega) c⟩
    | succ j ih =>
      intro n e h' F' A' V1 V2
      refine l_X12_floods_52 ⟨⟨by omega, by omega⟩, fun c => absurd c (by omega), fun _ => ⟨⟨by omega, by omega⟩, fun h18 e18 => ⟨⟨by omega, by omega⟩, fun h21 e21 => ?_⟩⟩⟩
      have F18 : Fr h' h18 [] [109] := by rw [e18]; exact Fr.row
      have F21 : Fr h18 h21 [] [110] := by rw [e21]; exact Fr.row
      have FF := F18.trans F21
      have q := (FF.cell (C := []) (W := [106, 107, 108, 111]) (by decide)).2
      refine ih (n + 1) (by omega) h21 ((F'.trans FF).into rfl) (A'.fr C FF (by decide) (by decide)) (by rw [q 106 (by decide), q 107 (by decide), q 108 (by decide), q 111 (by decide)]; exact V1) (fun i i0 i1 => ?_)
      rw [hu_row e21 (show (109 : Int) ≠ 110 by decide), e21, hu_if, e18, hu_if, hu_ne (by decide)]
      by_cases c : i = n
      · rw [if_pos c, if_pos c]; exact ⟨rfl, rfl⟩
      · rw [if_neg c, if_neg c]; exact V2 i i0 (by omega)
  refine c_X12_floods ?_
  suffices ∀ j n : Nat, n + j = 10 → ∀ h', Fr h h' [(68, 50)] yfR → AY h0 h' st g → (∀ b : Int, 0 ≤ b → b < n → h' 106 b = g (9 + b) ∧ h' 107 b = 0 ∧ h' 108 b = 0 ∧ h' 111 b = 0) → L_X12_floods_2 w lv n h' K from this 10 0 (by omega) h (Fr.into Fr.refl rfl) A (fun b b0 b1 => absurd b1 (by omega))
  intro j
  induction j with
  | zero =>
    intro n e h' F' A' V1
    obtain rfl : n = 10 := e
    exact l_X12_floods_2 ⟨⟨by omega, by omega⟩, fun _ => L52 80 0 (by omega) h' F' A' V1 (fun i i0 i1 => absurd i1 (by omega)), fun c => absurd (by omega) c⟩
  | succ j ih =>
    intro n e h' F' A' V1
    refine l_X12_floods_2 ⟨⟨by omega, by omega⟩, fun c => absurd c (by omega), fun _ => ⟨⟨by omega, by omega⟩, ⟨by omega, by omega⟩, fun h4 e4 => ⟨⟨by omega, by omega⟩, fun h7 e7 => ⟨⟨by omega, by omega⟩, fun h10 e10 => ⟨⟨by omega, by omega⟩, fun h13 e13 => ?_⟩⟩⟩⟩⟩
    have F4 : Fr h' h4 [] [106] := by rw [e4]; exact Fr.row
    have F7 : Fr h4 h7 [] [107] := by rw [e7]; exact Fr.row
    have F10 : Fr h7 h10 [] [108] := by rw [e10]; exact Fr.row
    have F13 : Fr h10 h13 [] [111] := by rw [e13]; exact Fr.row
    have FF := F4.trans (F7.trans (F10.trans F13))
    refine ih (n + 1) (by omega) h13 ((F'.trans FF).into rfl) (A'.fr C FF (by decide) (by decide)) (fun b b0 b1 => ?_)
    rw [hu_row e13 (show (106 : Int) ≠ 111 by decide), hu_row e13 (show (107 : Int) ≠ 111 by decide), hu_row e13 (show (108 : Int) ≠ 111 by decide), hu_row e10 (show (106 : Int) ≠ 108 by decide), hu_row e10 (show (107 : Int) ≠ 108 by decide), hu_row e7 (show (106 : Int) ≠ 107 by decide), e13, hu_if, e10, hu_if, e7, hu_if, e4, hu_if, hu_ne (by decide), hu_ne (by decide), hu_ne (by decide), hu_ne (by decide), hu_ne (by decide), hu_ne (by decide)]
    by_cases c : b = n
    · rw [if_pos c, if_pos c, if_pos c, if_pos c, c]; exact ⟨A'.2.2 _ (by omega) (by omega), rfl, rfl, rfl⟩
    · rw [if_neg c, if_neg c, if_neg c, if_neg c]; exact V1 b b0 (by omega)
theorem y_stonesAsNow (k : ∀ h1, Fr h h1 [] [105] → (∀ x : Int, 0 ≤ x → x < 8 → h1 105 x = h 104 (1 + x)) → K 0 h1) : C_X12_stonesAsNow w h K := by
  refine c_X12_stonesAsNow ?_
  suffices ∀ j n : Nat, n + j = 8 → ∀ h', Fr h h' [] [105] → (∀ x : Int, 0 ≤ x → x < n → h' 105 x = h 104 (1 + x)) → L_X12_stonesAsNow_2 w n h' K from this 8 0 (by omega) h (Fr.into Fr.refl rfl) (fun x x0 x1 => absurd x1 (by omega))
  intro j
  induction j with
  | zero =>
    intro n e h' F' V
    obtain rfl : n = 8 := e
    exact l_X12_stonesAsNow_2 ⟨⟨by omega, by omega⟩, fun _ => k h' F' V, fun c => absurd (by omega) c⟩
  | succ j ih =>
    intro n e h' F' V
    refine l_X12_stonesAsNow_2 ⟨⟨by omega, by omega⟩, fun c => absurd c (by omega), fun _ => ⟨⟨by omega, by omega⟩, ⟨by omega, by omega⟩, fun h4 e4 => ?_⟩⟩
    have F4 : Fr h' h4 [] [105] := by rw [e4]; exact Fr.row
    refine ih (n + 1) (by omega) h4 ((F'.trans F4).into rfl) (fun x x0 x1 => ?_)
    rw [e4, hu_if, (F'.cell (C := []) (W := [104]) (by decide)).2 104 (by decide)]
    by_cases c : x = n
    · rw [if_pos c, c]
    · rw [if_neg c]; exact V x x0 (by omega)
/-- a flood, were it now: stones as they are -/
def sN (g : Int → Int) : Int → Int := fun x => g (1 + x)
theorem y_wouldBe (C : CX h0 r lv (sN g) g) (S : Sl h0 h) (hg : ∀ i : Int, 0 ≤ i → i < 109 → h 104 i = g i) (k : ∀ h1, Fr h h1 [(68, 50)] (105 :: yfR) → AY h0 h1 (sN g) g → YV h0 (sN g) lv g h1 → K 0 h1) : C_X12_wouldBe w lv h K := by
  refine c_X12_wouldBe (y_stonesAsNow (fun h2 F2 V2 => ?_))
  have S2 : Sl h h2 := Sl.of (by rw [S.1]; exact C.rr.2) F2 (by decide)
  have e104 : h2 104 = h 104 := (F2.cell (C := []) (W := [104]) (by decide)).2 104 (by decide)
  have hnr := C.1.nr
  have A2 : AY h0 h2 (sN g) g := ⟨S.tr S2, fun x x0 x1 => by rw [V2 x x0 (by omega)]; exact hg _ (by omega) (by omega), by rw [e104]; exact hg⟩
  exact y_floods C A2 (fun h5 F5 A5 V5 => k h5 ((F2.trans F5).into rfl) A5 V5)
end L2S
