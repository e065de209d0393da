/-! the class's flood goes through reaches; its sums -/
def FV (h0 : Hp) (st : Int → Int) (lv : Int) (g : Int → Int) (h : Hp) (n m : Nat) : Prop :=
  (∀ (x : Nat) (b : Int), 0 ≤ b → b < nbN h0 → (x < n ∨ (x = n ∧ b < m)) → h 64 ((x : Int) * 10 + b) = sdP h0 st lv g b x ∧ h 65 ((x : Int) * 10 + b) = caP h0 st lv g b (x + 1)) ∧
  (∀ b : Int, 0 ≤ b → b < nbN h0 → (plP h0 b < n ∨ (plP h0 b = n ∧ b < m)) → h 63 b = cuP h0 st lv (g 0) b (g (9 + b)))
theorem FV.next {h0 h : Hp} {st g : Int → Int} {lv : Int} {n : Nat} (V : FV h0 st lv g h n (nbN h0)) : FV h0 st lv g h (n + 1) 0 := by
  refine ⟨fun x b b0 b1 q => V.1 x b b0 b1 ?_, fun b b0 b1 q => V.2 b b0 b1 ?_⟩
  · rcases q with q | ⟨q, q2⟩
    · omega
    · omega
  · rcases q with q | ⟨q, q2⟩
    · omega
    · omega
theorem FV.fr {h0 h h' : Hp} {st g : Int → Int} {lv : Int} {n m : Nat} {L : List (Int × Int)} {R : List Int} (V : FV h0 st lv g h n m) (F : Fr h h' L R) (ok : okF L R [] [63, 64, 65] = true) : FV h0 st lv g h' n m := by
  obtain ⟨-, q⟩ := F.cell ok
  unfold FV
  rw [q 63 (by decide), q 64 (by decide), q 65 (by decide)]
  exact V
abbrev runR : List Int := [53, 54, 63, 64, 65]
section L2Q
variable {w : Wd} {h h0 : Hp} {K : Int → Hp → Prop} {r s lv : Int} {st g : Int → Int}
theorem GS.hl (G : GS h0 g) {b : Int} (hb : 0 ≤ b ∧ b < 10) : 0 ≤ g (9 + b) ∧ g (9 + b) ≤ 255 := ⟨(G.2.2.1 b hb.1 hb.2).1, (G.2.2.1 b hb.1 hb.2).2.1⟩
theorem cr_b (C : CX h0 r lv st g) {b : Int} (hb : 0 ≤ b ∧ b < 10) (n : Nat) : 0 ≤ crP h0 st lv g b n ∧ crP h0 st lv g b n ≤ 255 ∧ 0 ≤ caP h0 st lv g b n ∧ caP h0 st lv g b n ≤ 255 ∧ 0 ≤ sdP h0 st lv g b n ∧ sdP h0 st lv g b n ≤ 255 ∧ 0 ≤ cuP h0 st lv (g 0) b (g (9 + b)) ∧ cuP h0 st lv (g 0) b (g (9 + b)) ≤ 255 := by
  have G := GS.hl C.2.2.2.2.2 hb
  have c := cuP_b (h := h0) (st := st) (lv := lv) (yr := g 0) (b := b) G.1
  have d := caP_b (h := h0) (st := st) (lv := lv) G.1 n
  obtain ⟨d1, d2, d3, d4, d5, d6⟩ := d
  have e2 : caP h0 st lv g b n ≤ 255 := by
    by_cases q : plP h0 b < n
    · rw [if_pos q] at d2; omega
    · rw [if_neg q] at d2; omega
  have e4 : crP h0 st lv g b n ≤ 255 := by
    by_cases q : plP h0 b < n + 1
    · rw [if_pos q] at d4; omega
    · rw [if_neg q] at d4; omega
  omega
theorem x_run (C : CX h0 r lv st g) (hs : s = 40 ∨ s = 45) (A : AX h0 h r s lv st g) {f t : Nat} (ht : t ≤ nrN h0) (hf : f ≤ t) (V : FV h0 st lv g h f 0) (k : ∀ h1, Fr h h1 [(52, 4)] runR → AX h0 h1 r s lv st g → FV h0 st lv g h1 t 0 → K 0 h1) : C_X0_run w f ((t : Int) - 1) h K := by
  have hr := C.rr.1
  have hn := C.1.nb
  have hnr := C.1.nr
  have ob7 : Ob 7 r := C.1.ob
  have L6 : ∀ j n : Nat, n + j = t → ∀ h', Fr h h' [(52, 4)] runR → AX h0 h' r s lv st g → FV h0 st lv g h' n 0 → L_X0_run_6 w ((t : Int) - 1) n h' K := by
    intro j
    induction j with
    | zero =>
      intro n e h' F' A' V'
      obtain rfl : n = t := e
      exact l_X0_run_6 ⟨⟨by omega, by omega⟩, ⟨by omega, by omega⟩, fun _ => l_X0_run_149 (k h' F' A' V'), fun c => absurd (by omega) c⟩
    | succ j ih =>
      intro n e h' F' A' V'
      refine l_X0_run_6 ⟨⟨by omega, by omega⟩, ⟨by omega, by omega⟩, fun c => absurd c (by omega), fun _ => ⟨⟨by omega, by omega⟩, fun c => absurd c (by omega), fun _ => ?_⟩⟩
      suffices ∀ i m : Nat, m + i = nbN h0 → ∀ h', Fr h h' [(52, 4)] runR → AX h0 h' r s lv st g → FV h0 st lv g h' n m → L_X0_run_20 w ((t : Int) - 1) n m h' K from this (nbN h0) 0 (by omega) h' F' A' V'
      intro i
      induction i with
      | zero =>
        intro m em h' F' A' V'
        obtain rfl : m = nbN h0 := em
        have e5 := A'.row C (o := r + 5) (by omega) (by omega)
        refine l_X0_run_20 ?_
        rw [A'.2.1, e5, hn.2.2]
        exact ⟨ob7, ⟨by omega, by omega⟩, ⟨by omega, by omega⟩, fun _ => ih (n + 1) (by omega) h' F' A' V'.next, fun c => absurd (Int.le_refl _) c⟩
      | succ i ihi =>
        intro m em h' F' A' V'
        have e5 := A'.row C (o := r + 5) (by omega) (by omega)
        have e10 := A'.row C (o := r + 10) (by omega) (by omega)
        have hbk := C.1.bk (b := m) (by omega) (by omega)
        have cr := cr_b C (b := m) ⟨by omega, by omega⟩ n
        have fin : ∀ h', Fr h h' [(52, 4)] runR → AX h0 h' r s lv st g → (∀ (x : Nat) (b : Int), 0 ≤ b → b < nbN h0 → (x < n ∨ (x = n ∧ b < m)) → h' 64 ((x : Int) * 10 + b) = sdP h0 st lv g b x ∧ h' 65 ((x : Int) * 10 + b) = caP h0 st lv g b (x + 1)) → (∀ b : Int, 0 ≤ b → b < nbN h0 → (plP h0 b < n ∨ (plP h0 b = n ∧ b < m + 1)) → h' 63 b = cuP h0 st lv (g 0) b (g (9 + b))) → L_X0_run_97 w ((t : Int) - 1) n m (crP h0 st lv g m n) h' K := by
          intro h' F' A' V1 V2
          refine l_X0_run_97 (x_settling C hs A' ⟨by omega, by omega⟩ ⟨by omega, by omega⟩ ⟨by omega, by omega⟩ (fun h39 F39 A39 => ⟨⟨by omega, by omega⟩, fun h42 e42 => ⟨⟨by omega, by omega⟩, fun h45 e45 => ?_⟩⟩))
          have F42 : Fr h39 h42 [] [64] := by rw [e42]; exact Fr.row
          have F45 : Fr h42 h45 [] [65] := by rw [e45]; exact Fr.row
          have FF : Fr h39 h45 [] [64, 65] := (F42.trans F45).into rfl
          have r63 : h45 63 = h' 63 := by rw [hu_row e45 (by decide), hu_row e42 (by decide)]; exact (F39.cell (C := []) (W := [63]) (by decide)).2 63 (by decide)
          have q64 : h39 64 = h' 64 := (F39.cell (C := []) (W := [64]) (by decide)).2 64 (by decide)
          have q65 : h39 65 = h' 65 := (F39.cell (C := []) (W := [65]) (by decide)).2 65 (by decide)
          have r64 : ∀ i : Int, h45 64 i = if i = (n : Int) * 10 + m then sdP h0 st lv g m n else h' 64 i := fun i => by rw [hu_row e45 (by decide), e42, hu_if, q64]; rfl
          have r65 : ∀ i : Int, h45 65 i = if i = (n : Int) * 10 + m then caP h0 st lv g m (n + 1) else h' 65 i := fun i => by rw [e45, hu_if, hu_row e42 (by decide), q65]; rfl
          refine ihi (m + 1) (by omega) h45 ((F'.trans (F39.trans FF)).into rfl) (A39.fr C hs FF (by decide) (by decide) (by decide) (A39.2.2.2.2.2.2.fr FF (by decide))) ⟨fun x b b0 b1 q => ?_, fun b b0 b1 q => ?_⟩
          · rw [r64, r65]
            by_cases g1 : (x : Int) * 10 + b = (n : Int) * 10 + m
            · have ex : x = n := by omega
              have eb : b = m := by omega
              subst ex; subst eb
              rw [if_pos rfl, if_pos rfl]; exact ⟨rfl, rfl⟩
            · rw [if_neg g1, if_neg g1]
              refine V1 x b b0 b1 ?_
              rcases q with q | ⟨q, q2⟩
              · exact Or.inl q
              · subst q; right; refine ⟨rfl, ?_⟩; omega
          · rw [r63]; exact V2 b b0 b1 q
        have rd : (n : Int) ≠ 0 → h' 65 (((n : Int) - 1) * 10 + m) = caP h0 st lv g m n := fun q => by
          have := (V'.1 (n - 1) m (by omega) (by omega) (Or.inl (by omega))).2
          rw [show ((n - 1 : Nat) : Int) = (n : Int) - 1 by omega, show n - 1 + 1 = n by omega] at this
          exact this
        have pl : h0 (r + 10) m = plP h0 m := hbk.2.2.1.1
        refine l_X0_run_20 ?_
        rw [A'.2.1, e5, hn.2.2, e10, pl]
        have pb : 0 ≤ plP h0 m ∧ plP h0 m < h0 68 36 := hbk.2.2.1.2
        refine ⟨ob7, ⟨by omega, by omega⟩, ⟨by omega, by omega⟩, fun c => absurd c (by omega), fun _ => ⟨⟨by omega, by omega⟩, fun q => ⟨⟨by omega, by omega⟩, ob7, ⟨by omega, by omega⟩, ⟨by omega, by omega⟩, ⟨by omega, by omega⟩, fun q2 => ?_, fun q2 => ?_⟩, fun q => ⟨ob7, ⟨by omega, by omega⟩, ⟨by omega, by omega⟩, ⟨by omega, by omega⟩, fun q2 => ?_, fun q2 => ?_⟩⟩⟩
        · rw [rd q]
          have e : caP h0 st lv g m n = crP h0 st lv g m n := by unfold crP cA1; rw [if_neg q2]; omega
          rw [e]
          exact fin h' F' A' V'.1 (fun b b0 b1 q3 => V'.2 b b0 b1 (by rcases q3 with q3 | ⟨q3, q4⟩
                                                                      · exact Or.inl q3
                                                                      · right; refine ⟨q3, ?_⟩
                                                                        by_cases g1 : b = m
                                                                        · subst g1; exact absurd q3 q2
                                                                        · omega))
        · rw [rd q]
          refine x_cutOf C hs A' ⟨by omega, by omega⟩ (fun h17 F17 A17 => ⟨⟨by omega, by omega⟩, fun h20 e20 => ⟨⟨by omega, by omega⟩, ?_⟩⟩)
          have F20 : Fr h17 h20 [] [63] := by rw [e20]; exact Fr.row
          have q63 : h17 63 = h' 63 := (F17.cell (C := []) (W := [63]) (by decide)).2 63 (by decide)
          have r63 : ∀ i : Int, h20 63 i = if i = m then cuP h0 st lv (g 0) m (g (9 + m)) else h' 63 i := fun i => by rw [e20, hu_if, q63]
          have q64 : h20 64 = h' 64 := by rw [hu_row e20 (by decide)]; exact (F17.cell (C := []) (W := [64]) (by decide)).2 64 (by decide)
          have q65 : h20 65 = h' 65 := by rw [hu_row e20 (by decide)]; exact (F17.cell (C := []) (W := [65]) (by decide)).2 65 (by decide)
          rw [r63, if_pos rfl]
          have e : caP h0 st lv g m n + cuP h0 st lv (g 0) m (g (9 + m)) = crP h0 st lv g m n := by unfold crP cA1; rw [if_pos (Classical.not_not.mp q2)]
          rw [e]
          refine fin h20 ((F'.trans (F17.trans F20)).into rfl) (A17.fr C hs F20 (by decide) (by decide) (by decide) (A17.2.2.2.2.2.2.fr F20 (by decide))) (by rw [q64, q65]; exact V'.1) (fun b b0 b1 q3 => ?_)
          rw [r63]
          by_cases g1 : b = m
          · rw [if_pos g1, g1]
          · rw [if_neg g1]; exact V'.2 b b0 b1 (by omega)
        · have e : (0 : Int) = crP h0 st lv g m n := by
            have n0 : n = 0 := by omega
            subst n0
            unfold crP cA1; rw [if_neg q2]; rfl
          rw [e]
          exact fin h' F' A' V'.1 (fun b b0 b1 q3 => V'.2 b b0 b1 (by rcases q3 with q3 | ⟨q3, q4⟩
                                                                      · exact Or.inl q3
                                                                      · right; refine ⟨q3, ?_⟩
                                                                        by_cases g1 : b = m
                                                                        · subst g1; exact absurd q3 q2
                                                                        · omega))
        · refine x_cutOf C hs A' ⟨by omega, by omega⟩ (fun h17 F17 A17 => ⟨⟨by omega, by omega⟩, fun h20 e20 => ⟨⟨by omega, by omega⟩, ?_⟩⟩)
          have F20 : Fr h17 h20 [] [63] := by rw [e20]; exact Fr.row
          have q63 : h17 63 = h' 63 := (F17.cell (C := []) (W := [63]) (by decide)).2 63 (by decide)
          have r63 : ∀ i : Int, h20 63 i = if i = m then cuP h0 st lv (g 0) m (g (9 + m)) else h' 63 i := fun i => by rw [e20, hu_if, q63]
          have q64 : h20 64 = h' 64 := by rw [hu_row e20 (by decide)]; exact (F17.cell (C := []) (W := [64]) (by decide)).2 64 (by decide)
          have q65 : h20 65 = h' 65 := by rw [hu_row e20 (by decide)]; exact (F17.cell (C := []) (W := [65]) (by decide)).2 65 (by decide)
          rw [r63, if_pos rfl]
          have e : 0 + cuP h0 st lv (g 0) m (g (9 + m)) = crP h0 st lv g m n := by
            have n0 : n = 0 := by omega
            subst n0
            unfold crP cA1; rw [if_pos (Classical.not_not.mp q2)]; rfl
          rw [e]
          refine fin h20 ((F'.trans (F17.trans F20)).into rfl) (A17.fr C hs F20 (by decide) (by decide) (by decide) (A17.2.2.2.2.2.2.fr F20 (by decide))) (by rw [q64, q65]; exact V'.1) (fun b b0 b1 q3 => ?_)
          rw [r63]
          by_cases g1 : b = m
          · rw [if_pos g1, g1]
          · rw [if_neg g1]; exact V'.2 b b0 b1 (by omega)
  refine c_X0_run ⟨⟨by omega, by omega⟩, ?_⟩
  rw [show max (0 : Int) (f : Int) = f by omega]
  exact L6 (t - f) f (by omega) h (Fr.into Fr.refl rfl) A V
end L2Q
