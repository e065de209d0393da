/-! acts: what is kept, what is given back -/
theorem GS.cg {h : Hp} {g g' : Int → Int} (G : GS h g) (e : ∀ i : Int, 0 ≤ i → i < 109 → g' i = g i) : GS h g' := by
  obtain ⟨g1, g2, g3, g4, g5⟩ := G
  refine ⟨by rw [e 0 (by omega) (by omega)]; exact g1, fun r r0 r1 => by rw [e _ (by omega) (by omega)]; exact g2 r r0 r1, fun b b0 b1 => by rw [e (9 + b) (by omega) (by omega), e (19 + b) (by omega) (by omega)]; exact g3 b b0 b1, fun r b r0 r1 b0 b1 => by rw [e _ (by omega) (by omega)]; exact g4 r b r0 r1 b0 b1, ?_⟩
  rw [← g5, sm_congr (n := 8) (fun r r0 r1 => sm_congr (n := 10) (fun b b0 b1 => e (29 + 10 * r + b) (by omega) (by omega))), sm_congr (n := 10) (fun b b0 b1 => e (9 + b) (by omega) (by omega)), sm_congr (n := 10) (fun b b0 b1 => e (19 + b) (by omega) (by omega))]
theorem SX.cg {h : Hp} {s : Int} {g g' : Int → Int} (G : SX h s g) (e : ∀ i : Int, 0 ≤ i → i < 109 → g' i = g i) : SX h s g' := by
  obtain ⟨g1, g2, g3, g4⟩ := G
  refine ⟨by rw [e 0 (by omega) (by omega)]; exact g1, fun r r0 r1 => by rw [e _ (by omega) (by omega)]; exact g2 r r0 r1, fun b b0 b1 => by rw [e (9 + b) (by omega) (by omega), e (19 + b) (by omega) (by omega)]; exact g3 b b0 b1, fun r b r0 r1 b0 b1 => by rw [e _ (by omega) (by omega)]; exact g4 r b r0 r1 b0 b1⟩
/-- the class's slot s holds a state -/
def CK (h : Hp) (s : Int) (g : Int → Int) : Prop := h 51 (109 * s) = g 0 ∧ (∀ r : Int, 0 ≤ r → r < 8 → h 51 (109 * s + 1 + r) = g (1 + r)) ∧ (∀ r b : Int, 0 ≤ r → r < 8 → 0 ≤ b → b < 10 → h 51 (109 * s + 9 + (r * 10 + b)) = g (29 + 10 * r + b)) ∧ (∀ b : Int, 0 ≤ b → b < 10 → h 51 (109 * s + 89 + b) = g (9 + b) ∧ h 51 (109 * s + 99 + b) = g (19 + b))
theorem hc_if {h : Hp} {a sp b dp n j : Int} : hcpy h a sp b dp n b j = if dp ≤ j ∧ j < dp + n then h a (sp + (j - dp)) else h b j := by
  unfold hcpy
  by_cases q : dp ≤ j ∧ j < dp + n
  · rw [if_pos ⟨rfl, q⟩, if_pos q]
  · rw [if_neg (fun c => q c.2), if_neg q]
section L2a
variable {w : Wd} {c : Int} {h h0 : Hp} {K : Int → Hp → Prop} {g : Int → Int}
theorem x_store {nx cn : Int} (e1 : h 50 1 = nx) (n0 : 0 ≤ nx ∧ nx < 20) (e2 : h 50 2 = cn) (c0 : 0 ≤ cn ∧ cn ≤ 20) (X : SX h 40 g) (k : ∀ h1, Fr h h1 [(50, 1), (50, 2)] [51] → h1 50 1 = (nx + 1) % 20 → h1 50 2 = (if cn ≥ 20 then cn else cn + 1) → CK h1 nx g → (∀ i : Int, ¬ (109 * nx ≤ i ∧ i < 109 * nx + 109) → h1 51 i = h 51 i) → K 0 h1) : C_X5_store w 40 h K := by
  refine c_X5_store ob_40 ?_
  rw [e1]
  refine ⟨⟨by omega, by omega⟩, fun h2 q2 => ⟨⟨by omega, by omega, by omega, by omega, by omega⟩, fun h5 q5 => ⟨⟨by omega, by omega, by omega, by omega, by omega⟩, fun h8 q8 => ⟨⟨by omega, by omega, by omega, by omega, by omega⟩, fun h11 q11 => ⟨⟨by omega, by omega, by omega, by omega, by omega⟩, fun h14 q14 => ?_⟩⟩⟩⟩⟩
  have F2 : Fr h h2 [] [51] := by rw [q2]; exact Fr.row
  have F5 : Fr h2 h5 [] [51] := by rw [q5]; exact Fr.cpy
  have F8 : Fr h5 h8 [] [51] := by rw [q8]; exact Fr.cpy
  have F11 : Fr h8 h11 [] [51] := by rw [q11]; exact Fr.cpy
  have F14 : Fr h11 h14 [] [51] := by rw [q14]; exact Fr.cpy
  have G2 : Fr h h2 [] [51] := F2
  have G5 : Fr h h5 [] [51] := (G2.trans F5).into (by decide)
  have G8 : Fr h h8 [] [51] := (G5.trans F8).into (by decide)
  have G11 : Fr h h11 [] [51] := (G8.trans F11).into (by decide)
  have G14 : Fr h h14 [] [51] := (G11.trans F14).into (by decide)
  have r : ∀ {h' : Hp}, Fr h h' [] [51] → ∀ o : Int, o ≠ 51 → h' o = h o := fun F o n => by funext i; exact F o i (fun q => n (List.mem_singleton.mp q)) (fun q => absurd q List.not_mem_nil)
  rw [r G14 50 (by decide), e1]
  refine ⟨⟨by omega, by omega⟩, fun h17 q17 => ?_⟩
  have s2 : h17 50 2 = cn := by rw [q17, hu_if, if_neg (by decide), r G14 50 (by decide)]; exact e2
  rw [s2]
  refine ⟨⟨by omega, by omega⟩, fun h20 q20 => ?_⟩
  have F17 : Fr h14 h17 [(50, 1)] [] := by rw [q17]; exact Fr.cel
  have F20 : Fr h17 h20 [(50, 2)] [] := by rw [q20]; exact Fr.cel
  have r51 : h20 51 = h14 51 := by rw [hu_row q20 (by decide), hu_row q17 (by decide)]
  have V : ∀ i : Int, h20 51 i = if 109 * nx + 99 ≤ i ∧ i < 109 * nx + 109 then h 44 (i - (109 * nx + 99)) else if 109 * nx + 89 ≤ i ∧ i < 109 * nx + 99 then h 43 (i - (109 * nx + 89)) else if 109 * nx + 9 ≤ i ∧ i < 109 * nx + 89 then h 42 (i - (109 * nx + 9)) else if 109 * nx + 1 ≤ i ∧ i < 109 * nx + 9 then h 41 (i - (109 * nx + 1)) else if i = 109 * nx then h 40 4 else h 51 i := fun i => by
    have a1 : (40 : Int) + 1 = 41 ∧ (40 : Int) + 2 = 42 ∧ (40 : Int) + 3 = 43 ∧ (40 : Int) + 4 = 44 := by decide
    rw [a1.1] at q5
    rw [a1.2.1] at q8
    rw [a1.2.2.1] at q11
    rw [a1.2.2.2] at q14
    rw [r51, q14, hc_if, r G11 44 (by decide), q11, hc_if, r G8 43 (by decide), q8, hc_if, r G5 42 (by decide), q5, hc_if, r G2 41 (by decide), q2, hu_if]
    have e : ∀ a n : Int, 0 + (i - a) = i - a := fun a n => by omega
    by_cases d1 : 109 * nx + 99 ≤ i ∧ i < 109 * nx + 109
    · rw [if_pos d1, if_pos (by omega)]; exact congrArg _ (by omega)
    · rw [if_neg d1, if_neg (by omega)]
      by_cases d2 : 109 * nx + 89 ≤ i ∧ i < 109 * nx + 99
      · rw [if_pos d2, if_pos (by omega)]; exact congrArg _ (by omega)
      · rw [if_neg d2, if_neg (by omega)]
        by_cases d3 : 109 * nx + 9 ≤ i ∧ i < 109 * nx + 89
        · rw [if_pos d3, if_pos (by omega)]; exact congrArg _ (by omega)
        · rw [if_neg d3, if_neg (by omega)]
          by_cases d4 : 109 * nx + 1 ≤ i ∧ i < 109 * nx + 9
          · rw [if_pos d4, if_pos (by omega)]; exact congrArg _ (by omega)
          · rw [if_neg d4, if_neg (by omega)]
            by_cases d5 : i = 109 * nx
            · rw [if_pos d5, if_pos (by omega)]
            · rw [if_neg d5, if_neg (by omega)]
  refine k h20 ((G14.trans (F17.trans F20)).into (by decide)) ?_ ?_ ⟨?_, fun x x0 x1 => ?_, fun x b x0 x1 b0 b1 => ?_, fun b b0 b1 => ⟨?_, ?_⟩⟩ (fun i q => ?_)
  · rw [q20, hu_if, if_neg (by decide), q17, hu_if, if_pos rfl]
  · rw [q20, hu_if, if_pos rfl]
    by_cases q : cn ≥ 20
    · rw [if_pos q]; omega
    · rw [if_neg q]; omega
  · rw [V, if_neg (by omega), if_neg (by omega), if_neg (by omega), if_neg (by omega), if_pos rfl]; exact X.1
  · rw [V, if_neg (by omega), if_neg (by omega), if_neg (by omega), if_pos (by omega), show 109 * nx + 1 + x - (109 * nx + 1) = x by omega]; exact X.2.1 x x0 x1
  · rw [V, if_neg (by omega), if_neg (by omega), if_pos (by omega), show 109 * nx + 9 + (x * 10 + b) - (109 * nx + 9) = x * 10 + b by omega]; exact X.2.2.2 x b x0 x1 b0 b1
  · rw [V, if_neg (by omega), if_pos (by omega), show 109 * nx + 89 + b - (109 * nx + 89) = b by omega]; exact (X.2.2.1 b b0 b1).1
  · rw [V, if_pos (by omega), show 109 * nx + 99 + b - (109 * nx + 99) = b by omega]; exact (X.2.2.1 b b0 b1).2
  · rw [V, if_neg (by omega), if_neg (by omega), if_neg (by omega), if_neg (by omega), if_neg (by omega)]
theorem y_keeps {nw un : Int} (e1 : h 68 62 = nw) (n0 : 0 ≤ nw ∧ nw < 20) (e2 : h 68 61 = un) (u0 : 0 ≤ un ∧ un ≤ 20) (k : ∀ h1, Fr h h1 [(68, 61), (68, 62)] [112] → h1 68 62 = (nw + 1) % 20 → h1 68 61 = (if un ≥ 20 then un else un + 1) → (∀ i : Int, 0 ≤ i → i < 109 → h1 112 (109 * ((nw + 1) % 20) + i) = h 104 i) → (∀ i : Int, ¬ (109 * ((nw + 1) % 20) ≤ i ∧ i < 109 * ((nw + 1) % 20) + 109) → h1 112 i = h 112 i) → K 0 h1) : C_X12_keeps w h K := by
  refine c_X12_keeps ?_
  rw [e1]
  refine ⟨⟨by omega, by omega⟩, fun h2 q2 => ?_⟩
  have F2 : Fr h h2 [(68, 62)] [] := by rw [q2]; exact Fr.cel
  obtain ⟨t, ht⟩ : ∃ t, t = (nw + 1) % 20 := ⟨_, rfl⟩
  rw [← ht] at q2 k
  have t0 : 0 ≤ t ∧ t < 20 := by omega
  suffices ∀ j m : Nat, m + j = 109 → ∀ h', Fr h h' [(68, 62)] [112] → h' 68 62 = t → (∀ i : Int, 0 ≤ i → i < m → h' 112 (109 * t + i) = h 104 i) → (∀ i : Int, ¬ (109 * t ≤ i ∧ i < 109 * t + 109) → h' 112 i = h 112 i) → L_X12_keeps_15 w m h' K from this 109 0 (by omega) h2 (F2.into (by decide)) (by rw [q2, hu_if, if_pos rfl]) (fun i i0 i1 => by omega) (fun i _ => by rw [hu_row q2 (by decide)])
  intro j
  induction j with
  | zero =>
    intro m e h' F' v1 V1 V2
    obtain rfl : m = 109 := e
    have s61 : h' 68 61 = un := by rw [← e2]; exact F' 68 61 (by decide) (by decide)
    refine l_X12_keeps_15 ⟨⟨by omega, by omega⟩, fun _ => ?_, fun c => absurd (by omega) c⟩
    rw [s61]
    refine ⟨⟨by omega, by omega⟩, fun q => k h' (F'.into (by decide)) v1 (by rw [s61, if_pos q]) V1 V2, fun q h6 q6 => ?_⟩
    have F6 : Fr h' h6 [(68, 61)] [] := by rw [q6]; exact Fr.cel
    refine k h6 ((F'.trans F6).into (by decide)) (by rw [q6, hu_if, if_neg (by decide)]; exact v1) (by rw [q6, hu_if, if_pos rfl, if_neg q]) (by rw [hu_row q6 (by decide)]; exact V1) (by rw [hu_row q6 (by decide)]; exact V2)
  | succ j ih =>
    intro m e h' F' v1 V1 V2
    refine l_X12_keeps_15 ?_
    rw [v1]
    refine ⟨⟨by omega, by omega⟩, fun c => absurd c (by omega), fun _ => ⟨⟨by omega, by omega⟩, ⟨by omega, by omega⟩, fun h11 q11 => ?_⟩⟩
    have F11 : Fr h' h11 [] [112] := by rw [q11]; exact Fr.row
    refine ih (m + 1) (by omega) h11 ((F'.trans F11).into (by decide)) (by rw [hu_row q11 (by decide)]; exact v1) (fun i i0 i1 => ?_) (fun i q => ?_)
    · rw [q11, hu_if]
      by_cases d : i = m
      · rw [if_pos (by omega), d]; rw [(F'.cell (C := []) (W := [104]) (by decide)).2 104 (by decide)]
      · rw [if_neg (by omega)]; exact V1 i i0 (by omega)
    · rw [q11, hu_if, if_neg (by omega)]; exact V2 i q
theorem PS.ck {s t : Int} (G : GS h (fun k => h 112 (109 * t + k))) (Kk : CK h s (fun k => h 112 (109 * t + k))) : PS h s t := by
  refine ⟨G, ?_, Kk.2.1, Kk.2.2.1, Kk.2.2.2⟩
  have := Kk.1
  rw [this]
  exact congrArg (h 112) (by omega)
theorem PS.unck {s t : Int} (P : PS h s t) : CK h s (fun k => h 112 (109 * t + k)) := by
  obtain ⟨p1, p2, p3, p4, p5⟩ := P
  refine ⟨?_, p3, p4, p5⟩
  rw [p2]
  exact congrArg (h 112) (by omega)
/-- one more state is kept -/
theorem pa_push {h2 : Hp} (P : PA h) (G : GS h2 (h 104)) (S : Sl h h2) (e1 : h2 50 1 = (h 50 1 + 1) % 20) (e2 : h2 50 2 = (if h 50 2 ≥ 20 then h 50 2 else h 50 2 + 1)) (e3 : h2 68 62 = (h 68 62 + 1) % 20) (e4 : h2 68 61 = (if h 68 61 ≥ 20 then h 68 61 else h 68 61 + 1)) (k1 : CK h2 (h 50 1) (h 104)) (k2 : ∀ i : Int, ¬ (109 * h 50 1 ≤ i ∧ i < 109 * h 50 1 + 109) → h2 51 i = h 51 i) (k3 : ∀ i : Int, 0 ≤ i → i < 109 → h2 112 (109 * ((h 68 62 + 1) % 20) + i) = h 104 i) (k4 : ∀ i : Int, ¬ (109 * ((h 68 62 + 1) % 20) ≤ i ∧ i < 109 * ((h 68 62 + 1) % 20) + 109) → h2 112 i = h 112 i) : PA h2 := by
  obtain ⟨p1, p2, p3, p4, p5, p6, p7⟩ := P
  rw [p1] at e1 k1 k2
  rw [p4] at e2
  have u : 0 ≤ h2 68 61 ∧ h2 68 61 ≤ 20 ∧ h2 68 61 ≤ h 68 61 + 1 := by
    rw [e4]; split <;> omega
  refine ⟨by rw [e1, e3], by omega, by omega, by rw [e2, e4], u.1, u.2.1, fun i i0 i1 => ?_⟩
  rw [e3]
  generalize h 68 62 = nw at *
  by_cases d : i = 1
  · rw [show ((nw + 1) % 20 + 20 - i) % 20 = nw by omega, show ((nw + 1) % 20 + 21 - i) % 20 = (nw + 1) % 20 by omega]
    refine PS.ck (G.cg (fun k q0 q1 => k3 k q0 q1)) ⟨?_, fun r r0 r1 => ?_, fun r b r0 r1 b0 b1 => ?_, fun b b0 b1 => ⟨?_, ?_⟩⟩
    · rw [k1.1]; exact (k3 0 (by omega) (by omega)).symm
    · rw [k1.2.1 r r0 r1]; exact (k3 _ (by omega) (by omega)).symm
    · rw [k1.2.2.1 r b r0 r1 b0 b1]; exact (k3 _ (by omega) (by omega)).symm
    · rw [(k1.2.2.2 b b0 b1).1]; exact (k3 _ (by omega) (by omega)).symm
    · rw [(k1.2.2.2 b b0 b1).2]; exact (k3 _ (by omega) (by omega)).symm
  · have Pi := p7 (i - 1) (by omega) (by omega)
    rw [show ((nw + 1) % 20 + 20 - i) % 20 = (nw + 20 - (i - 1)) % 20 by omega, show ((nw + 1) % 20 + 21 - i) % 20 = (nw + 21 - (i - 1)) % 20 by omega]
    have s0 : 0 ≤ (nw + 20 - (i - 1)) % 20 ∧ (nw + 20 - (i - 1)) % 20 < 20 ∧ (nw + 20 - (i - 1)) % 20 ≠ nw := by omega
    have t0 : 0 ≤ (nw + 21 - (i - 1)) % 20 ∧ (nw + 21 - (i - 1)) % 20 < 20 ∧ (nw + 21 - (i - 1)) % 20 ≠ (nw + 1) % 20 := by omega
    generalize (nw + 20 - (i - 1)) % 20 = s at *
    generalize (nw + 21 - (i - 1)) % 20 = t at *
    have w2 : ∀ k : Int, 0 ≤ k → k < 109 → h2 112 (109 * t + k) = h 112 (109 * t + k) := fun k q0 q1 => k4 _ (by omega)
    have w1 : ∀ k : Int, 0 ≤ k → k < 109 → h2 51 (109 * s + k) = h 51 (109 * s + k) := fun k q0 q1 => k2 _ (by omega)
    have C := Pi.unck
    refine PS.ck ((Pi.1.st S).cg (fun k q0 q1 => w2 k q0 q1)) ⟨?_, fun r r0 r1 => ?_, fun r b r0 r1 b0 b1 => ?_, fun b b0 b1 => ⟨?_, ?_⟩⟩
    · have := w1 0 (by omega) (by omega)
      rw [show 109 * s + 0 = 109 * s by omega] at this
      rw [this, C.1]; exact (w2 0 (by omega) (by omega)).symm
    · have := w1 (1 + r) (by omega) (by omega)
      rw [show 109 * s + (1 + r) = 109 * s + 1 + r by omega] at this
      rw [this, C.2.1 r r0 r1]; exact (w2 _ (by omega) (by omega)).symm
    · have := w1 (9 + (r * 10 + b)) (by omega) (by omega)
      rw [show 109 * s + (9 + (r * 10 + b)) = 109 * s + 9 + (r * 10 + b) by omega] at this
      rw [this, C.2.2.1 r b r0 r1 b0 b1]; exact (w2 _ (by omega) (by omega)).symm
    · have := w1 (89 + b) (by omega) (by omega)
      rw [show 109 * s + (89 + b) = 109 * s + 89 + b by omega] at this
      rw [this, (C.2.2.2 b b0 b1).1]; exact (w2 _ (by omega) (by omega)).symm
    · have := w1 (99 + b) (by omega) (by omega)
      rw [show 109 * s + (99 + b) = 109 * s + 99 + b by omega] at this
      rw [this, (C.2.2.2 b b0 b1).2]; exact (w2 _ (by omega) (by omega)).symm
/-- refused on both sides -/
theorem fin_ref (I : Inv c h) {k : Int} (hk : 0 ≤ k ∧ k < 6) {h2 : Hp} (e : h2 = hu (hu h 59 k (h 59 k + 1)) 70 k (hu h 59 k (h 59 k + 1) 70 k + 1)) : Inv (c + 1) h2 := by
  rw [hu_ne (show (70 : Int) ≠ 59 by decide)] at e
  have T := two_refused I.1.2.1 hk
  rw [← e] at T
  have F := T.2
  have S : Sl h h2 := Sl.of I.2.1.rr F (by decide)
  exact ⟨⟨I.1.1.fr F (by decide), T.1, I.1.2.2.1.fr F (by decide), I.1.2.2.2.1.fr F (by decide), I.1.2.2.2.2.1.fr F (by decide), I.1.2.2.2.2.2.fr F (by decide)⟩, I.2.1.sl S, I.2.2.fr S F (by decide) (by decide) (by decide) (I.2.2.2.2.2.fr F (by decide))⟩
/-- an act: another state, one more is kept -/
theorem Inv.act {h2 : Hp} {L : List (Int × Int)} {R : List Int} (I : Inv c h) (F : Fr h h2 L R) (k1 : okF L R [(1, 1), (68, 1)] [2, 69] = true) (k2 : okF L R [] [59, 70] = true) (k3 : okF L R [(0, 18), (0, 19), (68, 7), (68, 8)] [] = true) (k5 : okF L R [(0, 15), (68, 67), (68, 36)] [57, 115] = true) (k6 : okF L R [(0, 16), (68, 97)] [58, 136] = true) (s : okS L R = true) (J : I4 h2) (G : GS h g) (e : ∀ i : Int, 0 ≤ i → i < 109 → h2 104 i = g i) (X : SX h2 40 g) (P : PA h2) (B : BD h2) : Inv (c + 1) h2 := by
  have S : Sl h h2 := Sl.of I.2.1.rr F s
  exact ⟨⟨I.1.1.fr F k1, (I.1.2.1.fr F k2).up (by omega), I.1.2.2.1.fr F k3, J, I.1.2.2.2.2.1.fr F k5, I.1.2.2.2.2.2.fr F k6⟩, I.2.1.sl S, (G.st S).cg e, X.cg e, P, B⟩
end L2a
