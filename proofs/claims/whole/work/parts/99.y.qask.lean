/-! ask(): the pair of calls -/
abbrev askC : List (Int × Int) := [(1, 2), (1, 3), (1, 4), (1, 5), (3, 1), (5, 2), (5, 3), (5, 4), (0, 18), (0, 19), (1, 1)]
abbrev askY : List (Int × Int) := [(68, 1), (68, 2), (68, 3), (68, 4), (68, 5), (68, 6), (68, 7), (68, 8), (68, 50), (68, 87), (68, 89), (68, 90), (68, 91), (68, 93), (68, 94), (68, 95)]
abbrev askR : List Int := 133 :: 134 :: aqR
section L5N
variable {w : Wd} {h h' h0 h1 h2 : Hp} {K : Int → Hp → Prop} {t : Int → Int} {L : Nat} {c : Int}
theorem QV.fr (V : QV h h') : Fr h h' askC [4] := fun o i m1 m2 => by
  refine V o i (fun x => m1 (by rw [x]; decide)) (fun x => m2 (by rw [x.1, x.2]; decide)) (fun x => m2 ?_) (fun x => m2 ?_)
  · obtain ⟨rfl, x⟩ := x
    rcases (show i = 2 ∨ i = 3 ∨ i = 4 ∨ i = 5 by omega) with rfl | rfl | rfl | rfl <;> decide
  · obtain ⟨rfl, x⟩ := x
    rcases (show i = 2 ∨ i = 3 ∨ i = 4 by omega) with rfl | rfl | rfl <;> decide
theorem QF.fr (V : QF h h') : Fr h h' askY askR := fun o i m1 m2 => by
  refine V o i (fun x => m1 (by rw [x]; decide)) (fun x => m2 ?_) (fun x => m1 (by rw [x]; decide))
  obtain ⟨rfl, x⟩ := x
  rcases x with rfl | rfl | rfl | rfl | rfl | rfl | rfl <;> decide
theorem qu_all {p p' : Nat} {k : Int} {s : List (Int × Int)} (D : quP t L p (.inr (p', (k, s)))) {f : Int → Int} (A : Lst f (s.map Prod.fst)) : ∀ x ∈ s, qR x.1 x.2 := by
  obtain ⟨p1, k1, D1, D⟩ := D.ok
  obtain ⟨p2, s1, D2, D⟩ := D.ok
  rcases D with ⟨-, e⟩ | ⟨-, e⟩
  · have e1 : s = s1 := congrArg (fun z => z.2.2) (Sum.inr.inj e)
    subst e1
    rcases D2 with ⟨-, G⟩ | ⟨-, res, G, e2⟩
    · exact (G.wff A).2.2
    · rcases res with f' | ⟨p3, s3⟩
      · exact nomatch e2
      · have e3 : s = tk s3 := congrArg Prod.snd (Sum.inr.inj e2)
        subst e3
        rw [tk_fst] at A
        exact tk_qR (G.wff (o := 0) A).2.2
  · exact nomatch e
theorem all_at {s : List (Int × Int)} (Q : ∀ x ∈ s, qR x.1 x.2) {f g : Int → Int} (A : Lst f (s.map Prod.fst)) (B : Lst g (s.map Prod.snd)) : ∀ i : Nat, i < s.length → qR (f i) (g i) := fun i hi => by
  have l1 : i < (s.map Prod.fst).length := by rw [List.length_map]; exact hi
  have l2 : i < (s.map Prod.snd).length := by rw [List.length_map]; exact hi
  rw [A i l1, B i l2, List.getD_eq_getElem?_getD, List.getD_eq_getElem?_getD, List.getElem?_eq_getElem l1, List.getElem?_eq_getElem l2, List.getElem_map, List.getElem_map]
  exact Q _ (List.getElem_mem hi)
theorem ask_inv (I : Inv c h) (F1 : Fr h h1 (askC ++ imL) (4 :: (imR ++ taR))) (B : BD h1) (F2 : Fr h1 h2 askY askR) (J1 : I1 h2) (J3 : I3 h2) : Inv (c + 1) h2 := by
  have F := F1.trans F2
  have S : Sl h h2 := Sl.of I.2.1.rr F (by decide)
  exact ⟨⟨J1, (I.1.2.1.fr F (by decide)).up (by omega), J3, I.1.2.2.2.1.fr F (by decide), I.1.2.2.2.2.1.fr F (by decide), I.1.2.2.2.2.2.fr F (by decide)⟩, I.2.1.sl S, I.2.2.fr S F (by decide) (by decide) (by decide) (B.fr F2 (by decide))⟩
theorem y_ask0 (eL : h 68 1 = L) (L16 : L ≤ 1600) (T : ∀ k : Nat, k < L → (0 ≤ t k ∧ t k ≤ 255) ∧ h 69 k = t k) (r36 : inR (h 68 36)) (n36 : h 68 36 ≠ 0) {res : PRes (Int × List (Int × Int))} (D : quP t L 0 res)
    (k1 : ∀ (p' : Nat) (k : Int) (s : List (Int × Int)), res = .inr (p', (k, s)) → 0 ≤ k ∧ k ≤ 5 → ∀ h1 : Hp, h1 68 7 = 0 → h1 68 8 = -1 → h1 68 1 = 0 → h1 68 94 = (if k < 2 then -1 else 0) → h1 68 95 = 1 → h1 68 87 = (s.length : Int) → Lst (h1 133) (s.map Prod.snd) → Fr h h1 askY askR → L_X12_ask_178 w k 0 h1 K)
    (k0 : ∀ f, res = .inl f → ∀ h1, h1 68 7 = f.1 → h1 68 8 = f.2 → h1 68 1 = 0 → 1 ≤ f.1 ∧ f.1 ≤ 5 → Fr h h1 askY askR → K (-1000000000000000) h1) : C_X12_ask w h K := by
  refine c_X12_ask ⟨r36, fun _ h2 q2 h4 q4 h6 q6 h8 q8 h10 q10 h12 q12 h14 q14 h16 q16 h18 q18 h20 q20 => ?_, fun c => absurd n36 c⟩
  rw [eL] at q2
  have e : ∀ i : Int, h20 68 i = if i = 91 then 0 else if i = 90 then 0 else if i = 89 then 0 else if i = 87 then 0 else if i = 6 then -1 else if i = 5 then 0 else if i = 4 then -1 else if i = 2 then 0 else if i = 1 then 0 else if i = 3 then (L : Int) else h 68 i := fun i => by
    rw [q20, hu_if, q18, hu_if, q16, hu_if, q14, hu_if, q12, hu_if, q10, hu_if, q8, hu_if, q6, hu_if, q4, hu_if, q2, hu_if]
  have r20 : ∀ o : Int, o ≠ 68 → h20 o = h o := fun o n => by rw [hu_row q20 n, hu_row q18 n, hu_row q16 n, hu_row q14 n, hu_row q12 n, hu_row q10 n, hu_row q8 n, hu_row q6 n, hu_row q4 n, hu_row q2 n]
  have F20 : Fr h h20 askY askR := fun o i m1 m2 => by
    by_cases d : o = 68
    · subst d
      have m : ∀ j : Int, (68, j) ∈ askY → ¬ i = j := fun j hj x => m2 (by rw [x]; exact hj)
      rw [e, if_neg (m 91 (by decide)), if_neg (m 90 (by decide)), if_neg (m 89 (by decide)), if_neg (m 87 (by decide)), if_neg (m 6 (by decide)), if_neg (m 5 (by decide)), if_neg (m 4 (by decide)), if_neg (m 2 (by decide)), if_neg (m 1 (by decide)), if_neg (m 3 (by decide))]
    · rw [r20 o d]
  have nil : ∀ f : Int → Int, Lst f [] := fun f k hk => absurd hk (Nat.not_lt_zero _)
  have Y : RT t L 0 0 [] [] h20 := by
    refine ⟨⟨⟨by rw [e]; rfl, L16, fun k hk => by rw [r20 69 (by decide)]; exact T k hk, fun _ => by rw [e]; rfl⟩, by rw [e]; rfl, Nat.zero_le _, by rw [e]; rfl, ?_, by rw [e]; exact Int.le_refl _⟩, by rw [e]; rfl, by rw [e]; rfl, by rw [e]; rfl, by rw [e]; rfl, nil _, nil _, fun x hx => absurd hx List.not_mem_nil⟩
    have e4 : h20 68 4 = -1 := by rw [e]; rfl
    rw [e4]
    exact ⟨by decide, fun x => absurd x (by decide), fun g => absurd g.1 (by omega)⟩
  have z1 : h20 68 1 = 0 := by rw [e]; rfl
  refine yc_question Y D (fun p' k s er kb h1 Y1 e87 A V => ?_) (fun f er v h1 B1 V => ?_)
  · have v1 : h1 68 1 = 0 := by rw [V 68 1 (by decide) (by decide) (by decide)]; exact z1
    have e5 : h1 68 5 = 0 := Y1.2.2.2.1
    have e6 : h1 68 6 = -1 := Y1.1.2.2.2 e5
    refine l_X12_ask_128 (fun h45 q45 h47 q47 => ?_)
    have e456 : h45 68 6 = -1 := by rw [q45, hu_if, if_neg (by decide)]; exact e6
    rw [e456] at q47
    rw [e5] at q45
    have z5 : h47 68 5 = 0 := by rw [q47, hu_if, if_neg (by decide), q45, hu_if, if_neg (by decide)]; exact e5
    have fin : ∀ v : Int, v = (if k < 2 then -1 else 0) → ∀ hb, hb = hu h47 68 94 v → ∀ hc, hc = hu hb 68 95 1 → L_X12_ask_178 w k 0 hc K := fun v ev hb qb hc qc => by
      have ec : ∀ i : Int, hc 68 i = if i = 95 then 1 else if i = 94 then v else if i = 8 then -1 else if i = 7 then 0 else h1 68 i := fun i => by rw [qc, hu_if, qb, hu_if, q47, hu_if, q45, hu_if]
      have rc : hc 133 = h1 133 := by rw [hu_row qc (by decide), hu_row qb (by decide), hu_row q47 (by decide), hu_row q45 (by decide)]
      have G1 : Fr h1 h45 [(68, 7)] [] := by rw [q45]; exact Fr.cel
      have G2 : Fr h45 h47 [(68, 8)] [] := by rw [q47]; exact Fr.cel
      have G3 : Fr h47 hb [(68, 94)] [] := by rw [qb]; exact Fr.cel
      have G4 : Fr hb hc [(68, 95)] [] := by rw [qc]; exact Fr.cel
      have G := ((F20.trans V.fr).trans ((G1.trans G2).trans (G3.trans G4))).into (L' := askY) (R' := askR) (by decide)
      exact k1 p' k s er kb hc (by rw [ec]; rfl) (by rw [ec]; rfl) (by rw [ec]; exact v1) (by rw [ec]; exact ev) (by rw [ec]; rfl) (by rw [ec]; exact e87) (by rw [rc]; exact A) G
    rw [z5]
    refine ⟨⟨by decide, by decide⟩, fun _ => ⟨⟨by omega, by omega⟩, fun c2 h51 q51 h53 q53 => fin 0 (by rw [if_neg (by omega)]) h51 q51 h53 q53, fun c2 h55 q55 h57 q57 => fin (-1) (by rw [if_pos (by omega)]) h55 q55 h57 q57⟩, fun c => absurd rfl c⟩
  · have v1 : h1 68 1 = 0 := by rw [V 68 1 (by decide) (by decide) (by decide)]; exact z1
    have e5 : h1 68 5 = f.1 := B1.2.1
    have e6 : h1 68 6 = f.2 := B1.2.2.1
    have b5 := B1.2.2.2.1
    have b6 := B1.2.2.2.2.1
    refine l_X12_ask_128 (fun h45 q45 h47 q47 => ?_)
    have e456 : h45 68 6 = f.2 := by rw [q45, hu_if, if_neg (by decide)]; exact e6
    rw [e456] at q47
    rw [e5] at q45
    have ec : ∀ i : Int, h47 68 i = if i = 8 then f.2 else if i = 7 then f.1 else h1 68 i := fun i => by rw [q47, hu_if, q45, hu_if]
    have G1 : Fr h1 h45 [(68, 7)] [] := by rw [q45]; exact Fr.cel
    have G2 : Fr h45 h47 [(68, 8)] [] := by rw [q47]; exact Fr.cel
    have G := ((F20.trans V.fr).trans (G1.trans G2)).into (L' := askY) (R' := askR) (by decide)
    have z5 : h47 68 5 = f.1 := by rw [ec]; exact e5
    rw [z5]
    exact ⟨⟨by omega, by omega⟩, fun c => absurd c (by omega), fun _ => k0 f er h47 (by rw [ec]; rfl) (by rw [ec]; rfl) (by rw [ec]; exact v1) ⟨b5, b6⟩ G⟩
theorem q_ask (I : Inv c h) : C_X11_ask w h (fun z h1 => inL z ∧ C_X12_ask w h1 (PI c z)) := by
  have R := I.2.1.1
  have rr := I.2.1.rr
  have nr := R.nr
  obtain ⟨a1, a2, a3, a4⟩ := id I.1.1
  obtain ⟨L, eL⟩ : ∃ L : Nat, h 68 1 = L := ⟨(h 68 1).toNat, by omega⟩
  have L16 : L ≤ 1600 := by omega
  have bad : inL (-1000000000000000) := ⟨by decide, by decide⟩
  have T : h 1 1 = L ∧ L ≤ 1600 ∧ ∀ k : Nat, k < L → (0 ≤ h 69 k ∧ h 69 k ≤ 255) ∧ h 2 k % 256 = h 69 k ∧ -128 ≤ h 2 k ∧ h 2 k < 128 := by
    refine ⟨by omega, L16, fun k hk => ?_⟩
    have := a4 k (by omega) (by omega)
    omega
  refine c_X11_ask ⟨ob7 rr, by rw [nr.2.2.1]; exact ⟨by omega, by omega⟩, fun n0 => c_X10_begin (fun h1 q1 h3 q3 h5 q5 h7 q7 => ?_), fun n0 h19 q19 => ⟨bad, ?_⟩⟩
  · rw [nr.2.2.1] at n0
    have e7 : ∀ i : Int, h7 1 i = if i = 5 then -1 else if i = 4 then 0 else if i = 3 then 0 else if i = 2 then 0 else h 1 i := fun i => by rw [q7, hu_if, q5, hu_if, q3, hu_if, q1, hu_if]
    have r7 : ∀ o : Int, o ≠ 1 → h7 o = h o := fun o n => by rw [hu_row q7 n, hu_row q5 n, hu_row q3 n, hu_row q1 n]
    have X7 : XS (h 69) L h7 0 := ⟨⟨by rw [e7]; exact T.1, T.2.1, by rw [r7 2 (by decide)]; exact T.2.2, fun _ => by rw [e7]; rfl⟩, by rw [e7]; rfl, Nat.zero_le _, by rw [e7]; rfl⟩
    have G1 : Fr h h1 [(1, 2)] [] := by rw [q1]; exact Fr.cel
    have G3 : Fr h1 h3 [(1, 3)] [] := by rw [q3]; exact Fr.cel
    have G5 : Fr h3 h5 [(1, 4)] [] := by rw [q5]; exact Fr.cel
    have G7 : Fr h5 h7 [(1, 5)] [] := by rw [q7]; exact Fr.cel
    have F7 : Fr h h7 askC [4] := ((G1.trans G3).trans (G5.trans G7)).into (by decide)
    -- the fault is kept, the tape is cleared
    have keep : ∀ h8, QV h7 h8 → ∀ h9, h9 = hu h8 0 18 (h8 1 4) → ∀ h10, h10 = hu h9 0 19 (h9 1 5) → ∀ h12, h12 = hu h10 1 1 0 → Fr h h12 askC [4] ∧ h12 0 18 = h8 1 4 ∧ h12 0 19 = h8 1 5 ∧ h12 1 1 = 0 ∧ h12 4 = h8 4 ∧ h12 3 = h8 3 := fun h8 V8 h9 q9 h10 q10 h12 q12 => by
      have e15 : h9 1 5 = h8 1 5 := by rw [hu_row q9 (by decide)]
      rw [e15] at q10
      have H9 : Fr h8 h9 [(0, 18)] [] := by rw [q9]; exact Fr.cel
      have H10 : Fr h9 h10 [(0, 19)] [] := by rw [q10]; exact Fr.cel
      have H12 : Fr h10 h12 [(1, 1)] [] := by rw [q12]; exact Fr.cel
      have rw' : ∀ o : Int, o ≠ 0 → o ≠ 1 → h12 o = h8 o := fun o n m => by rw [hu_row q12 m, hu_row q10 n, hu_row q9 n]
      refine ⟨((F7.trans V8.fr).trans ((H9.trans H10).trans H12)).into (by decide), ?_, ?_, ?_, rw' 4 (by decide) (by decide), rw' 3 (by decide) (by decide)⟩
      · rw [hu_row q12 (by decide), q10, hu_if, if_neg (by decide), q9, hu_if, if_pos rfl]
      · rw [hu_row q12 (by decide), q10, hu_if, if_pos rfl]
      · rw [q12, hu_if, if_pos rfl]
    have hi : ∀ {hh : Hp}, Fr h hh (askC ++ imL) (4 :: (imR ++ taR)) → hh 68 = h 68 ∧ hh 69 = h 69 := fun F => ⟨(F.cell (C := []) (W := [68]) (by decide)).2 68 (by decide), (F.cell (C := []) (W := [69]) (by decide)).2 69 (by decide)⟩
    refine x_question (t := h 69) (L := L) X7 (by omega) (fun p' k s D kb h8 X8 e31 s16 A W V8 => ?_) (fun f D h8 B8 V8 => ?_)
    · refine c_X11_keepFault (fun h9 q9 h10 q10 h12 q12 => ?_)
      obtain ⟨F12, z18, z19, z11, r4, r3⟩ := keep h8 V8 h9 q9 h10 q10 h12 q12
      have f4 := X8.2.2.2
      have f5 := X8.1.2.2.2 f4
      rw [f4] at z18
      rw [f5] at z19
      rw [z18]
      refine ⟨⟨by decide, by decide⟩, fun _ => ?_, fun c => absurd rfl c⟩
      have Q := qu_all D A
      have fq : ∀ i : Nat, i < s.length → 0 ≤ h8 4 i ∨ h8 4 i = -20 ∨ h8 4 i = -27 ∨ h8 4 i = -28 ∨ (-14 ≤ h8 4 i ∧ h8 4 i ≤ -1) := fun i hi => by
        have B : Lst (fun i => (s.map Prod.snd).getD i.toNat 0) (s.map Prod.snd) := fun k _ => by show (s.map Prod.snd).getD ((k : Int).toNat) 0 = _; rw [Int.toNat_natCast]
        exact (all_at Q A B i hi).st
      refine x_askAnswer (n := s.length) (f := h8 4) I (Sl.of rr F12 (by decide)) (I.2.2.2.1.fr (Or.inl rfl) F12 (by decide)) (I.2.2.2.2.2.fr F12 (by decide)) kb (by rw [r3]; exact e31) s16 r4 W fq (fun h13 F13 B13 VV zL => ⟨zL, ?_⟩)
      have F13' : Fr h h13 (askC ++ imL) (4 :: (imR ++ taR)) := (F12.trans F13).into (by decide)
      have hi13 := hi F13'
      refine y_ask0 (t := h 69) (L := L) (by rw [hi13.1]; exact eL) L16 (fun k hk => ⟨(T.2.2 k hk).1, by rw [hi13.2]⟩) (by rw [hi13.1, nr.1]; exact ⟨by omega, by omega⟩) (by rw [hi13.1, nr.1]; exact n0) D (fun p2 k2 s2 er kb2 h14 y7 y8 y1 y94 y95 y87 A2 F14 => ?_) (fun f er => nomatch er)
      have ee := Sum.inr.inj er
      have ek : k = k2 := congrArg (fun z => z.2.1) ee
      have es : s = s2 := congrArg (fun z => z.2.2) ee
      subst ek
      subst es
      have F14' := F13'.trans F14
      have e104 : h14 104 = h 104 := (F14'.cell (C := []) (W := [104]) (by decide)).2 104 (by decide)
      refine y_178 (n := s.length) (f := h8 4) I (Sl.of rr F14' (by decide)) (fun i _ _ => by rw [e104]) kb y87 s16 W (fun i hi => all_at Q A A2 i hi) VV y94 y95 (fun h15 F15 => ⟨rfl, ?_⟩)
      have c1 := ((F13.trans (F14.trans F15)).cell (C := [(1, 1), (0, 18), (0, 19)]) (W := []) (by decide)).1
      have c11 := c1 (1, 1) (by decide)
      have c18 := c1 (0, 18) (by decide)
      have c19 := c1 (0, 19) (by decide)
      have d1 := (F15.cell (C := [(68, 1), (68, 7), (68, 8)]) (W := []) (by decide)).1
      have d11 := d1 (68, 1) (by decide)
      have d17 := d1 (68, 7) (by decide)
      have d18 := d1 (68, 8) (by decide)
      dsimp only at c11 c18 c19 d11 d17 d18
      refine ask_inv I F13' B13 ((F14.trans F15).into (by decide)) (I1.nil (by rw [c11]; exact z11) (by rw [d11]; exact y1)) ?_
      unfold I3
      rw [c18, c19, d17, d18, z18, z19, y7, y8]
      exact ⟨rfl, Int.le_refl _, by decide, rfl, Int.le_refl _, by decide⟩
    · refine c_X11_keepFault (fun h9 q9 h10 q10 h12 q12 => ?_)
      obtain ⟨F12, z18, z19, z11, r4, r3⟩ := keep h8 V8 h9 q9 h10 q10 h12 q12
      rw [B8.2.1] at z18
      rw [B8.2.2.1] at z19
      have b1 := B8.2.2.2.1
      have b2 := B8.2.2.2.2
      have fb : 0 ≤ f.2 ∧ f.2 ≤ (L : Int) := quP.fb 0 _ D (Nat.zero_le _)
      rw [z18]
      refine ⟨⟨by omega, by omega⟩, fun c => absurd c (by omega), fun _ => ⟨bad, ?_⟩⟩
      have F13' : Fr h h12 (askC ++ imL) (4 :: (imR ++ taR)) := F12.into (by decide)
      have hi13 := hi F13'
      refine y_ask0 (t := h 69) (L := L) (by rw [hi13.1]; exact eL) L16 (fun k hk => ⟨(T.2.2 k hk).1, by rw [hi13.2]⟩) (by rw [hi13.1, nr.1]; exact ⟨by omega, by omega⟩) (by rw [hi13.1, nr.1]; exact n0) D (fun _ _ _ er => nomatch er) (fun f2 er h14 y7 y8 y1 _ F14 => ⟨rfl, ?_⟩)
      have ee := Sum.inl.inj er
      subst ee
      have c1 := (F14.cell (C := [(1, 1), (0, 18), (0, 19)]) (W := []) (by decide)).1
      have c11 := c1 (1, 1) (by decide)
      have c18 := c1 (0, 18) (by decide)
      have c19 := c1 (0, 19) (by decide)
      dsimp only at c11 c18 c19
      refine ask_inv I F13' (I.2.2.2.2.2.fr F12 (by decide)) F14 (I1.nil (by rw [c11]; exact z11) y1) ?_
      unfold I3
      rw [c18, c19, z18, z19, y7, y8]
      exact ⟨rfl, by omega, by omega, rfl, by omega, by omega⟩
  · rw [nr.2.2.1] at n0
    have F19 : Fr h h19 [(1, 1)] [] := by rw [q19]; exact Fr.cel
    have e36 : h19 68 36 = nrN h := by rw [hu_row q19 (by decide)]; exact nr.1
    refine c_X12_ask ⟨by rw [e36]; exact ⟨by omega, by omega⟩, fun c => absurd c (by rw [e36]; exact n0), fun _ h32 q32 => ⟨rfl, ?_⟩⟩
    have F32 : Fr h19 h32 [(68, 1)] [] := by rw [q32]; exact Fr.cel
    have F3 := F19.trans F32
    exact I.tape F3 (by decide) (by decide) (by decide) (by decide) (by decide) (by decide) (by decide) (by decide) (I1.nil (by rw [hu_row q32 (by decide), q19, hu_if, if_pos rfl]) (by rw [q32, hu_if, if_pos rfl])) (I.1.2.2.2.2.1.fr F3 (by decide)) (I.2.2.2.2.2.fr F3 (by decide))
/-! the seed and the tape's end -/
theorem q_seed (I : Inv c h) {a : Int} (ha : inR a) : C_X11_seed w a h (fun z h1 => (z = 0 ∨ z = 1) → C_X12_seed w a h1 (PI c z)) := by
  refine CGm.mono (p_seed (w := w) ha I.1.2.2.2.1 I.1.2.1) (fun z h1 q zz => CGm.mono (q zz) (fun z2 h2 q2 => ⟨q2.1, ?_⟩))
  obtain ⟨-, F, J4, J2⟩ := q2
  have S : Sl h h2 := Sl.of I.2.1.rr F (by decide)
  exact ⟨⟨I.1.1.fr F (by decide), J2, I.1.2.2.1.fr F (by decide), J4, I.1.2.2.2.2.1.fr F (by decide), I.1.2.2.2.2.2.fr F (by decide)⟩, I.2.1.sl S, I.2.2.fr S F (by decide) (by decide) (by decide) (I.2.2.2.2.2.fr F (by decide))⟩
theorem q_end (I : Inv c h) {a : Int} (ha : inR a) : C_X11_end w a h (fun z h1 => (z = 0 ∨ z = 1) → C_X12_end w a h1 (PI c z)) := by
  refine CGm.mono (p_end (w := w) ha I.1.1 I.1.2.1) (fun z h1 q zz => CGm.mono (q zz) (fun z2 h2 q2 => ⟨q2.1, ?_⟩))
  obtain ⟨-, F, J1, J2⟩ := q2
  have S : Sl h h2 := Sl.of I.2.1.rr F (by decide)
  exact ⟨⟨J1, J2, I.1.2.2.1.fr F (by decide), I.1.2.2.2.1.fr F (by decide), I.1.2.2.2.2.1.fr F (by decide), I.1.2.2.2.2.2.fr F (by decide)⟩, I.2.1.sl S, I.2.2.fr S F (by decide) (by decide) (by decide) (I.2.2.2.2.2.fr F (by decide))⟩
end L5N
