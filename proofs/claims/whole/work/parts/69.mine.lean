/-! the pairs of mine and keep -/
section L2n
variable {w : Wd} {c : Int} {h h0 : Hp} {K : Int → Hp → Prop} {g st st' : Int → Int} {r lv : Int}
/-- stones in one reach alone -/
def onS (p : Int) (l : Int) : Int → Int := fun x => if x = p then l else 0
theorem x_seekHeld (IBh : IB h0) (G : GS h0 g) (hl : 0 ≤ lv ∧ lv ≤ 9) (A : AX h0 h (h0 0 4) 40 lv st g) (C0 : CX h0 (h0 0 4) lv st g) {b due : Int} (hb : 0 ≤ b ∧ b < nbN h0) (hd : inR due) (k : ∀ h1, Fr h h1 maL maR → BD h1 → ((h1 66 2 = -1 ∧ ∀ l : Nat, l < 3 → ¬ PS2 h0 lv g b due (onS (plP h0 b) l)) ∨ (∃ l : Nat, l < 3 ∧ h1 66 2 = l ∧ PS2 h0 lv g b due (onS (plP h0 b) l) ∧ (∀ l' : Nat, l' < l → ¬ PS2 h0 lv g b due (onS (plP h0 b) l')) ∧ ∀ x : Int, 0 ≤ x → x < 8 → h1 67 x = onS (plP h0 b) l x)) → K 0 h1) : C_X3_seekHeld w b due h K := by
  have R := IBh.1
  have hn := R.nb
  have hnr := R.nr
  have bk := R.bk hb.1 hb.2
  have pb : 0 ≤ plP h0 b ∧ plP h0 b < h0 68 36 := bk.2.2.1.2
  obtain ⟨p, hp⟩ : ∃ p, p = plP h0 b := ⟨_, rfl⟩
  have CC : ∀ l : Nat, l < 3 → CX h0 (h0 0 4) lv (onS p l) g := fun l hl3 => ⟨R, rfl, IBh.2.2.1, hl, fun x x0 x1 => by unfold onS; split <;> omega, G⟩
  refine c_X3_seekHeld (x_begin (fun h2 F2 e2 V2 => ?_))
  have S2 : Sl h0 h2 := by
    have a1 := A.1
    exact a1.tr (Sl.of (by rw [a1.1]; exact IBh.1.1) F2 (by decide))
  have z := (F2.cell (C := [(61, 5), (61, 6), (61, 7)]) (W := []) (by decide)).1
  have z5 : h2 61 5 = h0 0 4 := (z (61, 5) (by decide)).trans A.2.1
  have z6 : h2 61 6 = 40 := (z (61, 6) (by decide)).trans A.2.2.1
  have z7 : h2 61 7 = lv := (z (61, 7) (by decide)).trans A.2.2.2.1
  have r10 : h2 (h0 0 4 + 10) b = p := by rw [S2.2.2.2.1 _ (by omega) (by omega), hp]; exact bk.2.2.1.1
  rw [z5, r10]
  refine ⟨R.ob, ⟨hb.1, by omega⟩, ?_⟩
  rw [← hp] at k pb
  suffices ∀ j l : Nat, l + j = 3 → ∀ h', Fr h h' maL maR → BD h' → Sl h0 h' → h' 61 5 = h0 0 4 → h' 61 6 = 40 → h' 61 7 = lv → SX h' 40 g → (∀ x : Int, 0 ≤ x → x < 8 → x ≠ p → h' 62 x = 0) → ((h' 66 2 = -1 ∧ ∀ l' : Nat, l' < l → ¬ PS2 h0 lv g b due (onS p l')) ∨ (∃ l' : Nat, l' < 3 ∧ h' 66 2 = l' ∧ PS2 h0 lv g b due (onS p l') ∧ (∀ l2 : Nat, l2 < l' → ¬ PS2 h0 lv g b due (onS p l2)) ∧ ∀ x : Int, 0 ≤ x → x < 8 → h' 67 x = onS p l' x)) → L_X3_seekHeld_20 w b due p l h' K from this 3 0 (by omega) h2 (F2.into (by decide)) (A.2.2.2.2.2.2.fr F2 (by decide)) S2 z5 z6 z7 (A.2.2.2.2.2.1.fr (Or.inl rfl) F2 (by decide)) (fun x x0 x1 _ => V2 x x0 x1) (Or.inl ⟨e2, fun l' hl' => by omega⟩)
  intro j
  induction j with
  | zero =>
    intro l e h' F B S z5 z6 z7 X V RS
    obtain rfl : l = 3 := e
    refine l_X3_seekHeld_20 ⟨⟨by omega, by omega⟩, fun _ => k h' F B RS, fun q => absurd (by omega) q⟩
  | succ j ih =>
    intro l e h' F B S z5 z6 z7 X V RS
    rcases RS with ⟨e66, no⟩ | ⟨l', q1, q2, q3, q4, q5⟩
    · refine l_X3_seekHeld_20 ?_
      rw [e66]
      refine ⟨⟨by omega, by omega⟩, fun q => absurd q (by omega), fun _ => ⟨⟨by omega, by omega⟩, fun q => absurd rfl q, fun _ => ⟨⟨by omega, by omega⟩, fun h9 q9 => ?_⟩⟩⟩
      have F9 : Fr h' h9 [] [62] := by rw [q9]; exact Fr.row
      have n62 : ∀ o : Int, o ≠ 62 → h9 o = h' o := ne_row F9
      have S9 : Sl h0 h9 := S.tr (Sl.of (by rw [S.1]; exact IBh.1.1) F9 (by decide))
      have A9 : AX h0 h9 (h0 0 4) 40 lv (onS p l) g := ⟨S9, by rw [n62 61 (by decide)]; exact z5, by rw [n62 61 (by decide)]; exact z6, by rw [n62 61 (by decide)]; exact z7, fun x x0 x1 => by
        rw [q9, hu_if]
        unfold onS
        by_cases d : x = p
        · rw [if_pos d, if_pos d]
        · rw [if_neg d, if_neg d]; exact V x x0 x1 d, X.fr (Or.inl rfl) F9 (by decide), B.fr F9 (by decide)⟩
      have gb := GS.hl G (b := b) ⟨hb.1, by omega⟩
      have cb := cr_b (CC l (by omega)) (b := b) ⟨hb.1, by omega⟩ 0
      rw [A9.2.2.1, show h9 (40 + 3) b = g (9 + b) from (A9.2.2.2.2.2.1.2.2.1 b hb.1 (by omega)).1]
      refine ⟨ob_40, ⟨hb.1, by omega⟩, x_cutOf (CC l (by omega)) (Or.inl rfl) A9 hb (fun h14 F14 A14 => ⟨⟨by omega, by omega⟩, hd, fun q => ?_, fun q => ?_⟩)⟩
      · refine ih (l + 1) (by omega) h14 ((F.trans (F9.trans F14)).into (by decide)) A14.2.2.2.2.2.2 A14.1 A14.2.1 A14.2.2.1 A14.2.2.2.1 A14.2.2.2.2.2.1 (fun x x0 x1 d => by rw [A14.2.2.2.2.1 x x0 x1]; unfold onS; rw [if_neg d]) (Or.inl ⟨?_, fun l' hl' => ?_⟩)
        · have := ((F9.trans F14).cell (C := [(66, 2)]) (W := []) (by decide)).1 (66, 2) (by decide)
          exact this.trans e66
        · by_cases d : l' = l
          · subst d; intro pp; unfold PS2 at pp; omega
          · exact no l' (by omega)
      · refine x_keepBest (fun h19 F19 e19 V19 => ?_)
        have A19 := A14.fr (CC l (by omega)) (Or.inl rfl) F19 (by decide) (by decide) (by decide) (A14.2.2.2.2.2.2.fr F19 (by decide))
        have s62 : sm 8 (h14 62) = l := by
          have e1 := sm_upd (n := 8) (f := fun _ => 0) (g := h14 62) (k := p) ⟨by omega, by omega⟩ (fun x x0 x1 d => by rw [A14.2.2.2.2.1 x x0 x1]; unfold onS; rw [if_neg d])
          rw [e1, sm_zero (fun _ _ _ => rfl), A14.2.2.2.2.1 p (by omega) (by omega)]
          unfold onS; rw [if_pos rfl]; omega
        refine ih (l + 1) (by omega) h19 ((F.trans (F9.trans (F14.trans F19))).into (by decide)) A19.2.2.2.2.2.2 A19.1 A19.2.1 A19.2.2.1 A19.2.2.2.1 A19.2.2.2.2.2.1 (fun x x0 x1 d => by rw [A19.2.2.2.2.1 x x0 x1]; unfold onS; rw [if_neg d]) (Or.inr ⟨l, by omega, by rw [e19, s62], (show due ≤ _ by omega), no, fun x x0 x1 => by rw [V19 x x0 x1]; exact A14.2.2.2.2.1 x x0 x1⟩)
    · refine l_X3_seekHeld_20 ?_
      rw [q2]
      exact ⟨⟨by omega, by omega⟩, fun q => absurd q (by omega), fun _ => ⟨⟨by omega, by omega⟩, fun _ => k h' F B (Or.inr ⟨l', q1, q2, q3, q4, q5⟩), fun q => absurd (by omega) q⟩⟩
theorem x_answer {a : Int} (ha : inR a) (hb : inR (h 66 2)) (k : K (if h 66 2 = -1 then -1 else if 0 ≤ a ∧ a < 8 then h 67 a else h 66 2) h) : C_X3_answer w a h K := by
  refine c_X3_answer ⟨hb, fun q => ?_, fun q => ⟨ha, fun q2 => ?_, fun q2 => ⟨ha, fun q3 => ⟨⟨by omega, by omega⟩, ?_⟩, fun q3 => ?_⟩⟩⟩
  · rw [if_pos q] at k; rw [q]; exact k
  · rw [if_neg q, if_neg (by omega)] at k; exact k
  · rw [if_neg q, if_pos ⟨by omega, q3⟩] at k; exact k
  · rw [if_neg q, if_neg (by omega)] at k; exact k
theorem y_stonesTold {a : Int} (ha : a = -1 ∨ (0 ≤ a ∧ a < 8)) (hb : inR (h 68 65)) (k : K (if h 68 65 = -1 then -1 else if 0 ≤ a ∧ a < 8 then h 113 a else h 68 65) h) : C_X12_stonesTold w a h K := by
  refine c_X12_stonesTold ⟨hb, fun q => ⟨⟨by omega, by omega⟩, fun q2 => ⟨⟨by omega, by omega⟩, ?_⟩, fun q2 => ?_⟩, fun q => ?_⟩
  · rw [if_neg q, if_pos (by omega)] at k; exact k
  · rw [if_neg q, if_neg (by omega)] at k; exact k
  · rw [if_pos (Classical.not_not.mp q)] at k; exact k
theorem x_isStoneQ (R : RR h (h 0 4)) {a : Int} (ha : inR a) (k1 : a = -1 ∨ (0 ≤ a ∧ a < nrN h) → K 1 h) (k0 : ¬ (a = -1 ∨ (0 ≤ a ∧ a < nrN h)) → K 0 h) : C_X11_isStoneQuestion w a h K := by
  refine c_X11_isStoneQuestion ⟨ha, fun q => k1 (Or.inl q), fun q => ⟨R.ob, x_hasReach R ha (fun g _ => ⟨fun c => absurd c (by decide), fun _ => k1 (Or.inr g)⟩) (fun g _ => ⟨fun _ => k0 (fun q2 => q2.elim q g), fun c => absurd rfl c⟩)⟩⟩
/-- both searches found the same -/
theorem fin_stones {P : (Int → Int) → Prop} {n : Nat} {b1 b2 : Int} {q1 q2 : Nat} {f1 f2 : Int → Int} {a : Int} (hn : n ≤ 8) (ha : a = -1 ∨ (0 ≤ a ∧ a < n)) (R1 : Rs P n (3 ^ n) b1 q1) (R2 : Rs P n (3 ^ n) b2 q2) (V1 : b1 ≠ -1 → ∀ x : Int, 0 ≤ x → x < n → f1 x = dgt n q1 x) (V2 : b2 ≠ -1 → ∀ x : Int, 0 ≤ x → x < n → f2 x = dgt n q2 x) : (if b2 = -1 then -1 else if 0 ≤ a ∧ a < 8 then f2 a else b2) = (if b1 = -1 then -1 else if 0 ≤ a ∧ a < 8 then f1 a else b1) ∧ inR (if b1 = -1 then -1 else if 0 ≤ a ∧ a < 8 then f1 a else b1) ∧ inR b1 ∧ inR b2 := by
  have u := R1.uniq R2
  have e := u.1
  subst e
  have bb : -1 ≤ b1 ∧ b1 ≤ 16 := by
    rcases R1 with ⟨e, _⟩ | ⟨_, _, e, _⟩
    · omega
    · have := dsum_b n q1; omega
  by_cases d : b1 = -1
  · rw [if_pos d, if_pos d]; exact ⟨rfl, ⟨by omega, by omega⟩, ⟨by omega, by omega⟩, ⟨by omega, by omega⟩⟩
  · rw [if_neg d, if_neg d]
    have eq := u.2 d
    subst eq
    by_cases d2 : 0 ≤ a ∧ a < 8
    · rw [if_pos d2, if_pos d2, V1 d a (by omega) (by omega), V2 d a (by omega) (by omega)]
      have := dgt_b n q1 a
      exact ⟨rfl, ⟨by omega, by omega⟩, ⟨by omega, by omega⟩, ⟨by omega, by omega⟩⟩
    · rw [if_neg d2, if_neg d2]; exact ⟨rfl, ⟨by omega, by omega⟩, ⟨by omega, by omega⟩, ⟨by omega, by omega⟩⟩
theorem fin_mine {h1 h2 : Hp} {L : List (Int × Int)} {R : List Int} (I : Inv c h) (F1 : Fr h h1 ([(61, 5), (61, 6), (61, 7)] ++ maL) ([62] ++ maR)) (B : BD h1) (F2 : Fr h1 h2 skL skR) : Inv (c + 1) h2 :=
  I.look (by omega) (F1.trans F2) (B.fr F2 (by decide)) (by decide) (by decide) (by decide) (by decide) (by decide) (by decide) (by decide) (by decide) (by decide) (by decide)
theorem q_mine (I : Inv c h) {o x lv s a : Int} (ho : inR o) (hx : inR x) (hlv : inR lv) (hs : inR s) (ha : inR a) : C_X11_mine w o x lv s a h (fun z h1 => inR z ∧ C_X12_mine w o x lv s a h1 (PI c z)) := by
  have R := I.2.1.1
  have nr := R.nr
  have ow := R.ow
  have ii := I.up (c' := c + 1) (by omega)
  have no : ¬ ((0 ≤ o ∧ o < h 93 3) ∧ (0 ≤ x ∧ x < nrN h) ∧ (0 ≤ lv ∧ lv ≤ 9) ∧ (0 ≤ s ∧ s ≤ 1000) ∧ (a = -1 ∨ (0 ≤ a ∧ a < nrN h))) → inR (-1) ∧ C_X12_mine w o x lv s a h (PI c (-1)) := fun q => by
    refine ⟨⟨by decide, by decide⟩, c_X12_mine ?_⟩
    rw [nr.1]
    exact ⟨ho, ⟨by omega, by omega⟩, ⟨by omega, by omega⟩, fun _ => ⟨rfl, ii⟩, fun _ => ⟨⟨by omega, by omega⟩, ⟨by omega, by omega⟩, fun _ => ⟨rfl, ii⟩, fun _ => ⟨hx, ⟨by omega, by omega⟩, ⟨by omega, by omega⟩, fun _ => ⟨rfl, ii⟩, fun _ => ⟨⟨by omega, by omega⟩, ⟨by omega, by omega⟩, fun _ => ⟨rfl, ii⟩, fun _ => ⟨hlv, ⟨by omega, by omega⟩, fun _ => ⟨rfl, ii⟩, fun _ => ⟨⟨by omega, by omega⟩, fun _ => ⟨rfl, ii⟩, fun _ => ⟨hs, ⟨by omega, by omega⟩, fun _ => ⟨rfl, ii⟩, fun _ => ⟨⟨by omega, by omega⟩, fun _ => ⟨rfl, ii⟩, fun _ => ⟨ha, fun _ => by omega, fun _ => ⟨ha, ⟨by omega, by omega⟩, ⟨by omega, by omega⟩, fun _ => ⟨rfl, ii⟩, fun _ => ⟨⟨by omega, by omega⟩, ⟨by omega, by omega⟩, fun _ => ⟨rfl, ii⟩, fun _ => by omega⟩⟩⟩⟩⟩⟩⟩⟩⟩⟩⟩
  refine c_X11_mine ?_
  rw [ow.1]
  refine ⟨R.ob, ho, fun _ => no (by omega), fun _ => ⟨ho, ⟨by omega, by omega⟩, fun _ => no (by omega), fun _ => ⟨R.ob, x_hasReach R hx (fun g _ => ⟨fun c => absurd c (by decide), fun _ => ⟨hlv, fun _ => no (by omega), fun _ => ⟨hlv, fun _ => no (by omega), fun _ => ⟨hs, fun _ => no (by omega), fun _ => ⟨hs, fun _ => no (by omega), fun _ => x_isStoneQ R ha (fun ga _ => ⟨fun _ => ⟨R.ob, ?_⟩, fun c => absurd (by decide) c⟩) (fun ga _ => ⟨fun c => absurd rfl c, fun _ => no (fun q => ga q.2.2.2.2)⟩)⟩⟩⟩⟩⟩) (fun g _ => ⟨fun _ => no (fun q => g q.2.1), fun c => absurd rfl c⟩)⟩⟩⟩
  have C := I.cx (lv := lv) ⟨by omega, by omega⟩
  obtain ⟨xn, rfl⟩ : ∃ xn : Nat, x = xn := ⟨x.toNat, by omega⟩
  have hl : 0 ≤ lv ∧ lv ≤ 9 := by omega
  refine x_aim R rfl (Or.inl rfl) Sl.rf I.2.2.2.1 I.2.2.2.2.2 (fun h18 F18 A18 => x_seekShare I.2.1 I.2.2.1 hl A18 C ho hs (x := xn) (by omega) (fun h21 q1 F21 B21 RS1 V1 => ?_))
  have RU := Rs.up (m := xn + 1) (n := nrN h) (by omega) (fun f g e => by
    unfold PS1
    rw [sh_cg (st := f) (st' := g) (fun y y0 y1 => e y y0 (by omega))]) RS1
  have VU : h21 66 2 ≠ -1 → ∀ y : Int, 0 ≤ y → y < nrN h → h21 67 y = dgt (nrN h) (q1 * 3 ^ (nrN h - (xn + 1))) y := fun d y y0 y1 => by
    rw [V1 d y y0 (by omega), dgt_ext (by omega)]
  have FF := F18.trans F21
  have S21 : Sl h h21 := Sl.of I.2.1.rr FF (by decide)
  have e104 : h21 104 = h 104 := (FF.cell (C := []) (W := [104]) (by decide)).2 104 (by decide)
  have bb : -1 ≤ h21 66 2 ∧ h21 66 2 ≤ 16 := by
    rcases RU with ⟨e, _⟩ | ⟨_, _, e, _⟩
    · omega
    · have := dsum_b (nrN h) (q1 * 3 ^ (nrN h - (xn + 1))); omega
  refine x_answer ha ⟨by omega, by omega⟩ ?_
  have seek : C_X12_seeksStones w o xn (-1) lv s h21 (fun _ h19 => C_X12_stonesTold w a h19 (fun r21 h22 => PI c (if h21 66 2 = -1 then -1 else if 0 ≤ a ∧ a < 8 then h21 67 a else h21 66 2) r21 h22)) := by
    refine y_seeks I.2.1 I.2.2.1 hl S21 (fun i _ _ => by rw [e104]) hs (P := PS1 h lv (h 104) o xn s) (Or.inl ⟨rfl, ho, xn, rfl, by omega, rfl⟩) (fun h2 q2 F2 RS2 V2 => ?_)
    have fs := fin_stones (f1 := h21 67) (f2 := h2 113) nr.2.1 ga RU RS2 VU V2
    refine y_stonesTold (by omega) fs.2.2.2 ⟨fs.1, fin_mine (L := []) (R := []) I FF B21 F2⟩
  have fs := fin_stones (f1 := h21 67) (f2 := h21 67) nr.2.1 ga RU RU VU VU
  refine ⟨fs.2.1, c_X12_mine ?_⟩
  rw [(sl_nb I S21).2.2.1, show h21 93 3 = h 93 3 from S21.2.2.2.2.1 3 (by omega)]
  exact ⟨ho, ⟨by omega, by omega⟩, ⟨by omega, by omega⟩, fun _ => by omega, fun _ => ⟨⟨by omega, by omega⟩, ⟨by omega, by omega⟩, fun _ => by omega, fun _ => ⟨hx, ⟨by omega, by omega⟩, ⟨by omega, by omega⟩, fun _ => by omega, fun _ => ⟨⟨by omega, by omega⟩, ⟨by omega, by omega⟩, fun _ => by omega, fun _ => ⟨hlv, ⟨by omega, by omega⟩, fun _ => by omega, fun _ => ⟨⟨by omega, by omega⟩, fun _ => by omega, fun _ => ⟨hs, ⟨by omega, by omega⟩, fun _ => by omega, fun _ => ⟨⟨by omega, by omega⟩, fun _ => by omega, fun _ => ⟨ha, fun _ => seek, fun _ => ⟨ha, ⟨by omega, by omega⟩, ⟨by omega, by omega⟩, fun _ => by omega, fun _ => ⟨⟨by omega, by omega⟩, ⟨by omega, by omega⟩, fun _ => by omega, fun _ => seek⟩⟩⟩⟩⟩⟩⟩⟩⟩⟩⟩
theorem q_keep (I : Inv c h) {b lv s a : Int} (hb : inR b) (hlv : inR lv) (hs : inR s) (ha : inR a) : C_X11_keep w b lv s a h (fun z h1 => inR z ∧ C_X12_keep w b lv s a h1 (PI c z)) := by
  have R := I.2.1.1
  have nr := R.nr
  have nb := R.nb
  have ii := I.up (c' := c + 1) (by omega)
  have no : ¬ ((0 ≤ b ∧ b < nbN h) ∧ (0 ≤ lv ∧ lv ≤ 9) ∧ (0 ≤ s ∧ s ≤ 99) ∧ (a = -1 ∨ (0 ≤ a ∧ a < nrN h))) → inR (-1) ∧ C_X12_keep w b lv s a h (PI c (-1)) := fun q => by
    refine ⟨⟨by decide, by decide⟩, c_X12_keep ?_⟩
    rw [nr.1, nb.1]
    exact ⟨hb, ⟨by omega, by omega⟩, ⟨by omega, by omega⟩, fun _ => ⟨rfl, ii⟩, fun _ => ⟨⟨by omega, by omega⟩, ⟨by omega, by omega⟩, fun _ => ⟨rfl, ii⟩, fun _ => ⟨hlv, ⟨by omega, by omega⟩, fun _ => ⟨rfl, ii⟩, fun _ => ⟨⟨by omega, by omega⟩, fun _ => ⟨rfl, ii⟩, fun _ => ⟨hs, ⟨by omega, by omega⟩, fun _ => ⟨rfl, ii⟩, fun _ => ⟨⟨by omega, by omega⟩, fun _ => ⟨rfl, ii⟩, fun _ => ⟨ha, fun _ => by omega, fun _ => ⟨ha, ⟨by omega, by omega⟩, ⟨by omega, by omega⟩, fun _ => ⟨rfl, ii⟩, fun _ => ⟨⟨by omega, by omega⟩, ⟨by omega, by omega⟩, fun _ => ⟨rfl, ii⟩, fun _ => by omega⟩⟩⟩⟩⟩⟩⟩⟩⟩
  refine c_X11_keep ⟨R.ob, x_hasBank R hb (fun g _ => ⟨fun c => absurd c (by decide), fun _ => ⟨hlv, fun _ => no (by omega), fun _ => ⟨hlv, fun _ => no (by omega), fun _ => ⟨hs, fun _ => no (by omega), fun _ => ⟨hs, fun _ => no (by omega), fun _ => x_isStoneQ R ha (fun ga _ => ⟨fun _ => ⟨R.ob, ?_⟩, fun c => absurd (by decide) c⟩) (fun ga _ => ⟨fun c => absurd rfl c, fun _ => no (fun q => ga q.2.2.2)⟩)⟩⟩⟩⟩⟩) (fun g _ => ⟨fun _ => no (fun q => g q.1), fun c => absurd rfl c⟩)⟩
  have C := I.cx (lv := lv) ⟨by omega, by omega⟩
  have hl : 0 ≤ lv ∧ lv ≤ 9 := by omega
  have bk := R.bk g.1 g.2
  have pb : 0 ≤ plP h b ∧ plP h b < h 68 36 := bk.2.2.1.2
  obtain ⟨p, hp⟩ : ∃ p : Nat, plP h b = p := ⟨(plP h b).toNat, by omega⟩
  refine x_aim R rfl (Or.inl rfl) Sl.rf I.2.2.2.1 I.2.2.2.2.2 (fun h18 F18 A18 => x_seekHeld I.2.1 I.2.2.1 hl A18 C g hs (fun h21 F21 B21 RS1 => ?_))
  have hP : ∀ f f' : Int → Int, f p = f' p → (PS2 h lv (h 104) b s f ↔ PS2 h lv (h 104) b s f') := fun f f' e => by
    unfold PS2
    rw [cu_cg (st := f) (st' := f') (by rw [hp]; exact e)]
  have pn : p < nrN h := by omega
  -- one reach's stones as a row
  have eo : ∀ l : Nat, l < 3 → dgt (nrN h) (l * 3 ^ (nrN h - 1 - p)) p = onS (plP h b) l p := fun l hl3 => by
    unfold onS dgt
    rw [if_pos hp.symm, if_pos ⟨by omega, by omega⟩, Int.toNat_natCast, Nat.mul_div_cancel _ (Nat.pow_pos (by decide)), Nat.mod_eq_of_lt hl3]
  obtain ⟨q1, RU, VU⟩ : ∃ q1, Rs (PS2 h lv (h 104) b s) (nrN h) (3 ^ nrN h) (h21 66 2) q1 ∧ (h21 66 2 ≠ -1 → ∀ y : Int, 0 ≤ y → y < nrN h → h21 67 y = dgt (nrN h) q1 y) := by
    rcases RS1 with ⟨e, n0⟩ | ⟨l, l3, e, y1, n1, v1⟩
    · refine ⟨0, ?_, fun d => absurd e d⟩
      rw [e]
      exact Rs.none pn hP (fun l' l3 pp => n0 l' l3 ((hP _ _ (eo l' l3)).mp pp)) 0
    · refine ⟨l * 3 ^ (nrN h - 1 - p), ?_, fun _ y y0 y2 => ?_⟩
      · rw [e]
        exact Rs.one pn hP l3 ((hP _ _ (eo l l3)).mpr y1) (fun l' ll pp => n1 l' ll ((hP _ _ (eo l' (by omega))).mp pp))
      · rw [v1 y y0 (by omega)]
        unfold onS
        by_cases d : y = p
        · rw [if_pos (by omega), d]
          have := eo l l3
          unfold onS at this
          rw [if_pos hp.symm] at this
          exact this.symm
        · rw [if_neg (by omega)]
          unfold dgt
          rw [if_pos ⟨y0, y2⟩]
          by_cases d2 : y < p
          · have e2 : nrN h - 1 - y.toNat = (nrN h - 1 - p) + ((p - y.toNat - 1) + 1) := by omega
            have : l * 3 ^ (nrN h - 1 - p) / 3 ^ (nrN h - 1 - y.toNat) = 0 := by
              rw [Nat.div_eq_zero_iff_lt (Nat.pow_pos (by decide)), e2, Nat.pow_add, Nat.mul_comm]
              refine Nat.mul_lt_mul_of_pos_left ?_ (Nat.pow_pos (by decide))
              have : 1 ≤ 3 ^ (p - y.toNat - 1) := Nat.pow_pos (by decide)
              rw [Nat.pow_succ]; omega
            rw [this]; rfl
          · have e2 : nrN h - 1 - p = (nrN h - 1 - y.toNat) + ((y.toNat - p - 1) + 1) := by omega
            rw [e2, Nat.pow_add, ← Nat.mul_assoc, Nat.mul_comm l, Nat.mul_assoc, Nat.mul_div_cancel_left _ (Nat.pow_pos (by decide)), Nat.pow_succ, ← Nat.mul_assoc, Nat.mul_mod_left]; rfl
  clear RS1
  have FF := F18.trans F21
  have S21 : Sl h h21 := Sl.of I.2.1.rr FF (by decide)
  have e104 : h21 104 = h 104 := (FF.cell (C := []) (W := [104]) (by decide)).2 104 (by decide)
  have fs := fin_stones (f1 := h21 67) (f2 := h21 67) nr.2.1 ga RU RU VU VU
  refine x_answer ha fs.2.2.1 ?_
  have seek : C_X12_seeksStones w (-1) (-1) b lv s h21 (fun _ h19 => C_X12_stonesTold w a h19 (fun r21 h22 => PI c (if h21 66 2 = -1 then -1 else if 0 ≤ a ∧ a < 8 then h21 67 a else h21 66 2) r21 h22)) := by
    refine y_seeks I.2.1 I.2.2.1 hl S21 (fun i _ _ => by rw [e104]) hs (P := PS2 h lv (h 104) b s) (Or.inr ⟨g.1, g.2, rfl⟩) (fun h2 q2 F2 RS2 V2 => ?_)
    have fs := fin_stones (f1 := h21 67) (f2 := h2 113) nr.2.1 ga RU RS2 VU V2
    refine y_stonesTold (by omega) fs.2.2.2 ⟨fs.1, fin_mine (L := []) (R := []) I FF B21 F2⟩
  refine ⟨fs.2.1, c_X12_keep ?_⟩
  rw [(sl_nb I S21).1, (sl_nb I S21).2.2.1]
  exact ⟨hb, ⟨by omega, by omega⟩, ⟨by omega, by omega⟩, fun _ => by omega, fun _ => ⟨⟨by omega, by omega⟩, ⟨by omega, by omega⟩, fun _ => by omega, fun _ => ⟨hlv, ⟨by omega, by omega⟩, fun _ => by omega, fun _ => ⟨⟨by omega, by omega⟩, fun _ => by omega, fun _ => ⟨hs, ⟨by omega, by omega⟩, fun _ => by omega, fun _ => ⟨⟨by omega, by omega⟩, fun _ => by omega, fun _ => ⟨ha, fun _ => seek, fun _ => ⟨ha, ⟨by omega, by omega⟩, ⟨by omega, by omega⟩, fun _ => by omega, fun _ => ⟨⟨by omega, by omega⟩, ⟨by omega, by omega⟩, fun _ => by omega, fun _ => seek⟩⟩⟩⟩⟩⟩⟩⟩⟩
end L2n
