/-! the reference reads: signs, words, numbers -/
/-- where the last word or number ended -/
def EN (t : Int → Int) (e : Int) (p : Nat) : Prop := e ≤ p ∧ (e = p ↔ GL t p)
def YS (t : Int → Int) (L : Nat) (h : Hp) (p : Nat) : Prop := TQ t L h ∧ h 68 2 = p ∧ p ≤ L ∧ h 68 5 = 0 ∧ EN t (h 68 4) p ∧ -1 ≤ h 68 4
def YB (t : Int → Int) (L : Nat) (h : Hp) (kd pl : Int) : Prop := TQ t L h ∧ h 68 5 = kd ∧ h 68 6 = pl ∧ 1 ≤ kd ∧ kd ≤ 5 ∧ 0 ≤ h 68 2 ∧ h 68 2 ≤ L
abbrev tyL : List (Int × Int) := [(68, 2), (68, 4), (68, 5), (68, 6)]
section L3C
variable {w : Wd} {h h0 : Hp} {K : Int → Hp → Prop} {t : Int → Int} {L p : Nat}
theorem TQ.fr {h' : Hp} {Lc : List (Int × Int)} {R : List Int} (T : TQ t L h) (F : Fr h h' Lc R) (ok : okF Lc R [(68, 3), (68, 5), (68, 6)] [69] = true) : TQ t L h' := by
  obtain ⟨c, q⟩ := F.cell ok
  have c1 := c (68, 3) (by decide)
  have c5 := c (68, 5) (by decide)
  have c6 := c (68, 6) (by decide)
  dsimp only at c1 c5 c6
  unfold TQ
  rw [c1, c5, c6, q 69 (by decide)]
  exact T
theorem YS.fr {h' : Hp} {Lc : List (Int × Int)} {R : List Int} (Y : YS t L h p) (F : Fr h h' Lc R) (ok : okF Lc R [(68, 3), (68, 2), (68, 4), (68, 5), (68, 6)] [69] = true) : YS t L h' p := by
  obtain ⟨c, q⟩ := F.cell ok
  have c1 := c (68, 3) (by decide); have c2 := c (68, 2) (by decide); have c3 := c (68, 4) (by decide); have c4 := c (68, 5) (by decide); have c5 := c (68, 6) (by decide)
  dsimp only at c1 c2 c3 c4 c5
  unfold YS TQ
  rw [c1, c2, c3, c4, c5, q 69 (by decide)]
  exact Y
theorem EN.skp {e : Int} (E : EN t e p) : EN t e (sk t L p) := by
  by_cases d : sk t L p = p
  · rw [d]; exact E
  · have g := GL.sk d
    have le := sk_ge t L p
    exact ⟨by have := E.1; omega, ⟨fun q => by have := E.1; omega, fun q => absurd q g⟩⟩
theorem byL_q (T : TQ t L h) (k : Nat) : -1 ≤ byL t L k ∧ byL t L k ≤ 255 := by
  unfold byL
  split
  · rename_i q
    have := (T.2.2.1 k q).1
    omega
  · omega
theorem y_lookR (T : TQ t L h) (e : h 68 2 = p) (hp : p ≤ L) (k : ∀ h1, Fr h h1 [(68, 2)] [] → TQ t L h1 → h1 68 2 = sk t L p → K (byL t L (sk t L p)) h1) : C_X12_look w h K := by
  have b16 := T.2.1
  refine c_X12_look ?_
  suffices ∀ f p : Nat, L - p = f → p ≤ L → ∀ h', Fr h h' [(68, 2)] [] → TQ t L h' → h' 68 2 = p → (∀ h1, Fr h h1 [(68, 2)] [] → TQ t L h1 → h1 68 2 = sk t L p → K (byL t L (sk t L p)) h1) → L_X12_look_0 w h' K from this _ p rfl hp h (Fr.into Fr.refl (by decide)) T e k
  intro f
  induction f with
  | zero =>
    intro p ef hp h' F T e k
    have s := sk_n (t := t) (L := L) (p := p) (fun q => by omega)
    have kk := k h' F T (by rw [s]; exact e)
    rw [s] at kk
    unfold byL at kk
    rw [if_neg (by omega)] at kk
    have e1 := T.1
    refine l_X12_look_0 ?_
    rw [e, e1]
    exact ⟨⟨by omega, by omega⟩, ⟨by omega, by omega⟩, fun _ => ⟨⟨by omega, by omega⟩, ⟨by omega, by omega⟩, fun _ => kk, fun q => absurd (by omega) q⟩, fun q => absurd (by omega) q⟩
  | succ f ih =>
    intro p ef hp h' F T e k
    have e1 := T.1
    have v := T.2.2.1 p (by omega)
    have go : (t p = 32 ∨ t p = 10) → ∀ h10 : Hp, h10 = hu h' 68 2 ((p : Int) + 1) → L_X12_look_0 w h10 K := fun b h10 q10 => by
      have F10 : Fr h' h10 [(68, 2)] [] := by rw [q10]; exact Fr.cel
      have s := sk_y (t := t) (L := L) (p := p) (by omega) b
      rw [s] at k
      exact ih (p + 1) (by omega) (by omega) h10 ((F.trans F10).into (by decide)) (T.fr F10 (by decide)) (by rw [q10, hu_if, if_pos rfl]; rfl) k
    have no : ¬ (t p = 32 ∨ t p = 10) → K (t p) h' := fun b => by
      have s := sk_n (t := t) (L := L) (p := p) (fun q => b q.2)
      have kk := k h' F T (by rw [s]; exact e)
      rw [s] at kk
      unfold byL at kk
      rw [if_pos (by omega)] at kk
      exact kk
    refine l_X12_look_0 ?_
    rw [e, e1, v.2]
    exact ⟨⟨by omega, by omega⟩, ⟨by omega, by omega⟩, fun q => absurd q (by omega), fun _ => ⟨⟨by omega, by omega⟩, ⟨by omega, by omega⟩, fun q => go (Or.inr q), fun q => ⟨⟨by omega, by omega⟩, ⟨by omega, by omega⟩, fun q2 => ⟨⟨by omega, by omega⟩, ⟨by omega, by omega⟩, fun q3 => absurd q3 (by omega), fun _ => ⟨⟨by omega, by omega⟩, no (fun x => x.elim q2 q)⟩⟩, fun q2 => go (Or.inl (Classical.not_not.mp q2))⟩⟩⟩
theorem YS.look (Y : YS t L h p) (k : ∀ h1, Fr h h1 [(68, 2)] [] → YS t L h1 (sk t L p) → K (byL t L (sk t L p)) h1) : C_X12_look w h K := by
  obtain ⟨T, e, hp, e5, E, e4⟩ := Y
  refine y_lookR T e hp (fun h1 F T1 v => k h1 F ⟨T1, v, sk_le hp, ?_, ?_, ?_⟩)
  · rw [← e5]; exact (F.cell (C := [(68, 5)]) (W := []) (by decide)).1 (68, 5) (by decide)
  · have := (F.cell (C := [(68, 4)]) (W := []) (by decide)).1 (68, 4) (by decide)
    dsimp only at this
    rw [this]; exact E.skp
  · have := (F.cell (C := [(68, 4)]) (W := []) (by decide)).1 (68, 4) (by decide)
    dsimp only at this
    rw [this]; exact e4
theorem y_fail {kd pl : Int} (T : TQ t L h) (e : h 68 5 = 0) (a : 0 ≤ h 68 2 ∧ h 68 2 ≤ L) (hk : 1 ≤ kd ∧ kd ≤ 5) (k : ∀ h1, Fr h h1 [(68, 5), (68, 6)] [] → YB t L h1 kd pl → K 0 h1) : C_X12_fail w kd pl h K := by
  refine c_X12_fail ?_
  rw [e]
  refine ⟨⟨by omega, by omega⟩, fun _ h2 q2 h4 q4 => ?_, fun q => absurd rfl q⟩
  have F2 : Fr h h2 [(68, 5)] [] := by rw [q2]; exact Fr.cel
  have F4 : Fr h2 h4 [(68, 6)] [] := by rw [q4]; exact Fr.cel
  have F := F2.trans F4
  have c2 := (F.cell (C := [(68, 2)]) (W := []) (by decide)).1 (68, 2) (by decide)
  have c3 := (F.cell (C := [(68, 3)]) (W := [69]) (by decide)).1 (68, 3) (by decide)
  have c9 := (F.cell (C := [(68, 3)]) (W := [69]) (by decide)).2 69 (by decide)
  dsimp only at c2 c3
  have z5 : h4 68 5 = kd := by rw [q4, hu_if, if_neg (by decide), q2, hu_if, if_pos rfl]
  exact k h4 (F.into (by decide)) ⟨⟨by rw [c3]; exact T.1, T.2.1, by rw [c9]; exact T.2.2.1, fun q => absurd (z5.symm.trans q) (by omega)⟩, z5, by rw [q4, hu_if, if_pos rfl], hk.1, hk.2, by rw [c2]; exact a.1, by rw [c2]; exact a.2⟩
theorem YS.fail {kd pl : Int} (Y : YS t L h p) (hk : 1 ≤ kd ∧ kd ≤ 5) (k : ∀ h1, Fr h h1 tyL [] → YB t L h1 kd pl → K 0 h1) : C_X12_fail w kd pl h K :=
  y_fail Y.1 Y.2.2.2.1 ⟨by rw [Y.2.1]; omega, by rw [Y.2.1]; have := Y.2.2.1; omega⟩ hk (fun h1 F B => k h1 (F.into (by decide)) B)
theorem y_takesSign {c : Int} (Y : YS t L h p) (hc : 0 ≤ c ∧ c ≤ 255) (nl : ¬ isLt c ∧ ¬ isDg c) (k1 : byL t L (sk t L p) = c → sk t L p < L → ∀ h1, Fr h h1 tyL [] → YS t L h1 (sk t L p + 1) → K 1 h1) (k0 : byL t L (sk t L p) ≠ c → ∀ h1, Fr h h1 tyL [] → YS t L h1 (sk t L p) → K 0 h1) : C_X12_takesSign w c h K := by
  refine c_X12_takesSign ?_
  rw [Y.2.2.2.1]
  refine ⟨⟨by omega, by omega⟩, fun q => absurd rfl q, fun _ => Y.look (fun h3 F3 Y3 => ?_)⟩
  have b := byL_q Y3.1 (sk t L p)
  refine ⟨⟨by omega, by omega⟩, ⟨by omega, by omega⟩, fun q h7 q7 => ?_, fun q => k0 q h3 (F3.into (by decide)) Y3⟩
  have lt : sk t L p < L := by
    unfold byL at q
    by_cases d : sk t L p < L
    · exact d
    · rw [if_neg d] at q; omega
  have ev : byL t L (sk t L p) = t (sk t L p) := if_pos lt
  have F7 : Fr h3 h7 [(68, 2)] [] := by rw [q7]; exact Fr.cel
  have c4 := (F7.cell (C := [(68, 4), (68, 5)]) (W := []) (by decide)).1 (68, 4) (by decide)
  have c5 := (F7.cell (C := [(68, 4), (68, 5)]) (W := []) (by decide)).1 (68, 5) (by decide)
  dsimp only at c4 c5
  obtain ⟨T3, e3, hp3, e5, E3, e4⟩ := Y3
  refine k1 q lt h7 ((F3.trans F7).into (by decide)) ⟨T3.fr F7 (by decide), by rw [q7, hu_if, if_pos rfl, e3]; omega, lt, by rw [c5]; exact e5, ?_, by rw [c4]; exact e4⟩
  rw [c4]
  refine ⟨by have := E3.1; omega, ⟨fun x => by have := E3.1; omega, fun x => ?_⟩⟩
  have := x.2
  rw [show sk t L p + 1 - 1 = sk t L p by omega, ← ev, q] at this
  exact absurd this (fun y => y.elim nl.1 nl.2)
theorem y_asksSign {c : Int} (Y : YS t L h p) (hc : 0 ≤ c ∧ c ≤ 255) (nl : ¬ isLt c ∧ ¬ isDg c) (k1 : byL t L (sk t L p) = c → sk t L p < L → ∀ h1, Fr h h1 tyL [] → YS t L h1 (sk t L p + 1) → K 0 h1) (k0 : byL t L (sk t L p) ≠ c → ∀ h1, Fr h h1 tyL [] → YB t L h1 1 (sk t L p) → K 0 h1) : C_X12_asksSign w c h K := by
  refine c_X12_asksSign ?_
  rw [Y.2.2.2.1]
  refine ⟨⟨by omega, by omega⟩, fun q => absurd rfl q, fun _ => y_takesSign Y hc nl (fun q lt h1 F1 Y1 _ => ⟨fun _ => k1 q lt h1 F1 Y1, fun c => absurd (by decide) c⟩) (fun q h1 F1 Y1 _ => ⟨fun c => absurd rfl c, fun _ => ?_⟩)⟩
  rw [Y1.2.1]
  exact Y1.fail ⟨by decide, by decide⟩ (fun h6 F6 B6 => k0 q h6 ((F1.trans F6).into (by decide)) B6)
/-- a fault is told already: nothing happens -/
theorem yb_asksSign {c kd pl : Int} (B : YB t L h kd pl) (k : K 0 h) : C_X12_asksSign w c h K := by
  have b := B.2.2.2
  refine c_X12_asksSign ?_
  rw [B.2.1]
  exact ⟨⟨by omega, by omega⟩, fun _ => k, fun q => absurd (by omega) q⟩
theorem yb_takesSign {c kd pl : Int} (B : YB t L h kd pl) (k : K 0 h) : C_X12_takesSign w c h K := by
  have b := B.2.2.2
  refine c_X12_takesSign ?_
  rw [B.2.1]
  exact ⟨⟨by omega, by omega⟩, fun _ => k, fun q => absurd (by omega) q⟩
theorem y_isHere {row : Int} {n : Nat} {f : Int → Int} (hr : Ar 3 n row) (hn : 0 < n ∧ n ≤ 100) (hf : ∀ i : Nat, i < n → cw row i = f i ∧ isLt (f i)) (Y : YS t L h p) (k1 : isW t L (sk t L p) n f → ∀ h1, Fr h h1 tyL [] → YS t L h1 (sk t L p) → K 1 h1) (k0 : ¬ isW t L (sk t L p) n f → ∀ h1, Fr h h1 tyL [] → YS t L h1 (sk t L p) → K 0 h1) : C_X12_isHere w row h K := by
  refine c_X12_isHere hr ?_
  rw [Y.2.2.2.1]
  refine ⟨⟨by omega, by omega⟩, fun q => absurd rfl q, fun _ => Y.look (fun h3 F3 Y3 => ?_)⟩
  have G3 : Fr h h3 tyL [] := F3.into (by decide)
  obtain ⟨q, hq⟩ : ∃ q, q = sk t L p := ⟨_, rfl⟩
  rw [← hq] at Y3 k1 k0 ⊢
  have b := byL_q Y3.1 q
  have first : isW t L q n f → isLt (byL t L q) := fun W => by
    have a := W.2.1 0 (by omega)
    have lt := (hf 0 (by omega)).2
    have e : byL t L q = t q := if_pos (by have := W.1; omega)
    rw [e]
    have a2 : t (q : Int) = f 0 := a
    rw [a2]; exact lt
  have yes : YS t L h3 q := Y3
  obtain ⟨T3, e3, hp3, e5, E3, e4⟩ := Y3
  have bb := T3.2.1
  refine ⟨⟨by omega, by omega⟩, fun g => k0 (fun W => by have := first W; omega) h3 G3 yes, fun g => ⟨⟨by omega, by omega⟩, fun g2 => k0 (fun W => by have := first W; omega) h3 G3 yes, fun g2 => ?_⟩⟩
  rw [e3]
  refine ⟨⟨by omega, by omega⟩, ⟨by omega, by have := E3.1; omega⟩, fun g3 => ?_, fun g3 => k0 (fun W => W.2.2.2 (E3.2.mp (Classical.not_not.mp g3).symm)) h3 G3 yes⟩
  have ng : ¬ GL t q := fun x => g3 (E3.2.mpr x).symm
  -- how long the row of letters is
  have L76 : (∀ m : Nat, m < n → q + m < L ∧ isLt (t (q + m : Nat))) → ¬ isLt (byL t L (q + n)) → ∀ j i : Nat, i + j = n → (∀ m : Nat, m < i → t (q + m : Nat) = f m) → L_X12_isHere_76 w row i h3 K := by
    intro V nl j
    induction j with
    | zero =>
      intro i e A
      obtain rfl : i = n := e
      refine l_X12_isHere_76 hr ⟨⟨by omega, by omega⟩, fun _ => k1 ⟨by have := (V (i - 1) (by omega)).1; omega, A, nl, ng⟩ h3 G3 yes, fun c => absurd (Int.le_refl _) c⟩
    | succ j ih =>
      intro i e A
      have v := V i (by omega)
      have tv := T3.2.2.1 (q + i) v.1
      have fi := hf i (by omega)
      refine l_X12_isHere_76 hr ?_
      rw [e3, show (q : Int) + (i : Int) = ((q + i : Nat) : Int) by omega, tv.2, fi.1]
      refine ⟨⟨by omega, by omega⟩, fun c => absurd c (by show ¬ (i : Int) ≥ (n : Int); omega), fun _ => ⟨⟨by omega, by omega⟩, ⟨by omega, by omega⟩, ⟨by omega, by omega⟩, ⟨by omega, by omega⟩, fun c => ih (i + 1) (by omega) (fun m hm => ?_), fun c => k0 (fun W => c (W.2.1 i (by omega))) h3 G3 yes⟩⟩
      by_cases d : m = i
      · rw [d]; exact c
      · exact A m (by omega)
  suffices ∀ j i : Nat, q + i + j = L → (∀ m : Nat, m < i → q + m < L ∧ isLt (t (q + m : Nat))) → L_X12_isHere_35 w row ((q + i : Nat) : Int) h3 K by
    have := this (L - q) 0 (by omega) (fun m hm => by omega)
    exact this
  intro j
  induction j with
  | zero =>
    intro i e V
    refine l_X12_isHere_35 hr ?_
    rw [T3.1, e3]
    refine ⟨⟨by omega, by omega⟩, ⟨by omega, by omega⟩, fun _ => ⟨⟨by omega, by omega⟩, fun c => ?_, fun c => k0 (fun W => c ?_) h3 G3 yes⟩, fun c => absurd (by omega) c⟩
    · have c : ((q + i : Nat) : Int) - q = (n : Int) := c
      obtain rfl : i = n := by omega
      exact L76 V (fun x => by unfold byL at x; rw [if_neg (by omega)] at x; omega) i 0 (by omega) (fun m hm => by omega)
    · show ((q + i : Nat) : Int) - q = (n : Int)
      have w1 := W.1
      by_cases d : i < n
      · omega
      · by_cases d2 : n < i
        · have v := V n d2
          exact absurd (by unfold byL; rw [if_pos v.1]; exact v.2) W.2.2.1
        · omega
  | succ j ih =>
    intro i e V
    have tv := T3.2.2.1 (q + i) (by omega)
    have stop : ¬ isLt (t (q + i : Nat)) → (inR (((q + i : Nat) : Int) - q)) ∧ (((((q + i : Nat) : Int) - q) = (Int.ofNat n) → (L_X12_isHere_76 w row 0 h3 K)) ∧ (¬ ((((q + i : Nat) : Int) - q) = (Int.ofNat n)) → (K 0 h3))) := fun nl => by
      have eb : byL t L (q + i) = t (q + i : Nat) := if_pos (by omega)
      refine ⟨⟨by omega, by omega⟩, fun c => ?_, fun c => k0 (fun W => c ?_) h3 G3 yes⟩
      · have c : ((q + i : Nat) : Int) - q = (n : Int) := c
        obtain rfl : i = n := by omega
        exact L76 V (by rw [eb]; exact nl) i 0 (by omega) (fun m hm => by omega)
      · show ((q + i : Nat) : Int) - q = (n : Int)
        by_cases d : i < n
        · have a := W.2.1 i d
          have lt := (hf i d).2
          rw [← a] at lt
          exact absurd lt nl
        · by_cases d2 : n < i
          · have v := V n d2
            exact absurd (by unfold byL; rw [if_pos v.1]; exact v.2) W.2.2.1
          · omega
    refine l_X12_isHere_35 hr ?_
    rw [T3.1, e3, tv.2]
    refine ⟨⟨by omega, by omega⟩, ⟨by omega, by omega⟩, fun c => absurd c (by omega), fun _ => ⟨⟨by omega, by omega⟩, ⟨by omega, by omega⟩, fun c => stop (fun x => by omega), fun c => ⟨⟨by omega, by omega⟩, fun c2 => stop (fun x => by omega), fun c2 => ?_⟩⟩⟩
    have := ih (i + 1) (by omega) (fun m hm => by
      by_cases d : m = i
      · rw [d]; exact ⟨by omega, by omega, by omega⟩
      · exact V m (by omega))
    exact this
theorem y_takes {row : Int} {n : Nat} {f : Int → Int} (hr : Ar 3 n row) (hn : 0 < n ∧ n ≤ 100) (hf : ∀ i : Nat, i < n → cw row i = f i ∧ isLt (f i)) (Y : YS t L h p) (k1 : isW t L (sk t L p) n f → ∀ h1, Fr h h1 tyL [] → YS t L h1 (sk t L p + n) → K 1 h1) (k0 : ¬ isW t L (sk t L p) n f → ∀ h1, Fr h h1 tyL [] → YS t L h1 (sk t L p) → K 0 h1) : C_X12_takes w row h K := by
  refine c_X12_takes hr (y_isHere hr hn hf Y (fun W h2 F2 Y2 _ => ⟨fun _ h4 q4 h6 q6 => ?_, fun c => absurd (by decide) c⟩) (fun W h2 F2 Y2 _ => ⟨fun c => absurd rfl c, fun _ => k0 W h2 F2 Y2⟩))
  have F4 : Fr h2 h4 [(68, 2)] [] := by rw [q4]; exact Fr.cel
  have F6 : Fr h4 h6 [(68, 4)] [] := by rw [q6]; exact Fr.cel
  have F := F4.trans F6
  obtain ⟨T3, e3, hp3, e5, E3, e4⟩ := Y2
  have z2 : h4 68 2 = ((sk t L p + n : Nat) : Int) := by rw [q4, hu_if, if_pos rfl, e3]; show _ + (n : Int) = _; omega
  have z5 := (F.cell (C := [(68, 5)]) (W := []) (by decide)).1 (68, 5) (by decide)
  dsimp only at z5
  have z4 : h6 68 4 = ((sk t L p + n : Nat) : Int) := by rw [q6, hu_if, if_pos rfl, z2]
  refine k1 W h6 ((F2.trans F).into (by decide)) ⟨T3.fr F (by decide), by rw [q6, hu_if, if_neg (by decide), z2], W.1, by rw [z5]; exact e5, ?_, by rw [z4]; omega⟩
  rw [z4]
  refine ⟨by omega, ⟨fun _ => ⟨by omega, Or.inl ?_⟩, fun _ => by omega⟩⟩
  have a := W.2.1 (n - 1) (by omega)
  rw [show sk t L p + n - 1 = sk t L p + (n - 1) by omega, a]
  exact (hf (n - 1) (by omega)).2
theorem y_asks {row : Int} {n : Nat} {f : Int → Int} (hr : Ar 3 n row) (hn : 0 < n ∧ n ≤ 100) (hf : ∀ i : Nat, i < n → cw row i = f i ∧ isLt (f i)) (Y : YS t L h p) (k1 : isW t L (sk t L p) n f → ∀ h1, Fr h h1 tyL [] → YS t L h1 (sk t L p + n) → K 0 h1) (k0 : ¬ isW t L (sk t L p) n f → ∀ h1, Fr h h1 tyL [] → YB t L h1 1 (sk t L p) → K 0 h1) : C_X12_asks w row h K := by
  refine c_X12_asks hr ?_
  rw [Y.2.2.2.1]
  refine ⟨⟨by omega, by omega⟩, fun q => absurd rfl q, fun _ => y_takes hr hn hf Y (fun W h1 F1 Y1 _ => ⟨fun _ => k1 W h1 F1 Y1, fun c => absurd (by decide) c⟩) (fun W h1 F1 Y1 _ => ⟨fun c => absurd rfl c, fun _ => ?_⟩)⟩
  rw [Y1.2.1]
  exact Y1.fail ⟨by decide, by decide⟩ (fun h6 F6 B6 => k0 W h6 ((F1.trans F6).into (by decide)) B6)
theorem yb_asks {row kd pl : Int} {n : Nat} (hr : Ar 3 n row) (B : YB t L h kd pl) (k : K 0 h) : C_X12_asks w row h K := by
  have b := B.2.2.2
  refine c_X12_asks hr ?_
  rw [B.2.1]
  exact ⟨⟨by omega, by omega⟩, fun _ => k, fun q => absurd (by omega) q⟩
theorem yb_isHere {row kd pl : Int} {n : Nat} (hr : Ar 3 n row) (B : YB t L h kd pl) (k : K 0 h) : C_X12_isHere w row h K := by
  have b := B.2.2.2
  refine c_X12_isHere hr ?_
  rw [B.2.1]
  exact ⟨⟨by omega, by omega⟩, fun _ => k, fun q => absurd (by omega) q⟩
theorem yb_takes {row kd pl : Int} {n : Nat} (hr : Ar 3 n row) (B : YB t L h kd pl) (k : K 0 h) : C_X12_takes w row h K :=
  c_X12_takes hr (yb_isHere hr B (fun _ => ⟨fun c => absurd rfl c, fun _ => k⟩))
theorem yb_number {lo hi kd pl : Int} (B : YB t L h kd pl) (k : K 0 h) : C_X12_number w lo hi h K := by
  have b := B.2.2.2
  refine c_X12_number ?_
  rw [B.2.1]
  exact ⟨⟨by omega, by omega⟩, fun q => absurd q (by omega), fun _ => k⟩
theorem y_number {lo hi : Int} (hlo : inR lo) (hhi : inR hi) (Y : YS t L h p) (k1 : ∀ v n, NV t L (sk t L p) lo hi v n → ∀ h1, Fr h h1 tyL [] → YS t L h1 (sk t L p + n) → K v h1) (k0 : ∀ z kd pl, NF t L (sk t L p) lo hi kd pl → ∀ h1, Fr h h1 tyL [] → YB t L h1 kd pl → 0 ≤ z → z ≤ 9999 → K z h1) : C_X12_number w lo hi h K := by
  refine c_X12_number ?_
  rw [Y.2.2.2.1]
  refine ⟨⟨by omega, by omega⟩, fun _ => Y.look (fun h3 F3 Y3 => ?_), fun q => absurd rfl q⟩
  have G3 : Fr h h3 tyL [] := F3.into (by decide)
  obtain ⟨q, hq⟩ : ∃ q, q = sk t L p := ⟨_, rfl⟩
  rw [← hq] at Y3 k1 k0 ⊢
  have b := byL_q Y3.1 q
  have bad : (¬ isDg (byL t L q) ∨ GL t q) → L_X12_number_30 w h3 K := fun c => l_X12_number_30 (by rw [Y3.2.1]; exact Y3.fail ⟨by decide, by decide⟩ (fun h6 F6 B6 => k0 0 1 q (Or.inl ⟨rfl, rfl, c⟩) h6 ((G3.trans F6).into (by decide)) B6 (by omega) (by omega)))
  have e3 := Y3.2.1
  have E3 := Y3.2.2.2.2.1
  have bb := Y3.1.2.1
  have hp3 := Y3.2.2.1
  have e4 := Y3.2.2.2.2.2
  refine ⟨⟨by omega, by omega⟩, fun g => bad (Or.inl (fun x => by omega)), fun g => ⟨⟨by omega, by omega⟩, fun g2 => bad (Or.inl (fun x => by omega)), fun g2 => ?_⟩⟩
  rw [e3]
  refine ⟨⟨by omega, by omega⟩, ⟨by omega, by have := E3.1; omega⟩, fun g3 => ?_, fun g3 => bad (Or.inr (E3.2.mp (Classical.not_not.mp g3).symm))⟩
  have ng : ¬ GL t q := fun x => g3 (E3.2.mpr x).symm
  -- its end
  have L129 : ∀ n : Nat, 1 ≤ n → n ≤ 4 → q + n ≤ L → (∀ i : Nat, i < n → isDg (t (q + i : Nat))) → ¬ isDg (byL t L (q + n)) → ∀ h', Fr h h' tyL [] → YS t L h' (q + n) → L_X12_number_129 w lo hi q (nvT t q n) h' K := by
    intro n n1 n4 nL dg nd h' F' Y'
    have nb := nvT_b (t := t) (q := q) n n4 dg
    refine l_X12_number_129 (fun h29 q29 => ?_)
    rw [Y'.2.1] at q29
    have F29 : Fr h' h29 [(68, 4)] [] := by rw [q29]; exact Fr.cel
    obtain ⟨T', e', hp', e5', E', e4'⟩ := Y'
    have z4 : h29 68 4 = ((q + n : Nat) : Int) := by rw [q29, hu_if, if_pos rfl]
    have z := F29.cell (C := [(68, 5), (68, 2)]) (W := []) (by decide)
    have z5 := z.1 (68, 5) (by decide); have z2 := z.1 (68, 2) (by decide)
    dsimp only at z5 z2
    have Y29 : YS t L h29 (q + n) := ⟨T'.fr F29 (by decide), by rw [z2]; exact e', hp', by rw [z5]; exact e5', by
      rw [z4]
      refine ⟨by omega, ⟨fun _ => ⟨by omega, Or.inr ?_⟩, fun _ => by omega⟩⟩
      have := dg (n - 1) (by omega)
      rwa [show q + n - 1 = q + (n - 1) by omega], by rw [z4]; omega⟩
    have G29 : Fr h h29 tyL [] := (F'.trans F29).into (by decide)
    have rng : ¬ (lo ≤ nvT t q n ∧ nvT t q n ≤ hi) → C_X12_fail w 2 q h29 (fun _ h37 => L_X12_number_156 w (nvT t q n) h37 K) := fun no => Y29.fail ⟨by decide, by decide⟩ (fun h6 F6 B6 => l_X12_number_156 (k0 _ 2 q (Or.inr (Or.inr ⟨rfl, rfl, ng, n, n1, n4, nL, dg, nd, no⟩)) h6 ((G29.trans F6).into (by decide)) B6 nb.1 nb.2))
    exact ⟨⟨by omega, by omega⟩, hlo, hhi, ⟨by omega, by omega⟩, ⟨by omega, by omega⟩, fun c => rng (fun x => by omega), fun c => ⟨⟨by omega, by omega⟩, ⟨by omega, by omega⟩, fun c2 => rng (fun x => by omega), fun c2 => l_X12_number_156 (k1 _ n ⟨ng, n1, n4, nL, dg, nd, rfl, by omega, by omega⟩ h29 G29 Y29)⟩⟩
  suffices ∀ j n : Nat, n + j = 5 → q + n ≤ L → (∀ i : Nat, i < n → isDg (t (q + i : Nat))) → (n = 0 → isDg (byL t L q)) → n ≤ 4 → ∀ h', Fr h h' tyL [] → TQ t L h' → h' 68 2 = ((q + n : Nat) : Int) → h' 68 5 = 0 → h' 68 4 = h3 68 4 → L_X12_number_49 w lo hi q (nvT t q n) h' K from this 5 0 (by omega) hp3 (fun i hi0 => by omega) (fun _ => ⟨by omega, by omega⟩) (by omega) h3 G3 Y3.1 e3 Y3.2.2.2.1 rfl
  intro j
  induction j with
  | zero => intro n e _ _ _ n4; omega
  | succ j ih =>
    intro n e nL dg z n4 h' F' T' e2' e5' e4'
    have b := byL_q T' (q + n)
    have En : ∀ n1 : 1 ≤ n, ¬ isDg (byL t L (q + n)) → YS t L h' (q + n) ∨ True := fun _ _ => Or.inr trivial
    have stop : ¬ isDg (byL t L (q + n)) → L_X12_number_129 w lo hi q (nvT t q n) h' K := fun nd => by
      have n1 : 1 ≤ n := by
        by_cases n0 : n = 0
        · subst n0; exact absurd (z rfl) nd
        · omega
      have nb := nvT_b (t := t) (q := q) n n4 dg
      -- here ended isn't yet what it is to be
      refine l_X12_number_129 (fun h29 q29 => ?_)
      rw [e2'] at q29
      have F29 : Fr h' h29 [(68, 4)] [] := by rw [q29]; exact Fr.cel
      have z4 : h29 68 4 = ((q + n : Nat) : Int) := by rw [q29, hu_if, if_pos rfl]
      have zz := F29.cell (C := [(68, 5), (68, 2)]) (W := []) (by decide)
      have z5 := zz.1 (68, 5) (by decide); have z2 := zz.1 (68, 2) (by decide)
      dsimp only at z5 z2
      have Y29 : YS t L h29 (q + n) := ⟨T'.fr F29 (by decide), by rw [z2]; exact e2', nL, by rw [z5]; exact e5', by
        rw [z4]
        refine ⟨by omega, ⟨fun _ => ⟨by omega, Or.inr ?_⟩, fun _ => by omega⟩⟩
        have := dg (n - 1) (by omega)
        rwa [show q + n - 1 = q + (n - 1) by omega], by rw [z4]; omega⟩
      have G29 : Fr h h29 tyL [] := (F'.trans F29).into (by decide)
      have rng : ¬ (lo ≤ nvT t q n ∧ nvT t q n ≤ hi) → C_X12_fail w 2 q h29 (fun _ h37 => L_X12_number_156 w (nvT t q n) h37 K) := fun no => Y29.fail ⟨by decide, by decide⟩ (fun h6 F6 B6 => l_X12_number_156 (k0 _ 2 q (Or.inr (Or.inr ⟨rfl, rfl, ng, n, n1, n4, nL, dg, nd, no⟩)) h6 ((G29.trans F6).into (by decide)) B6 nb.1 nb.2))
      exact ⟨⟨by omega, by omega⟩, hlo, hhi, ⟨by omega, by omega⟩, ⟨by omega, by omega⟩, fun c => rng (fun x => by omega), fun c => ⟨⟨by omega, by omega⟩, ⟨by omega, by omega⟩, fun c2 => rng (fun x => by omega), fun c2 => l_X12_number_156 (k1 _ n ⟨ng, n1, n4, nL, dg, nd, rfl, by omega, by omega⟩ h29 G29 Y29)⟩⟩
    refine l_X12_number_49 ?_
    rw [e2', T'.1]
    refine ⟨⟨by omega, by omega⟩, ⟨by omega, by omega⟩, fun c => stop (fun x => by unfold byL at x; rw [if_neg (by omega)] at x; omega), fun c => ?_⟩
    have lt : q + n < L := by omega
    have tv := T'.2.2.1 (q + n) lt
    have ev : byL t L (q + n) = t (q + n : Nat) := if_pos lt
    rw [tv.2]
    refine ⟨⟨by omega, by omega⟩, ⟨by omega, by omega⟩, fun g => stop (fun x => by omega), fun g => ⟨⟨by omega, by omega⟩, fun g2 => stop (fun x => by omega), fun g2 => ⟨⟨by omega, by omega⟩, fun g4 => ⟨⟨by omega, by omega⟩, fun h20 q20 => ?_⟩, fun g4 => ?_⟩⟩⟩
    · have F20 : Fr h' h20 [(68, 2)] [] := by rw [q20]; exact Fr.cel
      have zz := F20.cell (C := [(68, 5), (68, 4)]) (W := []) (by decide)
      have z5 := zz.1 (68, 5) (by decide); have z4 := zz.1 (68, 4) (by decide)
      dsimp only at z5 z4
      have := ih (n + 1) (by omega) (by omega) (fun i hi1 => by
        by_cases d : i = n
        · subst d; exact ⟨by omega, by omega⟩
        · exact dg i (by omega)) (fun c => by omega) (by omega) h20 ((F'.trans F20).into (by decide)) (T'.fr F20 (by decide)) (by rw [q20, hu_if, if_pos rfl]; omega) (by rw [z5]; exact e5') (by rw [z4]; exact e4')
      exact this
    · have n4' : n = 4 := by omega
      subst n4'
      refine y_fail T' e5' ⟨by rw [e2']; omega, by rw [e2']; omega⟩ ⟨by decide, by decide⟩ (fun h6 F6 B6 => k0 0 1 _ (Or.inr (Or.inl ⟨rfl, rfl, ng, fun i hi5 => ?_⟩)) h6 ((F'.trans F6).into (by decide)) B6 (by omega) (by omega))
      by_cases d : i < 4
      · exact ⟨by omega, dg i d⟩
      · obtain rfl : i = 4 := by omega
        exact ⟨lt, by omega, by omega⟩
end L3C
