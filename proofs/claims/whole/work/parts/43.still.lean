/-! what stays while a river stands; the river's formulas on both sides -/
def subF (L : List (Int × Int)) (R : List Int) (L' : List (Int × Int)) (R' : List Int) : Bool := L.all (fun p => L'.contains p || R'.contains p.1) && R.all (fun o => R'.contains o)
theorem Fr.into {h h' : Hp} {L L' : List (Int × Int)} {R R' : List Int} (a : Fr h h' L R) (ok : subF L R L' R' = true) : Fr h h' L' R' := by
  unfold subF at ok
  rw [Bool.and_eq_true] at ok
  refine a.sub (fun p hp => ?_) (fun o ho => ?_)
  · have := List.all_eq_true.mp ok.1 p hp
    simpa using this
  · have := List.all_eq_true.mp ok.2 o ho
    simpa using this
/-- the live places of the river: the class's objects, the reference's rows -/
def Sl (h0 h : Hp) : Prop := h 0 4 = h0 0 4 ∧ h 0 5 = h0 0 5 ∧ h 68 36 = h0 68 36 ∧ (∀ o : Int, h0 0 4 ≤ o → o < h0 0 4 + 17 → h o = h0 o) ∧ (∀ i : Int, 3 ≤ i → h 93 i = h0 93 i) ∧ (∀ i : Int, 30 ≤ i → h 94 i = h0 94 i) ∧ (∀ i : Int, 8 ≤ i → h 95 i = h0 95 i) ∧ (∀ i : Int, 50 ≤ i → h 96 i = h0 96 i) ∧ (∀ i : Int, 3 ≤ i → h 97 i = h0 97 i) ∧ (∀ i : Int, 2 ≤ i → h 98 i = h0 98 i) ∧ (∀ i : Int, 2 ≤ i → h 99 i = h0 99 i) ∧ (∀ i : Int, 1600 ≤ i → h 100 i = h0 100 i)
def okS (L : List (Int × Int)) (R : List Int) : Bool := R.all (fun o => (decide (o < 6) || decide (40 ≤ o)) && (decide (o < 93) || decide (100 < o)) && o != 0 && o != 68) && L.all (fun p => ((decide (40 ≤ p.1) && (decide (p.1 < 93) || decide (100 < p.1))) || decide (p.1 < 6)) && p != (0, 4) && p != (0, 5) && p != (68, 36))
theorem Sl.rf {h : Hp} : Sl h h := ⟨rfl, rfl, rfl, fun _ _ _ => rfl, fun _ _ => rfl, fun _ _ => rfl, fun _ _ => rfl, fun _ _ => rfl, fun _ _ => rfl, fun _ _ => rfl, fun _ _ => rfl, fun _ _ => rfl⟩
theorem Sl.tr {h0 h1 h2 : Hp} (a : Sl h0 h1) (b : Sl h1 h2) : Sl h0 h2 := by
  obtain ⟨a1, a2, a3, a4, a5, a6, a7, a8, a9, aA, aB, aC⟩ := a
  obtain ⟨b1, b2, b3, b4, b5, b6, b7, b8, b9, bA, bB, bC⟩ := b
  refine ⟨b1.trans a1, b2.trans a2, b3.trans a3, fun o h0 h1 => (b4 o (by omega) (by omega)).trans (a4 o h0 h1), fun i q => (b5 i q).trans (a5 i q), fun i q => (b6 i q).trans (a6 i q), fun i q => (b7 i q).trans (a7 i q), fun i q => (b8 i q).trans (a8 i q), fun i q => (b9 i q).trans (a9 i q), fun i q => (bA i q).trans (aA i q), fun i q => (bB i q).trans (aB i q), fun i q => (bC i q).trans (aC i q)⟩
theorem Sl.of {h0 h : Hp} {L : List (Int × Int)} {R : List Int} (e : h0 0 4 = 6 ∨ h0 0 4 = 23) (F : Fr h0 h L R) (ok : okS L R = true) : Sl h0 h := by
  unfold okS at ok
  rw [Bool.and_eq_true] at ok
  obtain ⟨k1, k2⟩ := ok
  have kR : ∀ o : Int, o ∈ R → (o < 6 ∨ 40 ≤ o) ∧ (o < 93 ∨ 100 < o) ∧ o ≠ 0 ∧ o ≠ 68 := fun o ho => by
    have := List.all_eq_true.mp k1 o ho
    simpa [and_assoc] using this
  have kL : ∀ p : Int × Int, p ∈ L → ((40 ≤ p.1 ∧ (p.1 < 93 ∨ 100 < p.1)) ∨ p.1 < 6) ∧ p ≠ (0, 4) ∧ p ≠ (0, 5) ∧ p ≠ (68, 36) := fun p hp => by
    have := List.all_eq_true.mp k2 p hp
    simpa [and_assoc] using this
  have row : ∀ o i : Int, (6 ≤ o ∧ o < 40) ∨ (93 ≤ o ∧ o ≤ 100) → h o i = h0 o i := fun o i q => F o i (fun g => by have := kR o g; omega) (fun g => by have := (kL _ g).1; dsimp only at this; omega)
  refine ⟨F 0 4 (fun g => (kR _ g).2.2.1 rfl) (fun g => (kL _ g).2.1 rfl), F 0 5 (fun g => (kR _ g).2.2.1 rfl) (fun g => (kL _ g).2.2.1 rfl), F 68 36 (fun g => (kR _ g).2.2.2 rfl) (fun g => (kL _ g).2.2.2 rfl), fun o q1 q2 => ?_, fun i _ => row _ _ (by omega), fun i _ => row _ _ (by omega), fun i _ => row _ _ (by omega), fun i _ => row _ _ (by omega), fun i _ => row _ _ (by omega), fun i _ => row _ _ (by omega), fun i _ => row _ _ (by omega), fun i _ => row _ _ (by omega)⟩
  funext i
  exact row o i (by omega)
theorem RR.st {h0 h : Hp} {r : Int} (R : RR h0 r) (S : Sl h0 h) (e : r = h0 0 4) : RR h r := by
  obtain ⟨-, -, s3, s4, s5, -, s7, s8, s9, -, -, -⟩ := S
  rw [← e] at s4
  have e0 := s4 r (by omega) (by omega)
  have e1 := s4 (r + 1) (by omega) (by omega)
  have e3 := s4 (r + 3) (by omega) (by omega)
  have e5 := s4 (r + 5) (by omega) (by omega)
  have e7 := s4 (r + 7) (by omega) (by omega)
  have e8 := s4 (r + 8) (by omega) (by omega)
  have e9 := s4 (r + 9) (by omega) (by omega)
  have eA := s4 (r + 10) (by omega) (by omega)
  have eB := s4 (r + 11) (by omega) (by omega)
  have eC := s4 (r + 12) (by omega) (by omega)
  obtain ⟨q1, q2, q3, q4, q5, q6, q7, q8, q9⟩ := R
  unfold RR
  rw [e0, e1, e3, e5, e7, e8, e9, eA, eB, eC, s3, s5 3 (by omega), s5 4 (by omega), s5 5 (by omega), s9 3 (by omega), s9 4 (by omega), s9 5 (by omega)]
  refine ⟨q1, q2, q3, q4, q5, fun i h0 h1 => ?_, fun b h0 h1 => ?_, q8, q9⟩
  · rw [s7 (8 + i) (by omega)]; exact q6 i h0 h1
  · rw [s8 (50 + 5 * b + 0) (by omega), s8 (50 + 5 * b + 1) (by omega), s8 (50 + 5 * b + 2) (by omega), s8 (50 + 5 * b + 3) (by omega), s8 (50 + 5 * b + 4) (by omega)]; exact q7 b h0 h1
theorem tAll.st {h0 h : Hp} (S : Sl h0 h) : tAll h = tAll h0 := by
  unfold tAll
  refine sm_congr fun b h0 h1 => ?_
  rw [S.2.2.2.2.1 5 (by omega), S.2.2.2.2.2.2.2.1 (50 + 5 * b + 3) (by omega)]
theorem GS.st {h0 h : Hp} {g : Int → Int} (G : GS h0 g) (S : Sl h0 h) : GS h g := by
  unfold GS at G ⊢
  rw [tAll.st S, S.2.2.1, S.2.2.2.2.1 5 (by omega)]
  exact G
/-- a formula on both sides: the class's object o, the reference's number a -/
def FQ (h : Hp) (o a : Int) : Prop := (h o 1 = 0 ∧ h 98 (2 + a) = -1) ∨ ∃ n : Nat, 0 < n ∧ n ≤ 1600 ∧ h o 1 = n ∧ wff (h (o + 1)) n false ∧ (∀ i : Nat, i < n → 0 ≤ h (o + 1) i ∨ (-26 ≤ h (o + 1) i ∧ h (o + 1) i ≤ -20) ∨ (-6 ≤ h (o + 1) i ∧ h (o + 1) i ≤ -1)) ∧ 0 ≤ h 98 (2 + a) ∧ h 99 (2 + a) = h 98 (2 + a) + n ∧ h 98 (2 + a) + n ≤ 1600 ∧ ∀ i : Nat, i < n → h 100 (1600 + (h 98 (2 + a) + i)) = cdI (h (o + 1) i)
def FI (h : Hp) : Prop := h 93 5 = 0 ∨ (FQ h (h 0 4 + 13) 0 ∧ FQ h (h 0 4 + 15) 1)
theorem FI.of {h : Hp} (I : FI h) {b : Int} (hb : 0 ≤ b ∧ b < nbN h) : FQ h (h 0 4 + 13) 0 ∧ FQ h (h 0 4 + 15) 1 := by
  rcases I with e | I
  · unfold nbN at hb; rw [e] at hb; omega
  · exact I
theorem FQ.st {h0 h : Hp} {o a : Int} (I : FQ h0 o a) (S : Sl h0 h) (ho : h0 0 4 ≤ o ∧ o + 1 < h0 0 4 + 17) (ha : 0 ≤ a) : FQ h o a := by
  obtain ⟨-, -, -, s4, -, -, -, -, -, sA, sB, sC⟩ := S
  unfold FQ at I ⊢
  rw [s4 o (by omega) (by omega), s4 (o + 1) (by omega) (by omega), sA (2 + a) (by omega), sB (2 + a) (by omega)]
  rcases I with I | ⟨n, h1, h2, h3, h4, h5, h6, h7, h8, h9⟩
  · exact Or.inl I
  · exact Or.inr ⟨n, h1, h2, h3, h4, h5, h6, h7, h8, fun i hi => by rw [sC _ (by omega)]; exact h9 i hi⟩
theorem FI.st {h0 h : Hp} (I : FI h0) (S : Sl h0 h) : FI h := by
  have e := S.1
  unfold FI at I ⊢
  rw [e, S.2.2.2.2.1 5 (by decide)]
  exact I.imp id (fun I => ⟨I.1.st S ⟨by omega, by omega⟩ (by omega), I.2.st S ⟨by omega, by omega⟩ (by omega)⟩)
/-- what the class's reckoner is told stays small -/
def BD (h : Hp) : Prop := ∀ j : Int, 0 ≤ j → (j < 9 → -1000000 ≤ h 54 j ∧ h 54 j ≤ 1000000) ∧ (j < 8 → -1000000 ≤ h 55 j ∧ h 55 j ≤ 1000000) ∧ (j < 10 → -1000000 ≤ h 56 j ∧ h 56 j ≤ 1000000)
theorem BD.fr {h h' : Hp} {L : List (Int × Int)} {R : List Int} (I : BD h) (F : Fr h h' L R) (ok : okF L R [] [54, 55, 56] = true) : BD h' := by
  obtain ⟨-, q⟩ := F.cell ok
  unfold BD
  rw [q 54 (by decide), q 55 (by decide), q 56 (by decide)]
  exact I
def z0 : Int → Int := fun _ => 0
theorem stp_p {kn ly ho : Int → Int} {s : Int} {st : List Int} (g : 0 ≤ s) : stp kn ly ho s st = s :: st := if_pos g
theorem stp_k {kn ly ho : Int → Int} {s : Int} {st : List Int} (g : s ≤ -20) : stp kn ly ho s st = kn (-20 - s) :: st := by
  unfold stp
  rw [if_neg (by omega), if_pos g]
theorem stp_q {kn ly ho : Int → Int} {s : Int} {st : List Int} (g : -6 ≤ s) (g2 : s ≤ -1) : stp kn ly ho s st = jn s (st.tail.headD 0) (st.headD 0) :: st.tail.tail := by
  unfold stp
  rw [if_neg (by omega), if_neg (by omega), if_neg (by omega), if_neg (by omega), if_neg (by omega)]
theorem evl_cg {kn kn' ly ly' ho ho' f : Int → Int} : ∀ {n : Nat}, (∀ i : Nat, i < n → 0 ≤ f i ∨ (-26 ≤ f i ∧ f i ≤ -20) ∨ (-6 ≤ f i ∧ f i ≤ -1)) → (∀ j : Int, 0 ≤ j → j < 7 → kn j = kn' j) → evl kn ly ho f n = evl kn' ly' ho' f n := by
  intro n
  induction n with
  | zero => intro _ _; rfl
  | succ n ih =>
    intro hf hk
    show stp kn ly ho (f n) (evl kn ly ho f n) = stp kn' ly' ho' (f n) (evl kn' ly' ho' f n)
    rw [ih (fun i hi => hf i (by omega)) hk]
    rcases hf n (by omega) with g | g | g
    · rw [stp_p g, stp_p g]
    · rw [stp_k g.2, stp_k g.2, hk _ (by omega) (by omega)]
    · rw [stp_q g.1 g.2, stp_q g.1 g.2]
/-! the flood, pure: h the river, st the stones, lv the level, g the state -/
def flP (h : Hp) (st : Int → Int) (lv r : Int) : Int := max 0 (lv + h 95 (8 + r) - 3 * st r)
def knP (h : Hp) (st : Int → Int) (lv yr r b hd : Int) (j : Int) : Int := if j = 0 then lv else if j = 1 then flP h st lv r else if j = 2 then h 96 (50 + 5 * b + 4) else if j = 3 then hd else if j = 4 then st r else if j = 5 then yr else if j = 6 then r else 0
def vaP (h : Hp) (o : Int) (kn : Int → Int) : Int := (evl kn z0 z0 (h (o + 1)) (h o 1).toNat).headD 0
def clm (v m : Int) : Int := if v < 0 then 0 else if v > m then m else v
def plP (h : Hp) (b : Int) : Int := h 96 (50 + 5 * b + 2)
def cuP (h : Hp) (st : Int → Int) (lv yr b hd : Int) : Int := if lv = 0 ∨ h (h 0 4 + 13) 1 = 0 then 0 else clm (vaP h (h 0 4 + 13) (knP h st lv yr (plP h b) b hd)) hd
def seP (h : Hp) (st : Int → Int) (lv yr r b c : Int) : Int := if lv = 0 ∨ c = 0 then 0 else if h (h 0 4 + 15) 1 = 0 then (if h 96 (50 + 5 * b + 4) ≤ flP h st lv r then 0 else c) else clm (vaP h (h 0 4 + 15) (knP h st lv yr r b c)) c
/-- what a bank's grains, carried, come to a reach with what is cut there -/
def cA1 (h : Hp) (st : Int → Int) (lv : Int) (g : Int → Int) (b : Int) (n : Nat) : Int := if plP h b = n then cuP h st lv (g 0) b (g (9 + b)) else 0
def caP (h : Hp) (st : Int → Int) (lv : Int) (g : Int → Int) (b : Int) : Nat → Int
  | 0 => 0
  | n + 1 => (caP h st lv g b n + cA1 h st lv g b n) - seP h st lv (g 0) n b (caP h st lv g b n + cA1 h st lv g b n)
def crP (h : Hp) (st : Int → Int) (lv : Int) (g : Int → Int) (b : Int) (n : Nat) : Int := caP h st lv g b n + cA1 h st lv g b n
def sdP (h : Hp) (st : Int → Int) (lv : Int) (g : Int → Int) (b : Int) (n : Nat) : Int := seP h st lv (g 0) n b (crP h st lv g b n)
theorem caP_s {h : Hp} {st g : Int → Int} {lv b : Int} {n : Nat} : caP h st lv g b (n + 1) = crP h st lv g b n - sdP h st lv g b n := rfl
theorem clm_b {v m : Int} (hm : 0 ≤ m) : 0 ≤ clm v m ∧ clm v m ≤ m := by
  unfold clm
  split
  · omega
  · split <;> omega
theorem cuP_b {h : Hp} {st : Int → Int} {lv yr b hd : Int} (hd0 : 0 ≤ hd) : 0 ≤ cuP h st lv yr b hd ∧ cuP h st lv yr b hd ≤ hd := by
  unfold cuP
  split
  · omega
  · exact clm_b hd0
theorem seP_b {h : Hp} {st : Int → Int} {lv yr r b c : Int} (hc : 0 ≤ c) : 0 ≤ seP h st lv yr r b c ∧ seP h st lv yr r b c ≤ c := by
  unfold seP
  split
  · omega
  · split
    · split <;> omega
    · exact clm_b hc
theorem caP_b {h : Hp} {st g : Int → Int} {lv b : Int} (hg : 0 ≤ g (9 + b)) (n : Nat) : 0 ≤ caP h st lv g b n ∧ caP h st lv g b n ≤ (if plP h b < n then cuP h st lv (g 0) b (g (9 + b)) else 0) ∧ 0 ≤ crP h st lv g b n ∧ crP h st lv g b n ≤ (if plP h b < n + 1 then cuP h st lv (g 0) b (g (9 + b)) else 0) ∧ 0 ≤ sdP h st lv g b n ∧ sdP h st lv g b n ≤ crP h st lv g b n := by
  have hc := cuP_b (h := h) (st := st) (lv := lv) (yr := g 0) (b := b) hg
  have step : ∀ n : Nat, (0 ≤ caP h st lv g b n ∧ caP h st lv g b n ≤ (if plP h b < n then cuP h st lv (g 0) b (g (9 + b)) else 0)) → 0 ≤ crP h st lv g b n ∧ crP h st lv g b n ≤ (if plP h b < n + 1 then cuP h st lv (g 0) b (g (9 + b)) else 0) ∧ 0 ≤ sdP h st lv g b n ∧ sdP h st lv g b n ≤ crP h st lv g b n := by
    intro n hn
    have e : 0 ≤ crP h st lv g b n ∧ crP h st lv g b n ≤ (if plP h b < n + 1 then cuP h st lv (g 0) b (g (9 + b)) else 0) := by
      unfold crP cA1
      by_cases q : plP h b = n
      · rw [if_pos q, if_pos (by omega)]
        rw [if_neg (by omega)] at hn
        omega
      · rw [if_neg q]
        by_cases q2 : plP h b < n
        · rw [if_pos q2] at hn; rw [if_pos (by omega)]; omega
        · rw [if_neg q2] at hn; rw [if_neg (by omega)]; omega
    have := seP_b (h := h) (st := st) (lv := lv) (yr := g 0) (r := n) (b := b) e.1
    exact ⟨e.1, e.2, this.1, this.2⟩
  have base : ∀ n : Nat, 0 ≤ caP h st lv g b n ∧ caP h st lv g b n ≤ (if plP h b < n then cuP h st lv (g 0) b (g (9 + b)) else 0) := by
    intro n
    induction n with
    | zero =>
      refine ⟨by show (0 : Int) ≤ 0; omega, ?_⟩
      show (0 : Int) ≤ _
      split <;> omega
    | succ n ih =>
      have s := step n ih
      rw [caP_s, Int.natCast_add]
      refine ⟨by omega, ?_⟩
      have : ((1 : Nat) : Int) = 1 := rfl
      rw [this]
      omega
  exact ⟨(base n).1, (base n).2, step n (base n)⟩
