/-! names; acts that can be undone; what holds between calls, whole -/
def hv (l : Nat → Int) : Nat → Int
  | 0 => 0
  | n + 1 => 27 * hv l n + l n
def hp (l : Nat → Int) : Nat → Int
  | 0 => 0
  | n + 1 => 32 * hp l n + l n
/-- a name on both sides: five bits a letter, the first highest; base 27 -/
def NmR (p v : Int) : Prop := ∃ (l : Nat → Int) (n : Nat), 1 ≤ n ∧ n ≤ 6 ∧ (∀ k : Nat, k < n → 1 ≤ l k ∧ l k ≤ 26) ∧ (∀ k : Nat, n ≤ k → l k = 0) ∧ p = hp l 6 ∧ v = hv l n
def NR (h : Hp) : Prop := ∀ k i : Int, 0 ≤ k → k < 3 → 0 ≤ i → i < h 93 (3 + k) → NmR (h (h 0 4 + 2 + 2 * k) i) (h 94 (30 + 10 * k + i))
/-- a state that was kept: the class's slot s, the reference's t -/
def PS (h : Hp) (s t : Int) : Prop := GS h (fun k => h 112 (109 * t + k)) ∧ h 51 (109 * s) = h 112 (109 * t) ∧ (∀ r : Int, 0 ≤ r → r < 8 → h 51 (109 * s + 1 + r) = h 112 (109 * t + (1 + r))) ∧ (∀ r b : Int, 0 ≤ r → r < 8 → 0 ≤ b → b < 10 → h 51 (109 * s + 9 + (r * 10 + b)) = h 112 (109 * t + (29 + 10 * r + b))) ∧ (∀ b : Int, 0 ≤ b → b < 10 → h 51 (109 * s + 89 + b) = h 112 (109 * t + (9 + b)) ∧ h 51 (109 * s + 99 + b) = h 112 (109 * t + (19 + b)))
def PA (h : Hp) : Prop := h 50 1 = h 68 62 ∧ 0 ≤ h 68 62 ∧ h 68 62 < 20 ∧ h 50 2 = h 68 61 ∧ 0 ≤ h 68 61 ∧ h 68 61 ≤ 20 ∧ ∀ i : Int, 1 ≤ i → i ≤ h 68 61 → PS h ((h 68 62 + 20 - i) % 20) ((h 68 62 + 21 - i) % 20)
def IA (c : Int) (h : Hp) : Prop := I1 h ∧ I2 c h ∧ I3 h ∧ I4 h ∧ I5 h ∧ I6 h
def IB (h : Hp) : Prop := RR h (h 0 4) ∧ h 0 5 = 29 - h 0 4 ∧ FI h ∧ NR h
def IC (h : Hp) : Prop := GS h (h 104) ∧ SX h 40 (h 104) ∧ PA h ∧ BD h
def Inv (c : Int) (h : Hp) : Prop := IA c h ∧ IB h ∧ IC h
theorem NR.sl {h0 h : Hp} (N : NR h0) (S : Sl h0 h) : NR h := by
  intro k i k0 k1 i0 i1
  rw [S.2.2.2.2.1 (3 + k) (by omega)] at i1
  rw [S.1, S.2.2.2.1 (h0 0 4 + 2 + 2 * k) (by omega) (by omega), S.2.2.2.2.2.1 (30 + 10 * k + i) (by omega)]
  exact N k i k0 k1 i0 i1
theorem IB.sl {h0 h : Hp} (I : IB h0) (S : Sl h0 h) : IB h := by
  obtain ⟨R, e, F, N⟩ := I
  refine ⟨?_, ?_, F.st S, N.sl S⟩
  · rw [S.1]; exact R.st S rfl
  · rw [S.1, S.2.1]; exact e
theorem PS.fr {h h' : Hp} {s t : Int} (I : PS h s t) (S : Sl h h') (e1 : h' 51 = h 51) (e2 : h' 112 = h 112) : PS h' s t := by
  unfold PS at I ⊢
  rw [e1, e2]
  exact ⟨I.1.st S, I.2⟩
theorem PA.fr {h h' : Hp} {L : List (Int × Int)} {R : List Int} (I : PA h) (S : Sl h h') (F : Fr h h' L R) (ok : okF L R [(50, 1), (50, 2), (68, 61), (68, 62)] [51, 112] = true) : PA h' := by
  obtain ⟨c, q⟩ := F.cell ok
  have c1 := c (50, 1) (by decide); have c2 := c (50, 2) (by decide); have c3 := c (68, 61) (by decide); have c4 := c (68, 62) (by decide)
  dsimp only at c1 c2 c3 c4
  obtain ⟨i1, i2, i3, i4, i5, i6, i7⟩ := I
  unfold PA
  rw [c1, c2, c3, c4]
  exact ⟨i1, i2, i3, i4, i5, i6, fun i j0 j1 => (i7 i j0 j1).fr S (q 51 (by decide)) (q 112 (by decide))⟩
theorem IA.fr {c c' : Int} {h h' : Hp} {L : List (Int × Int)} {R : List Int} (I : IA c h) (hc : c ≤ c') (F : Fr h h' L R) (k1 : okF L R [(1, 1), (68, 1)] [2, 69] = true) (k2 : okF L R [] [59, 70] = true) (k3 : okF L R [(0, 18), (0, 19), (68, 7), (68, 8)] [] = true) (k4 : okF L R [(0, 17), (68, 63)] [] = true) (k5 : okF L R [(0, 15), (68, 67), (68, 36)] [57, 115] = true) (k6 : okF L R [(0, 16), (68, 97)] [58, 136] = true) : IA c' h' :=
  ⟨I.1.fr F k1, (I.2.1.fr F k2).up hc, I.2.2.1.fr F k3, I.2.2.2.1.fr F k4, I.2.2.2.2.1.fr F k5, I.2.2.2.2.2.fr F k6⟩
theorem IB.rr {h : Hp} (I : IB h) : h 0 4 = 6 ∨ h 0 4 = 23 := I.1.1
theorem IC.fr {h h' : Hp} {L : List (Int × Int)} {R : List Int} (I : IC h) (S : Sl h h') (F : Fr h h' L R) (k1 : okF L R [] [104] = true) (k2 : okF L R [(40, 4), (45, 4)] [41, 42, 43, 44, 46, 47, 48, 49] = true) (k3 : okF L R [(50, 1), (50, 2), (68, 61), (68, 62)] [51, 112] = true) (B : BD h') : IC h' := by
  have e := (F.cell k1).2 104 (by decide)
  unfold IC
  rw [e]
  exact ⟨I.1.st S, I.2.1.fr (Or.inl rfl) F k2, I.2.2.1.fr S F k3, B⟩
/-- a call that only looks leaves all -/
theorem Inv.look {c c' : Int} {h h' : Hp} {L : List (Int × Int)} {R : List Int} (I : Inv c h) (hc : c ≤ c') (F : Fr h h' L R) (B : BD h') (k1 : okF L R [(1, 1), (68, 1)] [2, 69] = true) (k2 : okF L R [] [59, 70] = true) (k3 : okF L R [(0, 18), (0, 19), (68, 7), (68, 8)] [] = true) (k4 : okF L R [(0, 17), (68, 63)] [] = true) (k5 : okF L R [(0, 15), (68, 67), (68, 36)] [57, 115] = true) (k6 : okF L R [(0, 16), (68, 97)] [58, 136] = true) (s : okS L R = true) (c1 : okF L R [] [104] = true) (c2 : okF L R [(40, 4), (45, 4)] [41, 42, 43, 44, 46, 47, 48, 49] = true) (c3 : okF L R [(50, 1), (50, 2), (68, 61), (68, 62)] [51, 112] = true) : Inv c' h' :=
  ⟨I.1.fr hc F k1 k2 k3 k4 k5 k6, I.2.1.sl (Sl.of I.2.1.rr F s), I.2.2.fr (Sl.of I.2.1.rr F s) F c1 c2 c3 B⟩
theorem Inv.up {c c' : Int} {h : Hp} (I : Inv c h) (hc : c ≤ c') : Inv c' h := ⟨⟨I.1.1, I.1.2.1.up hc, I.1.2.2⟩, I.2⟩
theorem Inv.q0 {c : Int} {h : Hp} (I : Inv c h) : Q0 h := ⟨I.2.1.1, I.2.2.1, I.2.2.2.1⟩
theorem Inv.cx {c lv : Int} {h : Hp} (I : Inv c h) (hl : 0 ≤ lv ∧ lv ≤ 9) : CX h (h 0 4) lv (sN (h 104)) (h 104) := ⟨I.2.1.1, rfl, I.2.1.2.2.1, hl, fun x x0 x1 => by have := I.2.2.1.2.1 x x0 x1; unfold sN; omega, I.2.2.1⟩
/-! the letters of a name -/
theorem hv_pos {l : Nat → Int} {n : Nat} (hl : ∀ k : Nat, k < n → 1 ≤ l k ∧ l k ≤ 26) : 0 ≤ hv l n ∧ (0 < n → 0 < hv l n) := by
  induction n with
  | zero => exact ⟨Int.le_refl _, fun q => absurd q (by omega)⟩
  | succ n ih =>
    have h1 := ih (fun k hk => hl k (by omega))
    have h2 := hl n (by omega)
    unfold hv
    omega
theorem hv_up {l : Nat → Int} {n : Nat} (hl : ∀ k : Nat, k < n → 1 ≤ l k ∧ l k ≤ 26) : hv l n < 27 ^ n := by
  induction n with
  | zero => show (0 : Int) < 1; decide
  | succ n ih =>
    have h1 := ih (fun k hk => hl k (by omega))
    have h2 := hl n (by omega)
    unfold hv
    rw [Int.pow_succ]
    omega
section L2U
variable {w : Wd} {h : Hp} {K : Int → Hp → Prop}
/-- letter k of a name -/
theorem hp_at {l : Nat → Int} (hl : ∀ k : Nat, 0 ≤ l k ∧ l k ≤ 31) {k : Nat} (hk : k < 6) : hp l 6 / 2 ^ (Int.toNat (5 * (5 - (k : Int)))) % 32 = l k ∧ inR (hp l 6) := by
  have b0 := hl 0; have b1 := hl 1; have b2 := hl 2; have b3 := hl 3; have b4 := hl 4; have b5 := hl 5
  have e : hp l 6 = 33554432 * l 0 + 1048576 * l 1 + 32768 * l 2 + 1024 * l 3 + 32 * l 4 + l 5 := by
    show 32 * (32 * (32 * (32 * (32 * (32 * 0 + l 0) + l 1) + l 2) + l 3) + l 4) + l 5 = _
    omega
  refine ⟨?_, by rw [e]; exact ⟨by omega, by omega⟩⟩
  rw [e]
  rcases (show k = 0 ∨ k = 1 ∨ k = 2 ∨ k = 3 ∨ k = 4 ∨ k = 5 by omega) with rfl | rfl | rfl | rfl | rfl | rfl
  · show _ / (33554432 : Int) % 32 = _; omega
  · show _ / (1048576 : Int) % 32 = _; omega
  · show _ / (32768 : Int) % 32 = _; omega
  · show _ / (1024 : Int) % 32 = _; omega
  · show _ / (32 : Int) % 32 = _; omega
  · show _ / (1 : Int) % 32 = _; omega
theorem NmR.digits {p v : Int} (N : NmR p v) : ∃ (l : Nat → Int) (n : Nat), 1 ≤ n ∧ n ≤ 6 ∧ (∀ k : Nat, k < n → 1 ≤ l k ∧ l k ≤ 26) ∧ (∀ k : Nat, n ≤ k → l k = 0) ∧ p = hp l 6 ∧ v = hv l n ∧ (∀ k : Nat, 0 ≤ l k ∧ l k ≤ 31) := by
  obtain ⟨l, n, h1, h2, h3, h4, h5, h6⟩ := N
  refine ⟨l, n, h1, h2, h3, h4, h5, h6, fun k => ?_⟩
  by_cases q : k < n
  · have := h3 k q; omega
  · have := h4 k (by omega); omega
theorem hv_b {l : Nat → Int} {n : Nat} (hn : n ≤ 6) (hl : ∀ k : Nat, k < n → 1 ≤ l k ∧ l k ≤ 26) : 0 ≤ hv l n ∧ hv l n < 387420489 := by
  refine ⟨(hv_pos hl).1, Int.lt_of_lt_of_le (hv_up hl) ?_⟩
  rcases (show n = 0 ∨ n = 1 ∨ n = 2 ∨ n = 3 ∨ n = 4 ∨ n = 5 ∨ n = 6 by omega) with rfl | rfl | rfl | rfl | rfl | rfl | rfl <;> decide
theorem y_letter104 {l : Nat → Int} {n k : Nat} (hn : n ≤ 6) (hl : ∀ k : Nat, k < n → 1 ≤ l k ∧ l k ≤ 26) (hk : k < n) (kk : K (l k) h) : ∀ q : Nat, k ≤ q → q < n → L_X12_letter_104 w k (hv l (q + 1)) q h K := by
  intro q
  induction q with
  | zero =>
    intro h1 h2
    have b : 0 ≤ hv l (0 + 1) ∧ hv l (0 + 1) < 387420489 := hv_b (n := 1) (by omega) (fun j hj => hl j (by omega))
    have e : hv l 1 = 27 * hv l 0 + l 0 := rfl
    have b2 := hl 0 (by omega)
    have b0 : hv l 0 = 0 := rfl
    obtain rfl : k = 0 := by omega
    exact l_X12_letter_104 ⟨⟨by omega, by omega⟩, ⟨by omega, by omega⟩, fun _ => ⟨⟨by omega, by omega⟩, by rw [show hv l (0 + 1) % 27 = l 0 by show hv l 1 % 27 = _; omega]; exact kk⟩, fun c => absurd (by omega) c⟩
  | succ q ih =>
    intro h1 h2
    have b := hv_b (n := q + 1 + 1) (by omega) (fun j hj => hl j (by omega))
    have b1 := hv_b (n := q + 1) (by omega) (fun j hj => hl j (by omega))
    have e : hv l (q + 1 + 1) = 27 * hv l (q + 1) + l (q + 1) := rfl
    have b2 := hl (q + 1) (by omega)
    refine l_X12_letter_104 ⟨⟨by omega, by omega⟩, ⟨by omega, by omega⟩, fun c => ⟨⟨by omega, by omega⟩, ?_⟩, fun c => ⟨⟨by omega, by omega⟩, ?_⟩⟩
    · obtain rfl : k = q + 1 := by omega
      rw [show hv l (q + 1 + 1) % 27 = l (q + 1) by omega]; exact kk
    · rw [show hv l (q + 1 + 1) / 27 = hv l (q + 1) by omega, show ((q + 1 : Nat) : Int) + (-1) = q by omega]
      exact ih (by omega) (by omega)
theorem y_letter69 {l : Nat → Int} {n k : Nat} (hn : n ≤ 6) (hk : k < 6) (hl : ∀ k : Nat, k < n → 1 ≤ l k ∧ l k ≤ 26) (h0 : ∀ k : Nat, n ≤ k → l k = 0) (kk : K (l k) h) : ∀ m j : Nat, j + m = n → L_X12_letter_69 w k (hv l n) j (hv l m) h K := by
  intro m
  induction m with
  | zero =>
    intro j e
    obtain rfl : j = n := e
    refine l_X12_letter_69 ⟨⟨by show _ ≤ (0 : Int); omega, by show (0 : Int) < _; omega⟩, fun _ => ⟨⟨by omega, by omega⟩, ⟨by omega, by omega⟩, fun c => ?_, fun c => ?_⟩, fun c => absurd (Int.le_refl _) c⟩
    · have := y_letter104 (w := w) hn hl (k := k) (by omega) kk (j - 1) (by omega) (by omega)
      rw [show j - 1 + 1 = j by omega, show ((j - 1 : Nat) : Int) = (j : Int) - 1 by omega] at this
      exact this
    · rw [h0 k (by omega)] at kk; exact kk
  | succ m ih =>
    intro j e
    have b := hv_b (n := m + 1) (by omega) (fun j hj => hl j (by omega))
    have p := hv_pos (n := m + 1) (fun j hj => hl j (by omega))
    have b2 := hl m (by omega)
    have e2 : hv l (m + 1) = 27 * hv l m + l m := rfl
    refine l_X12_letter_69 ⟨⟨by omega, by omega⟩, fun c => absurd c (by have := p.2 (by omega); omega), fun _ => ⟨⟨by omega, by omega⟩, ?_⟩⟩
    rw [show hv l (m + 1) / 27 = hv l m by omega]
    exact ih (j + 1) (by omega)
end L2U
