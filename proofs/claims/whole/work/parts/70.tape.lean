/-! the tape as both sides read it: bytes t, length L; places are whole numbers from 0 on -/
abbrev isLt (c : Int) : Prop := 97 ≤ c ∧ c ≤ 122
abbrev isDg (c : Int) : Prop := 48 ≤ c ∧ c ≤ 57
def byL (t : Int → Int) (L k : Nat) : Int := if k < L then t k else -1
def skF (t : Int → Int) (L : Nat) : Nat → Nat → Nat
  | 0, p => p
  | f + 1, p => if p < L ∧ (t p = 32 ∨ t p = 10) then skF t L f (p + 1) else p
def sk (t : Int → Int) (L p : Nat) : Nat := skF t L (L - p) p
theorem sk_y {t : Int → Int} {L p : Nat} (h : p < L) (b : t p = 32 ∨ t p = 10) : sk t L p = sk t L (p + 1) := by
  unfold sk
  rw [show L - p = (L - (p + 1)) + 1 by omega]
  exact if_pos ⟨h, b⟩
theorem sk_n {t : Int → Int} {L p : Nat} (h : ¬ (p < L ∧ (t p = 32 ∨ t p = 10))) : sk t L p = p := by
  unfold sk
  cases hf : L - p with
  | zero => rfl
  | succ f => exact if_neg h
theorem sk_all {t : Int → Int} {L : Nat} : ∀ f p : Nat, L - p = f → p ≤ sk t L p ∧ (p ≤ L → sk t L p ≤ L) ∧ ¬ (sk t L p < L ∧ (t (sk t L p) = 32 ∨ t (sk t L p) = 10)) ∧ (sk t L p ≠ p → t (sk t L p - 1 : Nat) = 32 ∨ t (sk t L p - 1 : Nat) = 10) := by
  intro f
  induction f with
  | zero =>
    intro p e
    have := sk_n (t := t) (L := L) (p := p) (fun q => by omega)
    rw [this]
    exact ⟨Nat.le_refl _, fun q => q, fun q => by omega, fun q => absurd rfl q⟩
  | succ f ih =>
    intro p e
    by_cases b : t p = 32 ∨ t p = 10
    · have s := sk_y (t := t) (L := L) (p := p) (by omega) b
      have i := ih (p + 1) (by omega)
      rw [s]
      refine ⟨by omega, fun _ => i.2.1 (by omega), i.2.2.1, fun _ => ?_⟩
      by_cases c : sk t L (p + 1) = p + 1
      · rw [c]; exact b
      · exact i.2.2.2 c
    · have s := sk_n (t := t) (L := L) (p := p) (fun q => b q.2)
      rw [s]
      exact ⟨Nat.le_refl _, fun q => q, fun q => b q.2, fun q => absurd rfl q⟩
theorem sk_ge (t : Int → Int) (L p : Nat) : p ≤ sk t L p := (sk_all _ p rfl).1
theorem sk_le {t : Int → Int} {L p : Nat} (h : p ≤ L) : sk t L p ≤ L := (sk_all _ p rfl).2.1 h
theorem sk_sk (t : Int → Int) (L p : Nat) : sk t L (sk t L p) = sk t L p := sk_n (sk_all _ p rfl).2.2.1
/-- a word or a number ends right ahead -/
def GL (t : Int → Int) (q : Nat) : Prop := 1 ≤ q ∧ (isLt (t (q - 1 : Nat)) ∨ isDg (t (q - 1 : Nat)))
theorem GL.sk {t : Int → Int} {L p : Nat} (h : sk t L p ≠ p) : ¬ GL t (sk t L p) := by
  intro g
  have := (sk_all _ p rfl).2.2.2 h
  rcases g.2 with g | g <;> omega
/-- the class's tape; the reference's -/
def TP (t : Int → Int) (L : Nat) (h : Hp) : Prop := h 1 1 = L ∧ L ≤ 1600 ∧ (∀ k : Nat, k < L → (0 ≤ t k ∧ t k ≤ 255) ∧ h 2 k % 256 = t k ∧ -128 ≤ h 2 k ∧ h 2 k < 128) ∧ (h 1 4 = 0 → h 1 5 = -1)
def TQ (t : Int → Int) (L : Nat) (h : Hp) : Prop := h 68 3 = L ∧ L ≤ 1600 ∧ (∀ k : Nat, k < L → (0 ≤ t k ∧ t k ≤ 255) ∧ h 69 k = t k) ∧ (h 68 5 = 0 → h 68 6 = -1)
/-- the class reads at p, no fault yet -/
def XS (t : Int → Int) (L : Nat) (h : Hp) (p : Nat) : Prop := TP t L h ∧ h 1 2 = p ∧ p ≤ L ∧ h 1 4 = 0
/-- a fault is told -/
def XB (t : Int → Int) (L : Nat) (h : Hp) (kd pl : Int) : Prop := TP t L h ∧ h 1 4 = kd ∧ h 1 5 = pl ∧ 1 ≤ kd ∧ kd ≤ 5
abbrev txL : List (Int × Int) := [(1, 2), (1, 3), (1, 4), (1, 5)]
def isW (t : Int → Int) (L q n : Nat) (f : Int → Int) : Prop := q + n ≤ L ∧ (∀ i : Nat, i < n → t (q + i : Nat) = f i) ∧ ¬ isLt (byL t L (q + n)) ∧ ¬ GL t q
def nvT (t : Int → Int) (q : Nat) : Nat → Int
  | 0 => 0
  | n + 1 => 10 * nvT t q n + t (q + n : Nat) - 48
def NV (t : Int → Int) (L q : Nat) (lo hi v : Int) (n : Nat) : Prop := ¬ GL t q ∧ 1 ≤ n ∧ n ≤ 4 ∧ q + n ≤ L ∧ (∀ i : Nat, i < n → isDg (t (q + i : Nat))) ∧ ¬ isDg (byL t L (q + n)) ∧ v = nvT t q n ∧ lo ≤ v ∧ v ≤ hi
def NF (t : Int → Int) (L q : Nat) (lo hi kd pl : Int) : Prop := (kd = 1 ∧ pl = q ∧ (¬ isDg (byL t L q) ∨ GL t q)) ∨ (kd = 1 ∧ pl = (q + 4 : Nat) ∧ ¬ GL t q ∧ ∀ i : Nat, i < 5 → q + i < L ∧ isDg (t (q + i : Nat))) ∨ (kd = 2 ∧ pl = q ∧ ¬ GL t q ∧ ∃ n : Nat, 1 ≤ n ∧ n ≤ 4 ∧ q + n ≤ L ∧ (∀ i : Nat, i < n → isDg (t (q + i : Nat))) ∧ ¬ isDg (byL t L (q + n)) ∧ ¬ (lo ≤ nvT t q n ∧ nvT t q n ≤ hi))
theorem nvT_b {t : Int → Int} {q : Nat} : ∀ n : Nat, n ≤ 4 → (∀ i : Nat, i < n → isDg (t (q + i : Nat))) → 0 ≤ nvT t q n ∧ nvT t q n ≤ 9999 := by
  intro n hn hd
  have step : ∀ m : Nat, m ≤ n → 0 ≤ nvT t q m ∧ nvT t q m < 10 ^ m := by
    intro m
    induction m with
    | zero => intro _; exact ⟨by show (0 : Int) ≤ 0; omega, by show (0 : Int) < 1; omega⟩
    | succ m ih =>
      intro hm
      have a := ih (by omega)
      have b := hd m (by omega)
      unfold nvT
      rw [Int.pow_succ]
      omega
  have s := step n (Nat.le_refl _)
  have : (10 : Int) ^ n ≤ 10000 := by
    rcases (show n = 0 ∨ n = 1 ∨ n = 2 ∨ n = 3 ∨ n = 4 by omega) with rfl | rfl | rfl | rfl | rfl <;> decide
  omega
section L3A
variable {w : Wd} {h h0 : Hp} {K : Int → Hp → Prop} {t : Int → Int} {L p : Nat}
theorem TP.fr {h' : Hp} {Lc : List (Int × Int)} {R : List Int} (T : TP t L h) (F : Fr h h' Lc R) (ok : okF Lc R [(1, 1), (1, 4), (1, 5)] [2] = true) : TP t L h' := by
  obtain ⟨c, q⟩ := F.cell ok
  have c1 := c (1, 1) (by decide)
  have c4 := c (1, 4) (by decide)
  have c5 := c (1, 5) (by decide)
  dsimp only at c1 c4 c5
  unfold TP
  rw [c1, c4, c5, q 2 (by decide)]
  exact T
theorem x_by (T : TP t L h) (k : Nat) {a : Int} (ha : a = k) (hk : k ≤ 3200) (kk : K (byL t L k) h) : C_X10_byteAt w a h K := by
  obtain ⟨e, b, V, -⟩ := T
  subst ha
  refine x_byteAt ⟨by omega, by omega⟩ e ⟨by omega, by omega⟩ (fun q => ?_) (fun q => ?_)
  · have := V k (by omega)
    unfold byL at kk
    rw [if_pos (by omega), ← this.2.1] at kk
    exact kk
  · unfold byL at kk
    rw [if_neg (by omega)] at kk
    exact kk
theorem byL_b (T : TP t L h) (k : Nat) : -1 ≤ byL t L k ∧ byL t L k ≤ 255 := by
  unfold byL
  split
  · rename_i q
    have := (T.2.2.1 k q).1
    omega
  · omega
theorem x_next (T : TP t L h) (e : h 1 2 = p) (hp : p ≤ L) (k : ∀ h1, Fr h h1 [(1, 2), (1, 3)] [] → TP t L h1 → h1 1 2 = sk t L p → h1 1 3 = sk t L p → K 0 h1) : C_X10_next w h K := by
  refine c_X10_next ?_
  have b16 := T.2.1
  suffices ∀ f p : Nat, L - p = f → p ≤ L → ∀ h', Fr h h' [(1, 2), (1, 3)] [] → TP t L h' → h' 1 2 = p → (∀ h1, Fr h h1 [(1, 2), (1, 3)] [] → TP t L h1 → h1 1 2 = sk t L p → h1 1 3 = sk t L p → K 0 h1) → L_X10_next_0 w h' K from this _ p rfl hp h (Fr.into Fr.refl (by decide)) T e k
  intro f
  induction f with
  | zero =>
    intro p ef hp h' F T e k
    have s := sk_n (t := t) (L := L) (p := p) (fun q => by omega)
    have e1 := T.1
    refine l_X10_next_0 ?_
    rw [e, e1]
    refine ⟨⟨by omega, by omega⟩, ⟨by omega, by omega⟩, fun _ h3 q3 => ?_, fun q => absurd (by omega) q⟩
    have F3 : Fr h' h3 [(1, 3)] [] := by rw [q3]; exact Fr.cel
    exact k h3 ((F.trans F3).into (by decide)) (T.fr F3 (by decide)) (by rw [q3, hu_if, if_neg (by decide), e, s]) (by rw [q3, hu_if, if_pos rfl, s])
  | succ f ih =>
    intro p ef hp h' F T e k
    have e1 := T.1
    have v := T.2.2.1 p (by omega)
    have go : (t p = 32 ∨ t p = 10) → ∀ h10 : Hp, h10 = hu h' 1 2 ((p : Int) + 1) → L_X10_next_0 w h10 K := fun b h10 q10 => by
      have F10 : Fr h' h10 [(1, 2)] [] := by rw [q10]; exact Fr.cel
      have s := sk_y (t := t) (L := L) (p := p) (by omega) b
      rw [s] at k
      exact ih (p + 1) (by omega) (by omega) h10 ((F.trans F10).into (by decide)) (T.fr F10 (by decide)) (by rw [q10, hu_if, if_pos rfl]; rfl) k
    have no : ¬ (t p = 32 ∨ t p = 10) → ∀ h3 : Hp, h3 = hu h' 1 3 p → K 0 h3 := fun b h3 q3 => by
      have F3 : Fr h' h3 [(1, 3)] [] := by rw [q3]; exact Fr.cel
      have s := sk_n (t := t) (L := L) (p := p) (fun q => b q.2)
      exact k h3 ((F.trans F3).into (by decide)) (T.fr F3 (by decide)) (by rw [q3, hu_if, if_neg (by decide), e, s]) (by rw [q3, hu_if, if_pos rfl, s])
    refine l_X10_next_0 ?_
    rw [e, e1]
    refine ⟨⟨by omega, by omega⟩, ⟨by omega, by omega⟩, fun q => absurd q (by omega), fun _ => ⟨⟨by omega, by omega⟩, fun q => absurd q (by omega), fun _ => ⟨⟨by omega, by omega⟩, ⟨by omega, by omega⟩, fun q => go (by omega), fun q => ⟨⟨by omega, by omega⟩, ⟨by omega, by omega⟩, fun q2 => no (by omega), fun q2 => go (by omega)⟩⟩⟩⟩
theorem x_fail {kd pl : Int} (X : TP t L h) (e : h 1 4 = 0) (hk : 1 ≤ kd ∧ kd ≤ 5) (k : ∀ h1, Fr h h1 [(1, 4), (1, 5)] [] → XB t L h1 kd pl → K 0 h1) : C_X10_fail w kd pl h K := by
  refine c_X10_fail ?_
  rw [e]
  refine ⟨⟨by omega, by omega⟩, fun q => absurd rfl q, fun _ h2 q2 h4 q4 => ?_⟩
  have F2 : Fr h h2 [(1, 4)] [] := by rw [q2]; exact Fr.cel
  have F4 : Fr h2 h4 [(1, 5)] [] := by rw [q4]; exact Fr.cel
  have F := F2.trans F4
  have z4 : h4 1 4 = kd := by rw [q4, hu_if, if_neg (by decide), q2, hu_if, if_pos rfl]
  have c1 := (F.cell (C := [(1, 1)]) (W := [2]) (by decide)).1 (1, 1) (by decide)
  have c2 := (F.cell (C := [(1, 1)]) (W := [2]) (by decide)).2 2 (by decide)
  dsimp only at c1
  exact k h4 (F.into (by decide)) ⟨⟨by rw [c1]; exact X.1, X.2.1, by rw [c2]; exact X.2.2.1, fun q => absurd (z4.symm.trans q) (by omega)⟩, z4, by rw [q4, hu_if, if_pos rfl], hk.1, hk.2⟩
theorem x_failHere (X : TP t L h) (e : h 1 4 = 0) {q : Nat} (e2 : h 1 2 = q) (k : ∀ h1, Fr h h1 [(1, 4), (1, 5)] [] → XB t L h1 1 q → K 0 h1) : C_X10_failHere w h K := by
  refine c_X10_failHere ?_
  rw [e2]
  exact x_fail X e ⟨by decide, by decide⟩ (fun h1 F B _ => k h1 F B)
theorem XS.next (X : XS t L h p) (k : ∀ h1, Fr h h1 txL [] → XS t L h1 (sk t L p) → h1 1 3 = sk t L p → K 0 h1) : C_X10_next w h K := by
  obtain ⟨T, e, hp, e4⟩ := X
  refine x_next T e hp (fun h1 F T1 v2 v3 => k h1 (F.into (by decide)) ⟨T1, v2, sk_le hp, ?_⟩ v3)
  rw [← e4]
  exact (F.cell (C := [(1, 4)]) (W := []) (by decide)).1 (1, 4) (by decide)
theorem x_sign {c : Int} (X : XS t L h p) (hc : 0 ≤ c ∧ c ≤ 255) (k1 : byL t L (sk t L p) = c → sk t L p < L → ∀ h1, Fr h h1 txL [] → XS t L h1 (sk t L p + 1) → h1 1 3 = sk t L p → K 1 h1) (k0 : byL t L (sk t L p) ≠ c → ∀ h1, Fr h h1 txL [] → XS t L h1 (sk t L p) → K 0 h1) : C_X10_sign w c h K := by
  refine c_X10_sign (XS.next X (fun h1 F1 X1 e3 => x_by X1.1 (sk t L p) X1.2.1 (by have := X1.2.2.1; have := X1.1.2.1; omega) ?_))
  have b := byL_b X1.1 (sk t L p)
  refine ⟨⟨by omega, by omega⟩, ⟨by omega, by omega⟩, fun q h9 q9 => ?_, fun q => k0 q h1 F1 X1⟩
  have lt : sk t L p < L := by
    unfold byL at q
    by_cases d : sk t L p < L
    · exact d
    · rw [if_neg d] at q; omega
  have F9 : Fr h1 h9 [(1, 2)] [] := by rw [q9]; exact Fr.cel
  refine k1 q lt h9 ((F1.trans F9).into (by decide)) ⟨X1.1.fr F9 (by decide), by rw [q9, hu_if, if_pos rfl, X1.2.1]; omega, lt, by rw [q9, hu_if, if_neg (by decide)]; exact X1.2.2.2⟩ (by rw [q9, hu_if, if_neg (by decide)]; exact e3)
theorem x_needSign {c : Int} (X : XS t L h p) (hc : 0 ≤ c ∧ c ≤ 255) (k1 : byL t L (sk t L p) = c → sk t L p < L → ∀ h1, Fr h h1 txL [] → XS t L h1 (sk t L p + 1) → h1 1 3 = sk t L p → K 1 h1) (k0 : byL t L (sk t L p) ≠ c → ∀ h1, Fr h h1 txL [] → XB t L h1 1 (sk t L p) → K 0 h1) : C_X10_needSign w c h K := by
  refine c_X10_needSign (x_sign X hc (fun q lt h1 F1 X1 e3 _ => ⟨fun _ => k1 q lt h1 F1 X1 e3, fun c => absurd (by decide) c⟩) (fun q h1 F1 X1 _ => ⟨fun c => absurd rfl c, fun _ => x_failHere X1.1 X1.2.2.2 X1.2.1 (fun h5 F5 B5 _ => ⟨fun _ => k0 q h5 ((F1.trans F5).into (by decide)) B5, fun c => absurd rfl c⟩)⟩))
theorem x_isGlued (X : XS t L h p) (k1 : GL t p → K 1 h) (k0 : ¬ GL t p → K 0 h) : C_X10_isGlued w h K := by
  obtain ⟨⟨e1, b, V, -⟩, e2, hp, e4⟩ := X
  have v : 1 ≤ p → (0 ≤ t (p - 1 : Nat) ∧ t (p - 1 : Nat) ≤ 255) ∧ h 2 ((p : Int) - 1) % 256 = t (p - 1 : Nat) ∧ -128 ≤ h 2 ((p : Int) - 1) ∧ h 2 ((p : Int) - 1) < 128 := fun q => by
    have := V (p - 1) (by omega)
    rw [show (p : Int) - 1 = ((p - 1 : Nat) : Int) by omega]
    exact this
  have g : 1 ≤ p → (GL t p ↔ (97 ≤ h 2 ((p : Int) - 1) ∧ h 2 ((p : Int) - 1) ≤ 122) ∨ (48 ≤ h 2 ((p : Int) - 1) ∧ h 2 ((p : Int) - 1) ≤ 57)) := fun q => by
    have := v q
    have e : ((p - 1 : Nat) : Int) = (p : Int) - 1 := by omega
    unfold GL
    rw [e] at this ⊢
    constructor
    · intro x; omega
    · intro x; refine ⟨q, ?_⟩; omega
  refine c_X10_isGlued ?_
  rw [e2, e1]
  refine ⟨⟨by omega, by omega⟩, fun q => k0 (fun x => by have := x.1; omega), fun q => ?_⟩
  have v := v (by omega)
  have g := g (by omega)
  generalize h 2 ((p : Int) - 1) = c at v g ⊢
  refine ⟨⟨by omega, by omega⟩, ⟨by omega, by omega⟩, fun q2 => absurd q2 (by omega), fun _ => ⟨⟨by omega, by omega⟩, fun _ => ⟨⟨by omega, by omega⟩, ⟨by omega, by omega⟩, fun q3 => ⟨⟨by omega, by omega⟩, fun q4 => k0 (fun x => by have := g.mp x; omega), fun q4 => ⟨⟨by omega, by omega⟩, fun q5 => k0 (fun x => by have := g.mp x; omega), fun q5 => k1 (g.mpr (by omega))⟩⟩, fun q3 => ⟨⟨by omega, by omega⟩, fun q4 => k1 (g.mpr (by omega)), fun q4 => ⟨⟨by omega, by omega⟩, fun q5 => k0 (fun x => by have := g.mp x; omega), fun q5 => ⟨⟨by omega, by omega⟩, fun q6 => k0 (fun x => by have := g.mp x; omega), fun q6 => k1 (g.mpr (by omega))⟩⟩⟩⟩, fun q2 => absurd (by omega) q2⟩⟩
end L3A
