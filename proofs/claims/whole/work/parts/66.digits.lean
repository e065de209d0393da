/-! stones in place of all there are: rows counted up in base three -/
def dgt (n i : Nat) (r : Int) : Int := if 0 ≤ r ∧ r < n then ((i / 3 ^ (n - 1 - r.toNat) % 3 : Nat) : Int) else 0
def dsum (n i : Nat) : Int := sm n (dgt n i)
/-- the first of the fewest among rows ahead of I: how many stones, its number -/
def Rs (P : (Int → Int) → Prop) (n I : Nat) (b : Int) (q : Nat) : Prop := (b = -1 ∧ ∀ i : Nat, i < I → ¬ P (dgt n i)) ∨ (q < I ∧ P (dgt n q) ∧ b = dsum n q ∧ ∀ i : Nat, i < I → P (dgt n i) → b ≤ dsum n i ∧ (i < q → b < dsum n i))
theorem dgt_b (n i : Nat) (r : Int) : 0 ≤ dgt n i r ∧ dgt n i r ≤ 2 := by
  unfold dgt
  split
  · omega
  · omega
theorem dsum_b (n i : Nat) : 0 ≤ dsum n i ∧ dsum n i ≤ 2 * n := by
  have := sm_le_c (n := n) (f := dgt n i) (c := 2) (fun r _ _ => dgt_b n i r)
  unfold dsum
  omega
theorem Rs.not {P : (Int → Int) → Prop} {n I : Nat} {b : Int} {q : Nat} (R : Rs P n I b q) (h : ¬ P (dgt n I)) : Rs P n (I + 1) b q := by
  rcases R with ⟨e, A⟩ | ⟨a1, a2, a3, a4⟩
  · refine Or.inl ⟨e, fun i hi => ?_⟩
    by_cases d : i = I
    · rw [d]; exact h
    · exact A i (by omega)
  · refine Or.inr ⟨by omega, a2, a3, fun i hi p => ?_⟩
    by_cases d : i = I
    · subst d; exact absurd p h
    · exact a4 i (by omega) p
theorem Rs.skip {P : (Int → Int) → Prop} {n I : Nat} {b : Int} {q : Nat} (R : Rs P n I b q) (h : b ≠ -1) (h2 : b ≤ dsum n I) : Rs P n (I + 1) b q := by
  rcases R with ⟨e, A⟩ | ⟨a1, a2, a3, a4⟩
  · exact absurd e h
  · refine Or.inr ⟨by omega, a2, a3, fun i hi p => ?_⟩
    by_cases d : i = I
    · subst d; exact ⟨h2, fun q => by omega⟩
    · exact a4 i (by omega) p
theorem Rs.yes {P : (Int → Int) → Prop} {n I : Nat} {b : Int} {q : Nat} (R : Rs P n I b q) (h : P (dgt n I)) (h2 : b = -1 ∨ dsum n I < b) : Rs P n (I + 1) (dsum n I) I := by
  refine Or.inr ⟨by omega, h, rfl, fun i hi p => ?_⟩
  by_cases d : i = I
  · subst d; exact ⟨Int.le_refl _, fun q => by omega⟩
  · rcases R with ⟨e, A⟩ | ⟨a1, a2, a3, a4⟩
    · exact absurd p (A i (by omega))
    · have := (a4 i (by omega) p).1
      rcases h2 with h2 | h2
      · have := dsum_b n q; omega
      · omega
theorem Rs.zero {P : (Int → Int) → Prop} {n I J : Nat} {q : Nat} (R : Rs P n I 0 q) (h : I ≤ J) : Rs P n J 0 q := by
  rcases R with ⟨e, A⟩ | ⟨a1, a2, a3, a4⟩
  · omega
  · refine Or.inr ⟨by omega, a2, a3, fun i hi p => ?_⟩
    by_cases d : i < I
    · exact a4 i d p
    · have := dsum_b n i; exact ⟨by omega, fun q => by omega⟩
theorem Rs.uniq {P : (Int → Int) → Prop} {n I : Nat} {b b' : Int} {q q' : Nat} (R : Rs P n I b q) (R' : Rs P n I b' q') : b = b' ∧ (b ≠ -1 → q = q') := by
  rcases R with ⟨e, A⟩ | ⟨a1, a2, a3, a4⟩
  · rcases R' with ⟨e', A'⟩ | ⟨c1, c2, c3, c4⟩
    · exact ⟨by omega, fun h => absurd e h⟩
    · exact absurd c2 (A q' c1)
  · rcases R' with ⟨e', A'⟩ | ⟨c1, c2, c3, c4⟩
    · exact absurd a2 (A' q a1)
    · have x := a4 q' c1 c2
      have y := c4 q a1 a2
      have e : b = b' := by omega
      refine ⟨e, fun _ => ?_⟩
      rcases Nat.lt_trichotomy q q' with l | l | l
      · have := y.2 l; omega
      · exact l
      · have := x.2 l; omega
/-- the digits of more reaches: those ahead are the digits of the number without the last ones -/
theorem dgt_up {m n i : Nat} (h : m ≤ n) {r : Int} (hr : 0 ≤ r ∧ r < m) : dgt n i r = dgt m (i / 3 ^ (n - m)) r := by
  unfold dgt
  rw [if_pos ⟨hr.1, by omega⟩, if_pos hr, Nat.div_div_eq_div_mul, ← Nat.pow_add, show n - m + (m - 1 - r.toNat) = n - 1 - r.toNat by omega]
theorem dsum_up {m n i : Nat} (h : m ≤ n) : dsum m (i / 3 ^ (n - m)) ≤ dsum n i := by
  unfold dsum
  obtain ⟨d, rfl⟩ : ∃ d, n = m + d := ⟨n - m, by omega⟩
  rw [sm_split, sm_congr (n := m) (f := dgt (m + d) i) (g := dgt m (i / 3 ^ (m + d - m))) (fun r r0 r1 => dgt_up h ⟨r0, r1⟩)]
  have := sm_nonneg (n := d) (f := fun r => dgt (m + d) i (m + r)) (fun r _ _ => (dgt_b _ _ _).1)
  omega
/-- a row with nothing behind the m-th reach -/
theorem dgt_ext {m n i : Nat} (h : m ≤ n) (r : Int) : dgt n (i * 3 ^ (n - m)) r = dgt m i r := by
  by_cases hr : 0 ≤ r ∧ r < m
  · rw [dgt_up h hr, Nat.mul_div_cancel _ (Nat.pow_pos (by decide))]
  · unfold dgt
    rw [if_neg hr]
    by_cases hn : 0 ≤ r ∧ r < n
    · rw [if_pos hn]
      have e : n - m = (n - 1 - r.toNat) + ((r.toNat - m) + 1) := by omega
      rw [e, Nat.pow_add, ← Nat.mul_assoc, Nat.mul_comm i, Nat.mul_assoc, Nat.mul_div_cancel_left _ (Nat.pow_pos (by decide)), Nat.pow_succ, ← Nat.mul_assoc, Nat.mul_mod_left]
      rfl
    · rw [if_neg hn]
theorem dsum_ext {m n i : Nat} (h : m ≤ n) : dsum n (i * 3 ^ (n - m)) = dsum m i := by
  unfold dsum
  rw [sm_congr (n := n) (f := dgt n (i * 3 ^ (n - m))) (g := dgt m i) (fun r _ _ => dgt_ext h r)]
  refine sm_more h (fun r r0 r1 => ?_)
  unfold dgt
  rw [if_neg (by omega)]
/-- what hangs on the first m reaches alone is found there -/
theorem Rs.up {P : (Int → Int) → Prop} {m n : Nat} (h : m ≤ n) (hP : ∀ f g : Int → Int, (∀ r : Int, 0 ≤ r → r < m → f r = g r) → (P f ↔ P g)) {b : Int} {q : Nat} (R : Rs P m (3 ^ m) b q) : Rs P n (3 ^ n) b (q * 3 ^ (n - m)) := by
  have pw : 3 ^ n = 3 ^ m * 3 ^ (n - m) := by rw [← Nat.pow_add, show m + (n - m) = n by omega]
  have pos : 0 < 3 ^ (n - m) := Nat.pow_pos (by decide)
  have lt : ∀ i, i < 3 ^ n → i / 3 ^ (n - m) < 3 ^ m := fun i hi => by
    rw [Nat.div_lt_iff_lt_mul pos, ← pw]; exact hi
  have pp : ∀ i, P (dgt n i) ↔ P (dgt m (i / 3 ^ (n - m))) := fun i => hP _ _ (fun r r0 r1 => dgt_up h ⟨r0, r1⟩)
  rcases R with ⟨e, A⟩ | ⟨a1, a2, a3, a4⟩
  · exact Or.inl ⟨e, fun i hi p => A _ (lt i hi) ((pp i).mp p)⟩
  · refine Or.inr ⟨?_, ?_, ?_, fun i hi p => ?_⟩
    · rw [pw]; exact Nat.mul_lt_mul_of_pos_right a1 pos
    · exact (hP _ _ (fun r _ _ => dgt_ext h r)).mpr a2
    · rw [dsum_ext h]; exact a3
    · have v := a4 _ (lt i hi) ((pp i).mp p)
      have u := dsum_up (i := i) h
      refine ⟨by omega, fun l => ?_⟩
      have : i / 3 ^ (n - m) < q := by rw [Nat.div_lt_iff_lt_mul pos]; exact l
      have := v.2 this
      omega
/-- one reach alone: its digit -/
theorem Rs.one {P : (Int → Int) → Prop} {n p : Nat} (hp : p < n) (hP : ∀ f g : Int → Int, f p = g p → (P f ↔ P g)) {l : Nat} (hl : l < 3) (yes : P (dgt n (l * 3 ^ (n - 1 - p)))) (no : ∀ l', l' < l → ¬ P (dgt n (l' * 3 ^ (n - 1 - p)))) : Rs P n (3 ^ n) l (l * 3 ^ (n - 1 - p)) := by
  have pos : 0 < 3 ^ (n - 1 - p) := Nat.pow_pos (by decide)
  have at0 : ∀ l, l < 3 → dgt n (l * 3 ^ (n - 1 - p)) p = l := fun l hl => by
    unfold dgt
    rw [if_pos ⟨by omega, by omega⟩, Int.toNat_natCast, Nat.mul_div_cancel _ pos, Nat.mod_eq_of_lt hl]
  have oth : ∀ l, l < 3 → ∀ r : Int, r ≠ p → dgt n (l * 3 ^ (n - 1 - p)) r = 0 := fun l hl r hr => by
    unfold dgt
    by_cases hn : 0 ≤ r ∧ r < n
    · rw [if_pos hn]
      by_cases d : r < p
      · have e : n - 1 - r.toNat = (n - 1 - p) + ((p - r.toNat - 1) + 1) := by omega
        have : l * 3 ^ (n - 1 - p) / 3 ^ (n - 1 - r.toNat) = 0 := by
          rw [Nat.div_eq_zero_iff_lt (Nat.pow_pos (by decide)), e, Nat.pow_add, Nat.mul_comm]
          refine Nat.mul_lt_mul_of_pos_left ?_ pos
          have : 1 ≤ 3 ^ (p - r.toNat - 1) := Nat.pow_pos (by decide)
          rw [Nat.pow_succ]; omega
        rw [this]; rfl
      · have e : n - 1 - p = (n - 1 - r.toNat) + ((r.toNat - p - 1) + 1) := by omega
        rw [e, Nat.pow_add, ← Nat.mul_assoc, Nat.mul_comm l, Nat.mul_assoc, Nat.mul_div_cancel_left _ (Nat.pow_pos (by decide)), Nat.pow_succ, ← Nat.mul_assoc, Nat.mul_mod_left]; rfl
    · rw [if_neg hn]
  have ds : dsum n (l * 3 ^ (n - 1 - p)) = l := by
    have := sm_upd (n := n) (f := fun _ => 0) (g := dgt n (l * 3 ^ (n - 1 - p))) (k := p) ⟨by omega, by omega⟩ (fun i _ _ hi => oth l hl i hi)
    unfold dsum
    rw [this, at0 l hl, sm_zero (fun _ _ _ => rfl)]; omega
  refine Or.inr ⟨?_, yes, ds.symm, fun i hi pi => ?_⟩
  · have e : n = (n - 1 - p) + (p + 1) := by omega
    have : 3 ^ n = 3 ^ (n - 1 - p) * 3 ^ (p + 1) := by rw [← Nat.pow_add, ← e]
    rw [this, Nat.mul_comm]
    refine Nat.mul_lt_mul_of_pos_left ?_ pos
    have : 1 ≤ 3 ^ p := Nat.pow_pos (by decide)
    rw [Nat.pow_succ]; omega
  · obtain ⟨l', hl'⟩ : ∃ l', l' = i / 3 ^ (n - 1 - p) % 3 := ⟨_, rfl⟩
    have di : dgt n i p = l' := by unfold dgt; rw [if_pos ⟨by omega, by omega⟩, Int.toNat_natCast, hl']
    have l3 : l' < 3 := by omega
    have ge : l ≤ l' := by
      by_cases c : l' < l
      · refine absurd ((hP _ _ ?_).mp pi) (no l' c)
        rw [di, at0 l' l3]
      · omega
    have s1 := sm_at (n := n) (f := dgt n i) (fun r _ _ => (dgt_b n i r).1) (k := p) ⟨by omega, by omega⟩
    refine ⟨by unfold dsum; omega, fun lt => ?_⟩
    have : i / 3 ^ (n - 1 - p) < l := by rw [Nat.div_lt_iff_lt_mul pos]; exact lt
    have := Nat.mod_le (i / 3 ^ (n - 1 - p)) 3
    omega
theorem Rs.none {P : (Int → Int) → Prop} {n p : Nat} (hp : p < n) (hP : ∀ f g : Int → Int, f p = g p → (P f ↔ P g)) (no : ∀ l', l' < 3 → ¬ P (dgt n (l' * 3 ^ (n - 1 - p)))) (q : Nat) : Rs P n (3 ^ n) (-1) q := by
  refine Or.inl ⟨rfl, fun i hi pi => ?_⟩
  have pos : 0 < 3 ^ (n - 1 - p) := Nat.pow_pos (by decide)
  have l3 : i / 3 ^ (n - 1 - p) % 3 < 3 := Nat.mod_lt _ (by decide)
  refine no _ l3 ((hP _ _ ?_).mp pi)
  unfold dgt
  rw [if_pos ⟨by omega, by omega⟩, if_pos ⟨by omega, by omega⟩, Int.toNat_natCast, Nat.mul_div_cancel _ pos, Nat.mod_eq_of_lt l3]
/-- counting up: behind a digit below two, twos turn to nothing -/
theorem dgt_next {m a k : Nat} (ha : a % 3 < 2) {r : Int} (hr : 0 ≤ r ∧ r < m) (hk : k < m) : dgt m ((a + 1) * 3 ^ k) r = (if r < m - 1 - k then dgt m (a * 3 ^ k + (3 ^ k - 1)) r else if r = m - 1 - k then ((a % 3 : Nat) : Int) + 1 else 0) := by
  have pos : ∀ j : Nat, 0 < 3 ^ j := fun j => Nat.pow_pos (by decide)
  have lo : a * 3 ^ k + (3 ^ k - 1) = 3 ^ k - 1 + a * 3 ^ k := Nat.add_comm _ _
  have dv : (3 ^ k - 1 + a * 3 ^ k) / 3 ^ k = a := by
    rw [Nat.add_mul_div_right _ _ (pos k), Nat.div_eq_of_lt (by have := pos k; omega)]; omega
  unfold dgt
  rw [if_pos hr]
  by_cases c : r < m - 1 - k
  · rw [if_pos c, if_pos hr, lo]
    obtain ⟨e, he⟩ : ∃ e, m - 1 - r.toNat = k + (e + 1) := ⟨m - 1 - r.toNat - k - 1, by omega⟩
    rw [he, Nat.pow_add, ← Nat.div_div_eq_div_mul, ← Nat.div_div_eq_div_mul, Nat.mul_div_cancel _ (pos k), dv, Nat.pow_succ, Nat.mul_comm (3 ^ e) 3, ← Nat.div_div_eq_div_mul, ← Nat.div_div_eq_div_mul, show (a + 1) / 3 = a / 3 by omega]
  · rw [if_neg c]
    by_cases c2 : r = m - 1 - k
    · rw [if_pos c2, show m - 1 - r.toNat = k by omega, Nat.mul_div_cancel _ (pos k)]; omega
    · rw [if_neg c2]
      obtain ⟨e, he⟩ : ∃ e, k = (m - 1 - r.toNat) + (e + 1) := ⟨k - (m - 1 - r.toNat) - 1, by omega⟩
      rw [he, Nat.pow_add, ← Nat.mul_assoc, Nat.mul_comm (a + 1), Nat.mul_assoc, Nat.mul_div_cancel_left _ (pos _), Nat.pow_succ, ← Nat.mul_assoc, Nat.mul_mod_left]; rfl
/-- the digit at k from behind, the twos behind it -/
theorem dgt_two {m a k : Nat} {r : Int} (hr : r = m - 1 - k) (hk : k < m) : dgt m (a * 3 ^ k + (3 ^ k - 1)) r = ((a % 3 : Nat) : Int) := by
  have pos : 0 < 3 ^ k := Nat.pow_pos (by decide)
  unfold dgt
  rw [if_pos ⟨by omega, by omega⟩, show m - 1 - r.toNat = k by omega, Nat.add_comm, Nat.add_mul_div_right _ _ pos, Nat.div_eq_of_lt (by omega), Nat.zero_add]
