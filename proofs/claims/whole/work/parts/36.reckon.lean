/-! what a formula is worth: a stack of whole numbers -/
def clipI (v : Int) : Int := if v > 1000000 then 1000000 else if v < -1000000 then -1000000 else v
def jn (s a b : Int) : Int := if s = -1 then clipI (a + b) else if s = -2 then clipI (a - b) else if s = -3 then clipI (a * b) else if s = -4 then (if b = 0 then 0 else Int.fdiv a b) else if s = -5 then min a b else if s = -6 then max a b else if s = -7 then (if a < b then 1 else 0) else if s = -8 then (if a > b then 1 else 0) else if s = -9 then (if a = b then 1 else 0) else if s = -10 then a * b else if s = -11 then (if a + b > 0 then 1 else 0) else 0
/-- one step; kn: what is known, ly, ho: what lies, is held, by number -/
def stp (kn ly ho : Int → Int) (s : Int) (st : List Int) : List Int :=
  if 0 ≤ s then s :: st else if s ≤ -20 then kn (-20 - s) :: st else match st with
    | [] => []
    | b :: r => if s = -12 then (1 - b) :: r else if s = -13 then ly b :: r else if s = -14 then ho b :: r else match r with
      | [] => [b]
      | a :: r => jn s a b :: r
def evl (kn ly ho f : Int → Int) : Nat → List Int
  | 0 => []
  | n + 1 => stp kn ly ho (f n) (evl kn ly ho f n)
/-- how high the stack is behind n steps -/
def hgt (f : Int → Int) : Nat → Int
  | 0 => 0
  | n + 1 => if 0 ≤ f n ∨ f n ≤ -20 then hgt f n + 1 else if f n = -12 ∨ f n = -13 ∨ f n = -14 then hgt f n else hgt f n - 1
/-- a formula of n steps that goes through: no step wants what isn't there, at most 60 wait, one is left -/
def wff (f : Int → Int) (n : Nat) : Prop := hgt f n = 1 ∧ ∀ i : Nat, i < n → (hgt f i ≤ 60 ∧ -40 ≤ f i ∧ f i ≤ 9999 ∧ (f i < 0 → -20 < f i → (if f i = -12 ∨ f i = -13 ∨ f i = -14 then 1 ≤ hgt f i else 2 ≤ hgt f i)))
theorem evl_len (kn ly ho f : Int → Int) (n m : Nat) (h : wff f m) (hn : n ≤ m) : ((evl kn ly ho f n).length : Int) = hgt f n := by
  induction n with
  | zero => rfl
  | succ n ih =>
    have ih := ih (by omega)
    obtain ⟨h1, h2, h3, h4⟩ := h.2 n (by omega)
    unfold evl hgt stp
    by_cases g0 : 0 ≤ f n
    · rw [if_pos g0, if_pos (Or.inl g0), List.length_cons]; omega
    · by_cases g1 : f n ≤ -20
      · rw [if_neg g0, if_pos g1, if_pos (Or.inr g1), List.length_cons]; omega
      · rw [if_neg g0, if_neg g1, if_neg (by omega)]
        have h4 := h4 (by omega) (by omega)
        by_cases g2 : f n = -12 ∨ f n = -13 ∨ f n = -14
        · rw [if_pos g2] at h4 ⊢
          cases e : evl kn ly ho f n with
          | nil => rw [e] at ih; simp at ih; omega
          | cons b r =>
            rw [e, List.length_cons] at ih
            show ((if f n = -12 then (1 - b) :: r else if f n = -13 then ly b :: r else if f n = -14 then ho b :: r else _ : List Int).length : Int) = _
            rcases g2 with g2 | g2 | g2
            · rw [if_pos g2, List.length_cons]; omega
            · rw [if_neg (by omega), if_pos g2, List.length_cons]; omega
            · rw [if_neg (by omega), if_neg (by omega), if_pos g2, List.length_cons]; omega
        · rw [if_neg g2] at h4 ⊢
          cases e : evl kn ly ho f n with
          | nil => rw [e] at ih; simp at ih; omega
          | cons b r =>
            cases r with
            | nil => rw [e] at ih; simp at ih; omega
            | cons a r =>
              rw [e, List.length_cons, List.length_cons] at ih
              show ((if f n = -12 then (1 - b) :: a :: r else if f n = -13 then ly b :: a :: r else if f n = -14 then ho b :: a :: r else jn (f n) a b :: r : List Int).length : Int) = _
              rw [if_neg (fun q => g2 (Or.inl q)), if_neg (fun q => g2 (Or.inr (Or.inl q))), if_neg (fun q => g2 (Or.inr (Or.inr q))), List.length_cons]
              omega
theorem fdiv_t {a b : Int} (hb : b ≠ 0) : Int.fdiv a b = if (0 ≤ a ↔ 0 ≤ b) ∨ Int.tdiv a b * b = a then Int.tdiv a b else Int.tdiv a b - 1 := by
  sorry
