/-! what a formula is worth: a stack of whole numbers -/
def clipI (v : Int) : Int := if v > 1000000 then 1000000 else if v < -1000000 then -1000000 else v
def jn (s a b : Int) : Int := if s = -1 then clipI (a + b) else if s = -2 then clipI (a - b) else if s = -3 then clipI (a * b) else if s = -4 then (if b = 0 then 0 else Int.fdiv a b) else if s = -5 then min a b else if s = -6 then max a b else if s = -7 then (if a < b then 1 else 0) else if s = -8 then (if a > b then 1 else 0) else if s = -9 then (if a = b then 1 else 0) else if s = -10 then a * b else if s = -11 then (if a + b > 0 then 1 else 0) else 0
/-- one step; kn: what is known, ly, ho: what lies, is held, by number -/
def stp (kn ly ho : Int → Int) (s : Int) (st : List Int) : List Int :=
  if 0 ≤ s then s :: st else if s ≤ -20 then kn (-20 - s) :: st else if s = -12 then (1 - st.headD 0) :: st.tail else if s = -13 then ly (st.headD 0) :: st.tail else if s = -14 then ho (st.headD 0) :: st.tail
  else jn s (st.tail.headD 0) (st.headD 0) :: st.tail.tail
def evl (kn ly ho f : Int → Int) : Nat → List Int
  | 0 => []
  | n + 1 => stp kn ly ho (f n) (evl kn ly ho f n)
/-- what a step does to the kinds that wait (true: a truth, 0 or 1) -/
def trn (s : Int) (t t' : List Bool) : Prop :=
  (0 ≤ s ∧ s ≤ 9999 ∧ t' = false :: t) ∨ (s = 1 ∧ t' = true :: t) ∨ (-28 ≤ s ∧ s ≤ -20 ∧ t' = false :: t) ∨ (s = -12 ∧ ∃ r, t = true :: r ∧ t' = true :: r) ∨ ((s = -13 ∨ s = -14) ∧ ∃ r, t = false :: r ∧ t' = false :: r) ∨
  (-6 ≤ s ∧ s ≤ -1 ∧ ∃ r, t = false :: false :: r ∧ t' = false :: r) ∨ (-9 ≤ s ∧ s ≤ -7 ∧ ∃ r, t = false :: false :: r ∧ t' = true :: r) ∨ (-11 ≤ s ∧ s ≤ -10 ∧ ∃ r, t = true :: true :: r ∧ t' = true :: r)
/-- n steps that go through, from nothing to one of a kind; at most 60 wait -/
def wff (f : Int → Int) (n : Nat) (b : Bool) : Prop := ∃ ts : Nat → List Bool, ts 0 = [] ∧ ts n = [b] ∧ ∀ i : Nat, i < n → trn (f i) (ts i) (ts (i + 1)) ∧ (ts i).length ≤ 60
def VOK : List Bool → List Int → Prop
  | [], [] => True
  | t :: ts, v :: vs => (if t = true then v = 0 ∨ v = 1 else -1000000 ≤ v ∧ v ≤ 1000000) ∧ VOK ts vs
  | _, _ => False
theorem VOK.len {t : List Bool} : ∀ {v : List Int}, VOK t v → v.length = t.length := by
  induction t with
  | nil => intro v h; cases v with
    | nil => rfl
    | cons a r => exact absurd h id
  | cons b t ih => intro v h; cases v with
    | nil => exact absurd h id
    | cons a r => rw [List.length_cons, List.length_cons, ih h.2]
theorem VOK.n1 {r : List Bool} {v : List Int} (h : VOK (false :: r) v) : ∃ a q, v = a :: q ∧ (-1000000 ≤ a ∧ a ≤ 1000000) ∧ VOK r q := by
  cases v with
  | nil => exact absurd h id
  | cons a q => exact ⟨a, q, rfl, h.1, h.2⟩
theorem VOK.b1 {r : List Bool} {v : List Int} (h : VOK (true :: r) v) : ∃ a q, v = a :: q ∧ (a = 0 ∨ a = 1) ∧ VOK r q := by
  cases v with
  | nil => exact absurd h id
  | cons a q => exact ⟨a, q, rfl, h.1, h.2⟩
theorem clipI_b (v : Int) : -1000000 ≤ clipI v ∧ clipI v ≤ 1000000 := by
  unfold clipI
  split
  · omega
  · split <;> omega
theorem fdiv_b {a b : Int} (ha : -1000000 ≤ a ∧ a ≤ 1000000) (hb : b ≠ 0) : -1000000 ≤ Int.fdiv a b ∧ Int.fdiv a b ≤ 1000000 := by
  rcases Int.lt_or_gt_of_ne hb with g | g
  · have e : Int.fdiv a b = Int.fdiv (-a) (-b) := (Int.neg_fdiv_neg a b).symm
    rw [e, Int.fdiv_eq_ediv_of_nonneg _ (by omega)]
    have h1 := Int.ediv_mul_le (-a) (b := -b) (by omega)
    constructor
    · have : -1000000 ≤ -a / -b := (Int.le_ediv_iff_mul_le (by omega)).mpr (by omega)
      exact this
    · have : -a / -b < 1000001 := (Int.ediv_lt_iff_lt_mul (by omega)).mpr (by omega)
      omega
  · rw [Int.fdiv_eq_ediv_of_nonneg _ (by omega)]
    constructor
    · exact (Int.le_ediv_iff_mul_le (by omega)).mpr (by omega)
    · have : a / b < 1000001 := (Int.ediv_lt_iff_lt_mul (by omega)).mpr (by omega)
      omega
theorem jn_num {s a b : Int} (hs : -6 ≤ s ∧ s ≤ -1) (ha : -1000000 ≤ a ∧ a ≤ 1000000) (hb : -1000000 ≤ b ∧ b ≤ 1000000) : -1000000 ≤ jn s a b ∧ jn s a b ≤ 1000000 := by
  unfold jn
  rcases (show s = -1 ∨ s = -2 ∨ s = -3 ∨ s = -4 ∨ s = -5 ∨ s = -6 by omega) with rfl | rfl | rfl | rfl | rfl | rfl
  · rw [if_pos rfl]; exact clipI_b _
  · rw [if_neg (by decide), if_pos rfl]; exact clipI_b _
  · rw [if_neg (by decide), if_neg (by decide), if_pos rfl]; exact clipI_b _
  · rw [if_neg (by decide), if_neg (by decide), if_neg (by decide), if_pos rfl]
    by_cases g : b = 0
    · rw [if_pos g]; omega
    · rw [if_neg g]; exact fdiv_b ha g
  · rw [if_neg (by decide), if_neg (by decide), if_neg (by decide), if_neg (by decide), if_pos rfl]; omega
  · rw [if_neg (by decide), if_neg (by decide), if_neg (by decide), if_neg (by decide), if_neg (by decide), if_pos rfl]; omega
theorem jn_cmp {s a b : Int} (hs : -9 ≤ s ∧ s ≤ -7) : jn s a b = 0 ∨ jn s a b = 1 := by
  unfold jn
  rcases (show s = -7 ∨ s = -8 ∨ s = -9 by omega) with rfl | rfl | rfl
  · rw [if_neg (by decide), if_neg (by decide), if_neg (by decide), if_neg (by decide), if_neg (by decide), if_neg (by decide), if_pos rfl]; split <;> simp
  · rw [if_neg (by decide), if_neg (by decide), if_neg (by decide), if_neg (by decide), if_neg (by decide), if_neg (by decide), if_neg (by decide), if_pos rfl]; split <;> simp
  · rw [if_neg (by decide), if_neg (by decide), if_neg (by decide), if_neg (by decide), if_neg (by decide), if_neg (by decide), if_neg (by decide), if_neg (by decide), if_pos rfl]; split <;> simp
theorem jn_log {s a b : Int} (hs : -11 ≤ s ∧ s ≤ -10) (ha : a = 0 ∨ a = 1) (hb : b = 0 ∨ b = 1) : jn s a b = 0 ∨ jn s a b = 1 := by
  rcases (show s = -10 ∨ s = -11 by omega) with rfl | rfl <;> rcases ha with rfl | rfl <;> rcases hb with rfl | rfl <;> decide
/-- one step keeps the kinds -/
theorem stp_ok {kn ly ho : Int → Int} {s : Int} {t t' : List Bool} {st : List Int} (hkn : ∀ j : Int, -1000000 ≤ kn j ∧ kn j ≤ 1000000) (hly : ∀ j : Int, -1000000 ≤ ly j ∧ ly j ≤ 1000000) (hho : ∀ j : Int, -1000000 ≤ ho j ∧ ho j ≤ 1000000) (T : trn s t t') (V : VOK t st) : VOK t' (stp kn ly ho s st) := by
  unfold stp
  rcases T with ⟨h1, h2, rfl⟩ | ⟨h1, rfl⟩ | ⟨h1, h2, rfl⟩ | ⟨h1, r, rfl, rfl⟩ | ⟨h1, r, rfl, rfl⟩ | ⟨h1, h2, r, rfl, rfl⟩ | ⟨h1, h2, r, rfl, rfl⟩ | ⟨h1, h2, r, rfl, rfl⟩
  · rw [if_pos h1]; exact ⟨⟨by omega, by omega⟩, V⟩
  · rw [if_pos (by omega)]; exact ⟨Or.inr h1, V⟩
  · rw [if_neg (by omega), if_pos h2]; exact ⟨hkn _, V⟩
  · obtain ⟨a, q, rfl, ha, V⟩ := V.b1
    rw [if_neg (by omega), if_neg (by omega), if_pos h1]
    exact ⟨by show (1 - a = 0 ∨ 1 - a = 1); omega, V⟩
  · obtain ⟨a, q, rfl, ha, V⟩ := V.n1
    rcases h1 with h1 | h1
    · rw [if_neg (by omega), if_neg (by omega), if_neg (by omega), if_pos h1]; exact ⟨hly _, V⟩
    · rw [if_neg (by omega), if_neg (by omega), if_neg (by omega), if_neg (by omega), if_pos h1]; exact ⟨hho _, V⟩
  · obtain ⟨b, q, rfl, hb, V⟩ := V.n1
    obtain ⟨a, q, rfl, ha, V⟩ := V.n1
    rw [if_neg (by omega), if_neg (by omega), if_neg (by omega), if_neg (by omega), if_neg (by omega)]
    exact ⟨jn_num ⟨h1, h2⟩ ha hb, V⟩
  · obtain ⟨b, q, rfl, hb, V⟩ := V.n1
    obtain ⟨a, q, rfl, ha, V⟩ := V.n1
    rw [if_neg (by omega), if_neg (by omega), if_neg (by omega), if_neg (by omega), if_neg (by omega)]
    exact ⟨jn_cmp ⟨h1, h2⟩, V⟩
  · obtain ⟨b, q, rfl, hb, V⟩ := V.b1
    obtain ⟨a, q, rfl, ha, V⟩ := V.b1
    rw [if_neg (by omega), if_neg (by omega), if_neg (by omega), if_neg (by omega), if_neg (by omega)]
    exact ⟨jn_log ⟨h1, h2⟩ ha hb, V⟩

/-! the class's stack -/
def Stk (g : Int → Int) : List Int → Prop
  | [] => True
  | v :: st => g st.length = v ∧ Stk g st
theorem Stk.up {g g' : Int → Int} {st : List Int} {k : Int} (S : Stk g st) (hk : st.length ≤ k) (h : ∀ i : Int, i ≠ k → g' i = g i) : Stk g' st := by
  induction st with
  | nil => trivial
  | cons v st ih =>
    rw [List.length_cons] at hk
    exact ⟨by rw [h _ (by omega)]; exact S.1, ih S.2 (by omega)⟩
/-- the class's stack holds st; nothing else changed since h0 -/
def CS (h0 h : Hp) (st : List Int) : Prop := h 52 4 = st.length ∧ Stk (h 53) st ∧ Fr h0 h [(52, 4)] [53]
section L2G
variable {w : Wd} {h h0 : Hp} {K : Int → Hp → Prop}
theorem x_pop {v : Int} {st : List Int} (S : CS h0 h (v :: st)) (hl : st.length < 64) (k : ∀ h1, CS h0 h1 st → K v h1) : C_X6_pop w h K := by
  obtain ⟨e, ⟨t1, t2⟩, F⟩ := S
  rw [List.length_cons] at e
  refine c_X6_pop ⟨⟨by omega, by omega⟩, fun _ h2 e2 => ?_, fun c => absurd (by omega) c⟩
  have f1 : h2 52 4 = st.length := by rw [e2, hu_if, if_pos rfl]; omega
  have f2 : h2 53 = h 53 := by rw [e2]; funext i; exact hu_ne (by decide)
  have F2 : Fr h h2 [(52, 4)] [] := by rw [e2]; exact Fr.cel
  rw [f1, f2, t1]
  exact ⟨⟨by omega, by omega⟩, k h2 ⟨f1, by rw [f2]; exact t2, Fr.sub (L := [(52, 4)] ++ [(52, 4)]) (R := [53] ++ []) (F.trans F2) (fun p q => Or.inl (by simpa using q)) (fun o q => by simpa using q)⟩⟩
theorem x_push {v : Int} {st : List Int} (S : CS h0 h st) (hl : st.length < 64) (k : ∀ h1, CS h0 h1 (v :: st) → K 0 h1) : C_X6_push w v h K := by
  obtain ⟨e, t, F⟩ := S
  refine c_X6_push ⟨⟨by omega, by omega⟩, fun c => absurd c (by omega), fun _ => ⟨⟨by omega, by omega⟩, fun h3 e3 h5 e5 => ?_⟩⟩
  have f3 : h3 52 4 = st.length := by rw [e3, hu_ne (by decide)]; exact e
  have f1 : h5 52 4 = ((v :: st).length : Nat) := by rw [e5, hu_if, if_pos rfl, f3, List.length_cons]; omega
  have f2 : ∀ i : Int, h5 53 i = if i = st.length then v else h 53 i := fun i => by rw [e5, hu_ne (by decide), e3, hu_if, e]
  have F3 : Fr h h3 [] [53] := by rw [e3]; exact Fr.row
  have F5 : Fr h3 h5 [(52, 4)] [] := by rw [e5]; exact Fr.cel
  refine k h5 ⟨f1, ⟨by rw [f2, if_pos rfl], t.up (k := st.length) (Int.le_refl _) (fun i hi => by rw [f2, if_neg hi])⟩, Fr.sub (L := ([(52, 4)] ++ []) ++ [(52, 4)]) (R := ([53] ++ [53]) ++ []) ((F.trans F3).trans F5) (fun p q => Or.inl (by simpa using q)) (fun o q => by simpa using q)⟩
end L2G
