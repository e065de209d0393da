/-! LAYER 2. Sums over banks and reaches; what both sides hold -/
def sm : Nat → (Int → Int) → Int
  | 0, _ => 0
  | n + 1, f => sm n f + f n
theorem sm_congr {n : Nat} {f g : Int → Int} (h : ∀ i : Int, 0 ≤ i → i < n → f i = g i) : sm n f = sm n g := by
  induction n with
  | zero => rfl
  | succ n ih => show sm n f + f n = sm n g + g n; rw [ih (fun i h0 h1 => h i h0 (by omega)), h n (by omega) (by omega)]
theorem sm_nonneg {n : Nat} {f : Int → Int} (h : ∀ i : Int, 0 ≤ i → i < n → 0 ≤ f i) : 0 ≤ sm n f := by
  induction n with
  | zero => exact Int.le_refl _
  | succ n ih => show 0 ≤ sm n f + f n; have h1 := ih (fun i h0 h1 => h i h0 (by omega)); have h2 := h n (by omega) (by omega); omega
theorem sm_le {n : Nat} {f g : Int → Int} (h : ∀ i : Int, 0 ≤ i → i < n → f i ≤ g i) : sm n f ≤ sm n g := by
  induction n with
  | zero => exact Int.le_refl _
  | succ n ih => show sm n f + f n ≤ sm n g + g n; have h1 := ih (fun i h0 h1 => h i h0 (by omega)); have h2 := h n (by omega) (by omega); omega
theorem sm_zero {n : Nat} {f : Int → Int} (h : ∀ i : Int, 0 ≤ i → i < n → f i = 0) : sm n f = 0 := by
  induction n with
  | zero => rfl
  | succ n ih => show sm n f + f n = 0; rw [ih (fun i h0 h1 => h i h0 (by omega)), h n (by omega) (by omega)]; rfl
theorem sm_add {n : Nat} {f g : Int → Int} : sm n (fun i => f i + g i) = sm n f + sm n g := by
  induction n with
  | zero => rfl
  | succ n ih => show sm n (fun i => f i + g i) + (f n + g n) = (sm n f + f n) + (sm n g + g n); rw [ih]; omega
theorem sm_at {n : Nat} {f : Int → Int} (h : ∀ i : Int, 0 ≤ i → i < n → 0 ≤ f i) {k : Int} (hk : 0 ≤ k ∧ k < n) : f k ≤ sm n f := by
  induction n with
  | zero => omega
  | succ n ih =>
    show f k ≤ sm n f + f n
    have h2 := h n (by omega) (by omega)
    have h3 := sm_nonneg (n := n) (f := f) (fun i h0 h1 => h i h0 (by omega))
    by_cases g : k = n
    · subst g; omega
    · have h1 := ih (fun i h0 h1 => h i h0 (by omega)) ⟨hk.1, by omega⟩; omega
/-- a longer sum of which the rest is nothing -/
theorem sm_more {n m : Nat} {f : Int → Int} (hnm : n ≤ m) (h : ∀ i : Int, n ≤ i → i < m → f i = 0) : sm m f = sm n f := by
  induction m with
  | zero => have : n = 0 := by omega
            subst this; rfl
  | succ m ih =>
    by_cases g : n = m + 1
    · subst g; rfl
    · show sm m f + f m = sm n f
      rw [ih (by omega) (fun i h0 h1 => h i h0 (by omega)), h m (by omega) (by omega)]; omega
theorem sm_split {a b : Nat} {f : Int → Int} : sm (a + b) f = sm a f + sm b (fun i => f (a + i)) := by
  induction b with
  | zero => show sm a f = sm a f + 0; omega
  | succ b ih =>
    show sm (a + b) f + f ((a + b : Nat) : Int) = sm a f + (sm b (fun i => f (a + i)) + f (a + (b : Int)))
    rw [ih, Int.natCast_add]; omega
/-- rows of ten -/
theorem sm_rows {n : Nat} {f : Int → Int} : sm (10 * n) f = sm n (fun r => sm 10 (fun b => f (10 * r + b))) := by
  induction n with
  | zero => rfl
  | succ n ih =>
    show sm (10 * n + 10) f = sm n _ + sm 10 (fun b => f (10 * (n : Int) + b))
    rw [sm_split, ih]
    congr 1
theorem sm_upd {n : Nat} {f g : Int → Int} {k : Int} (hk : 0 ≤ k ∧ k < n) (h : ∀ i : Int, 0 ≤ i → i < n → i ≠ k → g i = f i) : sm n g = sm n f + (g k - f k) := by
  induction n with
  | zero => omega
  | succ n ih =>
    show sm n g + g n = sm n f + f n + (g k - f k)
    by_cases e : k = n
    · subst e; rw [sm_congr (f := g) (g := f) (fun i h0 h1 => h i h0 (by omega) (by omega))]; omega
    · rw [ih ⟨hk.1, by omega⟩ (fun i h0 h1 h2 => h i h0 (by omega) h2), h n (by omega) (by omega) (fun q => e q.symm)]; omega
theorem sm_swap {n m : Nat} {f : Int → Int → Int} : sm n (fun i => sm m (fun j => f i j)) = sm m (fun j => sm n (fun i => f i j)) := by
  induction n with
  | zero => show (0 : Int) = _; rw [sm_zero (n := m)]; intro i _ _; rfl
  | succ n ih => show sm n (fun i => sm m (fun j => f i j)) + sm m (fun j => f n j) = sm m (fun j => sm n (fun i => f i j) + f n j); rw [ih, sm_add]
theorem inR_of {z : Int} (h : -1000000000 ≤ z ∧ z ≤ 1000000000) : inR z := ⟨by omega, by omega⟩
section L2A
variable {w : Wd} {h : Hp} {K : Int → Hp → Prop}
theorem s_lyingIn {o r : Int} (ho : Ob 9 o) (hr : 0 ≤ r ∧ r < 8) (k : K (sm 10 (fun b => h (o + 2) (r * 10 + b))) h) : C_X9_lyingIn w o r h K := by
  refine c_X9_lyingIn ho ?_
  suffices ∀ n b : Nat, b + n = 10 → L_X9_lyingIn_4 w o r (sm b (fun b => h (o + 2) (r * 10 + b))) b h K from this 10 0 rfl
  intro n
  induction n with
  | zero => intro b hb; obtain rfl : b = 10 := by omega
            exact l_X9_lyingIn_4 ho ⟨⟨by omega, by omega⟩, fun _ => k, fun c => absurd (by omega) c⟩
  | succ n ih => intro b hb; exact l_X9_lyingIn_4 ho ⟨⟨by omega, by omega⟩, fun c => absurd c (by omega), fun _ => ⟨by omega, ih (b + 1) (by omega)⟩⟩
theorem s_lyingOf {o b : Int} (ho : Ob 9 o) (hb : 0 ≤ b ∧ b < 10) (k : K (sm 8 (fun r => h (o + 2) (r * 10 + b))) h) : C_X9_lyingOf w o b h K := by
  refine c_X9_lyingOf ho ?_
  suffices ∀ n r : Nat, r + n = 8 → L_X9_lyingOf_4 w o b (sm r (fun r => h (o + 2) (r * 10 + b))) r h K from this 8 0 rfl
  intro n
  induction n with
  | zero => intro r hr; obtain rfl : r = 8 := by omega
            exact l_X9_lyingOf_4 ho ⟨⟨by omega, by omega⟩, fun _ => k, fun c => absurd (by omega) c⟩
  | succ n ih => intro r hr; exact l_X9_lyingOf_4 ho ⟨⟨by omega, by omega⟩, fun c => absurd c (by omega), fun _ => ⟨by omega, ih (r + 1) (by omega)⟩⟩
theorem s_total {o : Int} {n : Nat} (ho : Ar 0 n o) (k : K (sm n (h o)) h) : C_X11_total w o h K := by
  have hs := Ar.small ho
  refine c_X11_total ho ?_
  suffices ∀ m i : Nat, i + m = n → L_X11_total_4 w o (sm i (h o)) i h K from this n 0 (by omega)
  intro m
  induction m with
  | zero => intro i hi; obtain rfl : i = n := by omega
            exact l_X11_total_4 ho ⟨⟨by omega, by omega⟩, fun _ => k, fun c => absurd (Int.le_refl _) c⟩
  | succ m ih => intro i hi; exact l_X11_total_4 ho ⟨⟨by omega, by omega⟩, fun c => absurd c (by show ¬ (i : Int) ≥ (n : Int); omega), fun _ => ⟨⟨by omega, by omega⟩, ih (i + 1) (by omega)⟩⟩
theorem s_owned {o r x a : Int} {nb : Nat} (ho : Ob 9 o) (hv : Ob 7 r) (hnb : h (r + 5) 1 = nb) (hb : nb ≤ 10) (hx : 0 ≤ x ∧ x < 8) (ha : inR a) (hw : ∀ b : Int, 0 ≤ b → b < nb → inR (h (r + 8) b)) (k : K (sm nb (fun b => if h (r + 8) b = a then h (o + 2) (x * 10 + b) else 0)) h) : C_X9_owned w o r x a h K := by
  refine c_X9_owned ho hv ?_
  suffices ∀ n b : Nat, b + n = nb → L_X9_owned_6 w o r x a (sm b (fun b => if h (r + 8) b = a then h (o + 2) (x * 10 + b) else 0)) b h K from this nb 0 (by omega)
  intro n
  induction n with
  | zero => intro b hb; obtain rfl : b = nb := by omega
            exact l_X9_owned_6 ho hv ⟨⟨by omega, by omega⟩, ⟨by omega, by omega⟩, fun _ => k, fun c => absurd (by omega) c⟩
  | succ n ih =>
    intro b hb'
    have e := ih (b + 1) (by omega)
    refine l_X9_owned_6 ho hv ⟨⟨by omega, by omega⟩, ⟨by omega, by omega⟩, fun c => absurd c (by omega), fun _ => ⟨by omega, hw b (by omega) (by omega), ha, fun c => ?_, fun c => ⟨by omega, ?_⟩⟩⟩
    · rw [show sm (b + 1) (fun b => if h (r + 8) b = a then h (o + 2) (x * 10 + b) else 0) = sm b (fun b => if h (r + 8) b = a then h (o + 2) (x * 10 + b) else 0) + 0 from congrArg _ (if_neg c)] at e; exact e
    · rw [show sm (b + 1) (fun b => if h (r + 8) b = a then h (o + 2) (x * 10 + b) else 0) = sm b (fun b => if h (r + 8) b = a then h (o + 2) (x * 10 + b) else 0) + h (o + 2) (x * 10 + b) from congrArg _ (if_pos (Classical.not_not.mp c))] at e; exact e
theorem s_coloured {o r x a : Int} {nb : Nat} (ho : Ob 9 o) (hv : Ob 7 r) (hnb : h (r + 5) 1 = nb) (hb : nb ≤ 10) (hx : 0 ≤ x ∧ x < 8) (ha : inR a) (hw : ∀ b : Int, 0 ≤ b → b < nb → inR (h (r + 9) b)) (k : K (sm nb (fun b => if h (r + 9) b = a then h (o + 2) (x * 10 + b) else 0)) h) : C_X9_coloured w o r x a h K := by
  refine c_X9_coloured ho hv ?_
  suffices ∀ n b : Nat, b + n = nb → L_X9_coloured_6 w o r x a (sm b (fun b => if h (r + 9) b = a then h (o + 2) (x * 10 + b) else 0)) b h K from this nb 0 (by omega)
  intro n
  induction n with
  | zero => intro b hb; obtain rfl : b = nb := by omega
            exact l_X9_coloured_6 ho hv ⟨⟨by omega, by omega⟩, ⟨by omega, by omega⟩, fun _ => k, fun c => absurd (by omega) c⟩
  | succ n ih =>
    intro b hb'
    have e := ih (b + 1) (by omega)
    refine l_X9_coloured_6 ho hv ⟨⟨by omega, by omega⟩, ⟨by omega, by omega⟩, fun c => absurd c (by omega), fun _ => ⟨by omega, hw b (by omega) (by omega), ha, fun c => ?_, fun c => ⟨by omega, ?_⟩⟩⟩
    · rw [show sm (b + 1) (fun b => if h (r + 9) b = a then h (o + 2) (x * 10 + b) else 0) = sm b (fun b => if h (r + 9) b = a then h (o + 2) (x * 10 + b) else 0) + 0 from congrArg _ (if_neg c)] at e; exact e
    · rw [show sm (b + 1) (fun b => if h (r + 9) b = a then h (o + 2) (x * 10 + b) else 0) = sm b (fun b => if h (r + 9) b = a then h (o + 2) (x * 10 + b) else 0) + h (o + 2) (x * 10 + b) from congrArg _ (if_pos (Classical.not_not.mp c))] at e; exact e
/-! the reference's -/
theorem m_liesAll {r : Int} {nb : Nat} (hnb : h 93 5 = nb) (hb : nb ≤ 10) (hr : 0 ≤ r ∧ r < 8) (k : K (sm nb (fun b => h 104 (29 + 10 * r + b))) h) : C_X12_liesAll w r h K := by
  refine c_X12_liesAll ?_
  suffices ∀ n b : Nat, b + n = nb → L_X12_liesAll_4 w r (sm b (fun b => h 104 (29 + 10 * r + b))) b h K from this nb 0 (by omega)
  intro n
  induction n with
  | zero => intro b hb; obtain rfl : b = nb := by omega
            exact l_X12_liesAll_4 ⟨⟨by omega, by omega⟩, ⟨by omega, by omega⟩, fun _ => k, fun c => absurd (by omega) c⟩
  | succ n ih => intro b hb; exact l_X12_liesAll_4 ⟨⟨by omega, by omega⟩, ⟨by omega, by omega⟩, fun c => absurd c (by omega), fun _ => ⟨by omega, ih (b + 1) (by omega)⟩⟩
theorem m_lyingOf {b : Int} {nr : Nat} (hnr : h 68 36 = nr) (hr : nr ≤ 8) (hb : 0 ≤ b ∧ b < 10) (k : K (sm nr (fun r => h 104 (29 + 10 * r + b))) h) : C_X12_lyingOf w b h K := by
  refine c_X12_lyingOf ?_
  suffices ∀ n r : Nat, r + n = nr → L_X12_lyingOf_4 w b (sm r (fun r => h 104 (29 + 10 * r + b))) r h K from this nr 0 (by omega)
  intro n
  induction n with
  | zero => intro r hr; obtain rfl : r = nr := by omega
            exact l_X12_lyingOf_4 ⟨⟨by omega, by omega⟩, ⟨by omega, by omega⟩, fun _ => k, fun c => absurd (by omega) c⟩
  | succ n ih => intro r hr; exact l_X12_lyingOf_4 ⟨⟨by omega, by omega⟩, ⟨by omega, by omega⟩, fun c => absurd c (by omega), fun _ => ⟨by omega, ih (r + 1) (by omega)⟩⟩
theorem m_sumNow {a : Int} {n : Nat} (ha : 0 ≤ a ∧ a + n ≤ 109) (k : K (sm n (fun i => h 104 (a + i))) h) : C_X12_sumNow w a n h K := by
  refine c_X12_sumNow ?_
  suffices ∀ m i : Nat, i + m = n → L_X12_sumNow_5 w a n (sm i (fun i => h 104 (a + i))) (a + i) h K by
    have q := this n 0 (by omega)
    rwa [show a + ((0 : Nat) : Int) = a by omega] at q
  intro m
  induction m with
  | zero => intro i hi; obtain rfl : i = n := by omega
            exact l_X12_sumNow_5 ⟨⟨by omega, by omega⟩, ⟨by omega, by omega⟩, fun _ => k, fun c => absurd (Int.le_refl _) c⟩
  | succ m ih =>
    intro i hi
    have e := ih (i + 1) (by omega)
    refine l_X12_sumNow_5 ⟨⟨by omega, by omega⟩, ⟨by omega, by omega⟩, fun c => absurd c (by omega), fun _ => ⟨by omega, ?_⟩⟩
    rw [show a + ((i + 1 : Nat) : Int) = a + i + 1 by omega] at e
    exact e
theorem m_ownersIn {r a : Int} {nb : Nat} (hnb : h 93 5 = nb) (hb : nb ≤ 10) (hr : 0 ≤ r ∧ r < 8) (ha : inR a) (hw : ∀ b : Int, 0 ≤ b → b < nb → inR (h 96 (50 + 5 * b + 0))) (k : K (sm nb (fun b => if h 96 (50 + 5 * b + 0) = a then h 104 (29 + 10 * r + b) else 0)) h) : C_X12_ownersIn w r a h K := by
  refine c_X12_ownersIn ?_
  suffices ∀ n b : Nat, b + n = nb → L_X12_ownersIn_5 w r a (sm b (fun b => if h 96 (50 + 5 * b + 0) = a then h 104 (29 + 10 * r + b) else 0)) b h K from this nb 0 (by omega)
  intro n
  induction n with
  | zero => intro b hb; obtain rfl : b = nb := by omega
            exact l_X12_ownersIn_5 ⟨⟨by omega, by omega⟩, ⟨by omega, by omega⟩, fun _ => k, fun c => absurd (by omega) c⟩
  | succ n ih =>
    intro b hb'
    have e := ih (b + 1) (by omega)
    refine l_X12_ownersIn_5 ⟨⟨by omega, by omega⟩, ⟨by omega, by omega⟩, fun c => absurd c (by omega), fun _ => ⟨by omega, hw b (by omega) (by omega), ha, fun c => ?_, fun c => ⟨by omega, ?_⟩⟩⟩
    · rw [show sm (b + 1) (fun b => if h 96 (50 + 5 * b + 0) = a then h 104 (29 + 10 * r + b) else 0) = sm b (fun b => if h 96 (50 + 5 * b + 0) = a then h 104 (29 + 10 * r + b) else 0) from (congrArg _ (if_neg c)).trans (Int.add_zero _)] at e; exact e
    · rw [show sm (b + 1) (fun b => if h 96 (50 + 5 * b + 0) = a then h 104 (29 + 10 * r + b) else 0) = sm b (fun b => if h 96 (50 + 5 * b + 0) = a then h 104 (29 + 10 * r + b) else 0) + h 104 (29 + 10 * r + b) from congrArg _ (if_pos (Classical.not_not.mp c))] at e; exact e
theorem m_tintOf {r a : Int} {nb : Nat} (hnb : h 93 5 = nb) (hb : nb ≤ 10) (hr : 0 ≤ r ∧ r < 8) (ha : inR a) (hw : ∀ b : Int, 0 ≤ b → b < nb → inR (h 96 (50 + 5 * b + 1))) (k : K (sm nb (fun b => if h 96 (50 + 5 * b + 1) = a then h 104 (29 + 10 * r + b) else 0)) h) : C_X12_tintOf w r a h K := by
  refine c_X12_tintOf ?_
  suffices ∀ n b : Nat, b + n = nb → L_X12_tintOf_5 w r a (sm b (fun b => if h 96 (50 + 5 * b + 1) = a then h 104 (29 + 10 * r + b) else 0)) b h K from this nb 0 (by omega)
  intro n
  induction n with
  | zero => intro b hb; obtain rfl : b = nb := by omega
            exact l_X12_tintOf_5 ⟨⟨by omega, by omega⟩, ⟨by omega, by omega⟩, fun _ => k, fun c => absurd (by omega) c⟩
  | succ n ih =>
    intro b hb'
    have e := ih (b + 1) (by omega)
    refine l_X12_tintOf_5 ⟨⟨by omega, by omega⟩, ⟨by omega, by omega⟩, fun c => absurd c (by omega), fun _ => ⟨by omega, hw b (by omega) (by omega), ha, fun c => ?_, fun c => ⟨by omega, ?_⟩⟩⟩
    · rw [show sm (b + 1) (fun b => if h 96 (50 + 5 * b + 1) = a then h 104 (29 + 10 * r + b) else 0) = sm b (fun b => if h 96 (50 + 5 * b + 1) = a then h 104 (29 + 10 * r + b) else 0) from (congrArg _ (if_neg c)).trans (Int.add_zero _)] at e; exact e
    · rw [show sm (b + 1) (fun b => if h 96 (50 + 5 * b + 1) = a then h 104 (29 + 10 * r + b) else 0) = sm b (fun b => if h 96 (50 + 5 * b + 1) = a then h 104 (29 + 10 * r + b) else 0) + h 104 (29 + 10 * r + b) from congrArg _ (if_pos (Classical.not_not.mp c))] at e; exact e
end L2A
