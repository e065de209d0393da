/-! what both sides hold between calls: the river, a state -/
/-- the class's river at r is the reference's -/
def RR (h : Hp) (r : Int) : Prop :=
  (r = 6 ∨ r = 23) ∧ (h r 12 = h 68 36 ∧ (h 68 36 = 0 ∨ 3 ≤ h 68 36) ∧ h 68 36 ≤ 8) ∧
  (h (r + 1) 1 = h 93 3 ∧ 0 ≤ h 93 3 ∧ h 93 3 ≤ 5) ∧ (h (r + 3) 1 = h 93 4 ∧ 0 ≤ h 93 4 ∧ h 93 4 ≤ 5) ∧ (h (r + 5) 1 = h 93 5 ∧ 0 ≤ h 93 5 ∧ h 93 5 ≤ 10) ∧
  (∀ i : Int, 0 ≤ i → i < 8 → h (r + 7) i = h 95 (8 + i) ∧ 0 ≤ h 95 (8 + i) ∧ h 95 (8 + i) ≤ 9) ∧
  (∀ b : Int, 0 ≤ b → b < h 93 5 → (h (r + 8) b = h 96 (50 + 5 * b + 0) ∧ 0 ≤ h 96 (50 + 5 * b + 0) ∧ h 96 (50 + 5 * b + 0) < h 93 3) ∧ (h (r + 9) b = h 96 (50 + 5 * b + 1) ∧ 0 ≤ h 96 (50 + 5 * b + 1) ∧ h 96 (50 + 5 * b + 1) < h 93 4) ∧
    (h (r + 10) b = h 96 (50 + 5 * b + 2) ∧ 0 ≤ h 96 (50 + 5 * b + 2) ∧ h 96 (50 + 5 * b + 2) < h 68 36) ∧ (h (r + 11) b = h 96 (50 + 5 * b + 3) ∧ 0 ≤ h 96 (50 + 5 * b + 3) ∧ h 96 (50 + 5 * b + 3) ≤ 99) ∧ (h (r + 12) b = h 96 (50 + 5 * b + 4) ∧ 1 ≤ h 96 (50 + 5 * b + 4) ∧ h 96 (50 + 5 * b + 4) ≤ 9)) ∧
  (∀ b : Int, h 93 5 ≤ b → b < 10 → h (r + 11) b = 0) ∧
  (h r 13 = h 97 3 ∧ 1 ≤ h 97 3 ∧ h 97 3 ≤ 99) ∧ (h r 14 = h 97 4 ∧ 1 ≤ h 97 4 ∧ h 97 4 ≤ 99) ∧ (h r 15 = h 97 5 ∧ 0 ≤ h 97 5 ∧ h 97 5 ≤ 50)
def nbN (h : Hp) : Nat := (h 93 5).toNat
def nrN (h : Hp) : Nat := (h 68 36).toNat
def tAll (h : Hp) : Int := sm 10 (fun b => if b < h 93 5 then h 96 (50 + 5 * b + 3) else 0)
/-- a good state, in the reference's places: year, stones, held, sea, lies -/
def GS (h : Hp) (g : Int → Int) : Prop :=
  (0 ≤ g 0 ∧ g 0 ≤ 999) ∧ (∀ r : Int, 0 ≤ r → r < 8 → 0 ≤ g (1 + r) ∧ g (1 + r) ≤ 3 ∧ (h 68 36 ≤ r → g (1 + r) = 0)) ∧
  (∀ b : Int, 0 ≤ b → b < 10 → 0 ≤ g (9 + b) ∧ g (9 + b) ≤ 255 ∧ 0 ≤ g (19 + b) ∧ (h 93 5 ≤ b → g (9 + b) = 0 ∧ g (19 + b) = 0)) ∧
  (∀ r b : Int, 0 ≤ r → r < 8 → 0 ≤ b → b < 10 → 0 ≤ g (29 + 10 * r + b) ∧ (h 68 36 ≤ r ∨ h 93 5 ≤ b → g (29 + 10 * r + b) = 0)) ∧
  sm 8 (fun r => sm 10 (fun b => g (29 + 10 * r + b))) + sm 10 (fun b => g (9 + b)) + sm 10 (fun b => g (19 + b)) = tAll h
/-- the class's state at s is g -/
def SX (h : Hp) (s : Int) (g : Int → Int) : Prop :=
  h s 4 = g 0 ∧ (∀ r : Int, 0 ≤ r → r < 8 → h (s + 1) r = g (1 + r)) ∧ (∀ b : Int, 0 ≤ b → b < 10 → h (s + 3) b = g (9 + b) ∧ h (s + 4) b = g (19 + b)) ∧
  ∀ r b : Int, 0 ≤ r → r < 8 → 0 ≤ b → b < 10 → h (s + 2) (r * 10 + b) = g (29 + 10 * r + b)
def lA (h : Hp) (r : Int) : Int := sm (nbN h) (fun b => h 104 (29 + 10 * r + b))
def oA (h : Hp) (r a : Int) : Int := sm (nbN h) (fun b => if h 96 (50 + 5 * b + 0) = a then h 104 (29 + 10 * r + b) else 0)
def cA (h : Hp) (r a : Int) : Int := sm (nbN h) (fun b => if h 96 (50 + 5 * b + 1) = a then h 104 (29 + 10 * r + b) else 0)
theorem RR.ob {h : Hp} {r : Int} (R : RR h r) : Ob 7 r := by rcases R.1 with rfl | rfl <;> exact ⟨by decide, rfl⟩
theorem RR.nb {h : Hp} {r : Int} (R : RR h r) : h 93 5 = nbN h ∧ nbN h ≤ 10 ∧ h (r + 5) 1 = nbN h := by
  obtain ⟨-, -, -, -, ⟨h1, h2, h3⟩, -⟩ := R
  unfold nbN
  omega
theorem RR.nr {h : Hp} {r : Int} (R : RR h r) : h 68 36 = nrN h ∧ nrN h ≤ 8 ∧ h r 12 = nrN h ∧ (nrN h = 0 ∨ 3 ≤ nrN h) := by
  obtain ⟨-, ⟨h1, h2, h3⟩, -⟩ := R
  unfold nrN
  omega
theorem RR.ow {h : Hp} {r : Int} (R : RR h r) : h (r + 1) 1 = h 93 3 ∧ 0 ≤ h 93 3 ∧ h 93 3 ≤ 5 := R.2.2.1
theorem RR.co {h : Hp} {r : Int} (R : RR h r) : h (r + 3) 1 = h 93 4 ∧ 0 ≤ h 93 4 ∧ h 93 4 ≤ 5 := R.2.2.2.1
theorem RR.sl {h : Hp} {r : Int} (R : RR h r) : ∀ i : Int, 0 ≤ i → i < 8 → h (r + 7) i = h 95 (8 + i) ∧ 0 ≤ h 95 (8 + i) ∧ h 95 (8 + i) ≤ 9 := R.2.2.2.2.2.1
theorem RR.bk {h : Hp} {r : Int} (R : RR h r) {b : Int} (h0 : 0 ≤ b) (h1 : b < nbN h) : (h (r + 8) b = h 96 (50 + 5 * b + 0) ∧ 0 ≤ h 96 (50 + 5 * b + 0) ∧ h 96 (50 + 5 * b + 0) < h 93 3) ∧ (h (r + 9) b = h 96 (50 + 5 * b + 1) ∧ 0 ≤ h 96 (50 + 5 * b + 1) ∧ h 96 (50 + 5 * b + 1) < h 93 4) ∧
    (h (r + 10) b = h 96 (50 + 5 * b + 2) ∧ 0 ≤ h 96 (50 + 5 * b + 2) ∧ h 96 (50 + 5 * b + 2) < h 68 36) ∧ (h (r + 11) b = h 96 (50 + 5 * b + 3) ∧ 0 ≤ h 96 (50 + 5 * b + 3) ∧ h 96 (50 + 5 * b + 3) ≤ 99) ∧ (h (r + 12) b = h 96 (50 + 5 * b + 4) ∧ 1 ≤ h 96 (50 + 5 * b + 4) ∧ h 96 (50 + 5 * b + 4) ≤ 9) :=
  R.2.2.2.2.2.2.1 b h0 (by have := R.nb; omega)
theorem RR.se {h : Hp} {r : Int} (R : RR h r) : (h r 13 = h 97 3 ∧ 1 ≤ h 97 3 ∧ h 97 3 ≤ 99) ∧ (h r 14 = h 97 4 ∧ 1 ≤ h 97 4 ∧ h 97 4 ≤ 99) ∧ (h r 15 = h 97 5 ∧ 0 ≤ h 97 5 ∧ h 97 5 ≤ 50) := R.2.2.2.2.2.2.2.2
theorem tAll_b {h : Hp} {r : Int} (R : RR h r) : 0 ≤ tAll h ∧ tAll h ≤ 990 := by
  have hb : ∀ b : Int, 0 ≤ b → b < (10 : Nat) → 0 ≤ (if b < h 93 5 then h 96 (50 + 5 * b + 3) else 0) ∧ (if b < h 93 5 then h 96 (50 + 5 * b + 3) else 0) ≤ 99 := by
    intro b h0 h1
    by_cases g : b < h 93 5
    · rw [if_pos g]; have := R.bk h0 (by have := R.nb; omega); exact ⟨this.2.2.2.1.2.1, this.2.2.2.1.2.2⟩
    · rw [if_neg g]; omega
  refine ⟨sm_nonneg fun b h0 h1 => (hb b h0 h1).1, ?_⟩
  have := sm_le (n := 10) (f := fun b => if b < h 93 5 then h 96 (50 + 5 * b + 3) else 0) (g := fun _ => 99) fun b h0 h1 => (hb b h0 h1).2
  exact this
theorem GS.bnd {h : Hp} {r : Int} {g : Int → Int} (R : RR h r) (G : GS h g) : (∀ x : Int, 0 ≤ x → x < 8 → 0 ≤ sm 10 (fun b => g (29 + 10 * x + b)) ∧ sm 10 (fun b => g (29 + 10 * x + b)) ≤ 990) ∧ (∀ b : Int, 0 ≤ b → b < 10 → g (9 + b) ≤ 990 ∧ g (19 + b) ≤ 990) ∧ (∀ x b : Int, 0 ≤ x → x < 8 → 0 ≤ b → b < 10 → g (29 + 10 * x + b) ≤ 990) := by
  obtain ⟨-, -, g3, g4, g5⟩ := G
  have ht := tAll_b R
  have n1 : ∀ x : Int, 0 ≤ x → x < (8 : Nat) → 0 ≤ sm 10 (fun b => g (29 + 10 * x + b)) := fun x h0 h1 => sm_nonneg fun b b0 b1 => (g4 x b h0 h1 b0 b1).1
  have n2 : 0 ≤ sm 10 (fun b => g (9 + b)) := sm_nonneg fun b b0 b1 => (g3 b b0 b1).1
  have n3 : 0 ≤ sm 10 (fun b => g (19 + b)) := sm_nonneg fun b b0 b1 => (g3 b b0 b1).2.2.1
  have n4 : 0 ≤ sm 8 (fun r => sm 10 (fun b => g (29 + 10 * r + b))) := sm_nonneg n1
  refine ⟨fun x h0 h1 => ⟨n1 x h0 h1, ?_⟩, fun b b0 b1 => ⟨?_, ?_⟩, fun x b h0 h1 b0 b1 => ?_⟩
  · have := sm_at n1 ⟨h0, h1⟩; omega
  · have := sm_at (n := 10) (f := fun b => g (9 + b)) (fun b b0 b1 => (g3 b b0 b1).1) (k := b) ⟨b0, b1⟩; omega
  · have := sm_at (n := 10) (f := fun b => g (19 + b)) (fun b b0 b1 => (g3 b b0 b1).2.2.1) (k := b) ⟨b0, b1⟩; omega
  · have h3 := sm_at n1 ⟨h0, h1⟩
    have h4 := sm_at (n := 10) (f := fun b => g (29 + 10 * x + b)) (fun b b0 b1 => (g4 x b h0 h1 b0 b1).1) (k := b) ⟨b0, b1⟩
    omega
section L2B
variable {w : Wd} {h : Hp} {K : Int → Hp → Prop} {r s : Int}
theorem lA_10 (R : RR h r) (G : GS h (h 104)) {x : Int} (hx : 0 ≤ x ∧ x < 8) : sm 10 (fun b => h 104 (29 + 10 * x + b)) = lA h x := by
  have := R.nb
  exact sm_more (by omega) fun b h0 h1 => (G.2.2.2.1 x b hx.1 hx.2 (by omega) h1).2 (Or.inr (by omega))
theorem lA_eq (R : RR h r) (G : GS h (h 104)) (S : SX h s (h 104)) {x : Int} (hx : 0 ≤ x ∧ x < 8) : sm 10 (fun b => h (s + 2) (x * 10 + b)) = lA h x := by
  rw [← lA_10 R G hx]
  exact sm_congr fun b h0 h1 => S.2.2.2 x b hx.1 hx.2 h0 h1
theorem lA_b (R : RR h r) (G : GS h (h 104)) {x : Int} (hx : 0 ≤ x ∧ x < 8) : 0 ≤ lA h x ∧ lA h x ≤ 990 := by
  rw [← lA_10 R G hx]
  exact (G.bnd R).1 x hx.1 hx.2
theorem oA_b (R : RR h r) (G : GS h (h 104)) {x a : Int} (hx : 0 ≤ x ∧ x < 8) : 0 ≤ oA h x a ∧ oA h x a ≤ lA h x := by
  have hb := R.nb
  have g : ∀ b : Int, 0 ≤ b → b < nbN h → 0 ≤ h 104 (29 + 10 * x + b) := fun b h0 h1 => (G.2.2.2.1 x b hx.1 hx.2 h0 (by omega)).1
  refine ⟨sm_nonneg fun b h0 h1 => ?_, sm_le fun b h0 h1 => ?_⟩
  · split
    · exact g b h0 h1
    · exact Int.le_refl _
  · split
    · exact Int.le_refl _
    · exact g b h0 h1
theorem cA_b (R : RR h r) (G : GS h (h 104)) {x a : Int} (hx : 0 ≤ x ∧ x < 8) : 0 ≤ cA h x a ∧ cA h x a ≤ lA h x := by
  have hb := R.nb
  have g : ∀ b : Int, 0 ≤ b → b < nbN h → 0 ≤ h 104 (29 + 10 * x + b) := fun b h0 h1 => (G.2.2.2.1 x b hx.1 hx.2 h0 (by omega)).1
  refine ⟨sm_nonneg fun b h0 h1 => ?_, sm_le fun b h0 h1 => ?_⟩
  · split
    · exact g b h0 h1
    · exact Int.le_refl _
  · split
    · exact Int.le_refl _
    · exact g b h0 h1
theorem x_lyingIn (R : RR h r) (G : GS h (h 104)) (S : SX h s (h 104)) (hs : Ob 9 s) {x : Int} (hx : 0 ≤ x ∧ x < 8) (k : K (lA h x) h) : C_X9_lyingIn w s x h K := s_lyingIn hs hx (by rw [lA_eq R G S hx]; exact k)
theorem x_owned (R : RR h r) (G : GS h (h 104)) (S : SX h s (h 104)) (hs : Ob 9 s) {x a : Int} (hx : 0 ≤ x ∧ x < 8) (ha : inR a) (k : K (oA h x a) h) : C_X9_owned w s r x a h K := by
  have hb := R.nb
  have ho := R.ow
  refine s_owned hs R.ob hb.2.2 hb.2.1 hx ha (fun b h0 h1 => ?_) ?_
  · have := (R.bk h0 h1).1; exact ⟨by omega, by omega⟩
  · have e : sm (nbN h) (fun b => if h (r + 8) b = a then h (s + 2) (x * 10 + b) else 0) = oA h x a := sm_congr fun b h0 h1 => by
      rw [(R.bk h0 h1).1.1, S.2.2.2 x b hx.1 hx.2 h0 (by omega)]
    rw [e]; exact k
theorem x_coloured (R : RR h r) (G : GS h (h 104)) (S : SX h s (h 104)) (hs : Ob 9 s) {x a : Int} (hx : 0 ≤ x ∧ x < 8) (ha : inR a) (k : K (cA h x a) h) : C_X9_coloured w s r x a h K := by
  have hb := R.nb
  have ho := R.co
  refine s_coloured hs R.ob hb.2.2 hb.2.1 hx ha (fun b h0 h1 => ?_) ?_
  · have := (R.bk h0 h1).2.1; exact ⟨by omega, by omega⟩
  · have e : sm (nbN h) (fun b => if h (r + 9) b = a then h (s + 2) (x * 10 + b) else 0) = cA h x a := sm_congr fun b h0 h1 => by
      rw [(R.bk h0 h1).2.1.1, S.2.2.2 x b hx.1 hx.2 h0 (by omega)]
    rw [e]; exact k
theorem y_liesAll (R : RR h r) {x : Int} (hx : 0 ≤ x ∧ x < 8) (k : K (lA h x) h) : C_X12_liesAll w x h K := m_liesAll R.nb.1 R.nb.2.1 hx k
theorem y_ownersIn (R : RR h r) {x a : Int} (hx : 0 ≤ x ∧ x < 8) (ha : inR a) (k : K (oA h x a) h) : C_X12_ownersIn w x a h K := by
  have ho := R.ow
  exact m_ownersIn R.nb.1 R.nb.2.1 hx ha (fun b h0 h1 => by have := (R.bk h0 h1).1; exact ⟨by omega, by omega⟩) k
theorem y_tintOf (R : RR h r) {x a : Int} (hx : 0 ≤ x ∧ x < 8) (ha : inR a) (k : K (cA h x a) h) : C_X12_tintOf w x a h K := by
  have ho := R.co
  exact m_tintOf R.nb.1 R.nb.2.1 hx ha (fun b h0 h1 => by have := (R.bk h0 h1).2.1; exact ⟨by omega, by omega⟩) k
theorem x_hasReach (R : RR h r) {a : Int} (ha : inR a) (k1 : 0 ≤ a ∧ a < nrN h → K 1 h) (k0 : ¬ (0 ≤ a ∧ a < nrN h) → K 0 h) : C_X7_hasReach w r a h K := by
  have hn := R.nr
  refine c_X7_hasReach R.ob ?_
  repeat' (first | exact ha | exact ⟨by omega, by omega⟩ | refine ⟨?_, ?_⟩ | intro _)
  all_goals first | exact k0 (by omega) | exact k1 (by omega)
theorem x_hasBank (R : RR h r) {a : Int} (ha : inR a) (k1 : 0 ≤ a ∧ a < nbN h → K 1 h) (k0 : ¬ (0 ≤ a ∧ a < nbN h) → K 0 h) : C_X7_hasBank w r a h K := by
  have hn := R.nb
  refine c_X7_hasBank R.ob ?_
  repeat' (first | exact ha | exact ⟨by omega, by omega⟩ | refine ⟨?_, ?_⟩ | intro _)
  all_goals first | exact k0 (by omega) | exact k1 (by omega)
end L2B
