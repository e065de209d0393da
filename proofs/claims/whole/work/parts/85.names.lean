/-! names of a list, on both sides; g: what is told so far, in the reference's places -/
theorem hv_one {l l' : Nat → Int} : ∀ n n' : Nat, (∀ k : Nat, k < n → 1 ≤ l k ∧ l k ≤ 26) → (∀ k : Nat, k < n' → 1 ≤ l' k ∧ l' k ≤ 26) → hv l n = hv l' n' → n = n' ∧ ∀ k : Nat, k < n → l k = l' k := by
  intro n
  induction n with
  | zero =>
    intro n' _ h2 e
    cases n' with
    | zero => exact ⟨rfl, fun k hk => absurd hk (Nat.not_lt_zero _)⟩
    | succ n' =>
      have := (hv_pos h2).2 (by omega)
      rw [← e] at this
      exact absurd this (by show ¬ (0 : Int) < 0; decide)
  | succ n ih =>
    intro n' h1 h2 e
    cases n' with
    | zero =>
      have := (hv_pos h1).2 (by omega)
      rw [e] at this
      exact absurd this (by show ¬ (0 : Int) < 0; decide)
    | succ n' =>
      have e : 27 * hv l n + l n = 27 * hv l' n' + l' n' := e
      have b1 := h1 n (by omega)
      have b2 := h2 n' (by omega)
      obtain ⟨i1, i2⟩ := ih n' (fun k hk => h1 k (by omega)) (fun k hk => h2 k (by omega)) (by omega)
      subst i1
      refine ⟨rfl, fun k hk => ?_⟩
      by_cases d : k = n
      · subst d; omega
      · exact i2 k (by omega)
theorem NmR.eq {p v p' v' : Int} (A : NmR p v) (B : NmR p' v') : p = p' ↔ v = v' := by
  obtain ⟨l, n, n1, n6, V, Z, rfl, rfl, bl⟩ := A.digits
  obtain ⟨l', n', n1', n6', V', Z', rfl, rfl, bl'⟩ := B.digits
  constructor
  · intro e
    have eq : ∀ k : Nat, k < 6 → l k = l' k := fun k hk => by rw [← (hp_at bl hk).1, ← (hp_at bl' hk).1, e]
    have en : n = n' := by
      rcases Nat.lt_trichotomy n n' with g | g | g
      · have := eq n (by omega); rw [Z n (by omega)] at this; have := V' n g; omega
      · exact g
      · have := eq n' (by omega); rw [Z' n' (by omega)] at this; have := V n' g; omega
    subst en
    exact hv_cg n (fun k hk => eq k (by omega))
  · intro e
    obtain ⟨rfl, eq⟩ := hv_one n n' V V' e
    refine hp_cg 6 (fun k hk => ?_)
    by_cases d : k < n
    · exact eq k d
    · rw [Z k (by omega), Z' k (by omega)]
theorem NmR.r {p v : Int} (A : NmR p v) : inR p ∧ inL v ∧ p ≠ 0 := by
  obtain ⟨l, n, n1, n6, V, Z, rfl, rfl, bl⟩ := A.digits
  have a := (hp_at bl (k := 0) (by decide))
  have b := hv_b n6 V
  refine ⟨a.2, ⟨by omega, by omega⟩, fun c => ?_⟩
  have e := a.1
  rw [c, Int.zero_ediv, Int.zero_emod] at e
  have := V 0 (by omega)
  omega
theorem NAn.r {t : Int → Int} {L q n : Nat} (N : NAn t L q n) : NmR (hp (nml t q n) 6) (hv (nml t q n) n) :=
  ⟨nml t q n, n, N.1, N.2.1, fun k hk => by have := N.2.2.2.1 k hk; unfold nml; rw [if_pos hk]; omega, fun k hk => nml_z k hk, rfl, rfl⟩
def NI (g : Hp) (k v z : Int) : Prop := (z = -1 ∧ ∀ i : Int, 0 ≤ i → i < g 93 k → g 94 (10 * k + i) ≠ v) ∨ (0 ≤ z ∧ z < g 93 k ∧ g 94 (10 * k + z) = v ∧ ∀ i : Int, 0 ≤ i → i < z → g 94 (10 * k + i) ≠ v)
theorem NI.one {g : Hp} {k v z z' : Int} (A : NI g k v z) (B : NI g k v z') : z = z' := by
  rcases A with ⟨a1, a2⟩ | ⟨a1, a2, a3, a4⟩
  · rcases B with ⟨b1, b2⟩ | ⟨b1, b2, b3, b4⟩
    · omega
    · exact absurd b3 (a2 z' b1 b2)
  · rcases B with ⟨b1, b2⟩ | ⟨b1, b2, b3, b4⟩
    · exact absurd a3 (b2 z a1 a2)
    · rcases Int.lt_trichotomy z z' with g | g | g
      · exact absurd a3 (b4 z a1 g)
      · exact g
      · exact absurd b3 (a4 z' b1 g)
section L3Q
variable {w : Wd} {h h0 g : Hp} {K : Int → Hp → Prop} {t : Int → Int} {L p : Nat}
theorem x_indexOf {o k : Int} (ho : Ob 4 o) {nA : Nat} (hA : Ar 0 nA (o + 1)) {x v : Int} (N : NmR x v) (e : h o 1 = g 93 k) (b : 0 ≤ g 93 k ∧ g 93 k ≤ nA ∧ nA ≤ 10) (V : ∀ i : Int, 0 ≤ i → i < g 93 k → NmR (h (o + 1) i) (g 94 (10 * k + i))) (kk : ∀ z, NI g k v z → K z h) : C_X4_indexOf w o x h K := by
  refine c_X4_indexOf ho hA ?_
  suffices ∀ j n : Nat, (n : Int) + j = g 93 k → (∀ i : Int, 0 ≤ i → i < n → g 94 (10 * k + i) ≠ v) → L_X4_indexOf_2 w o x n h K from this (g 93 k).toNat 0 (by omega) (fun i i0 i1 => absurd i1 (by omega))
  intro j
  induction j with
  | zero =>
    intro n hn no
    refine l_X4_indexOf_2 ho hA ?_
    rw [e]
    exact ⟨⟨by omega, by omega⟩, ⟨by omega, by omega⟩, fun _ => kk (-1) (Or.inl ⟨rfl, fun i i0 i1 => no i i0 (by omega)⟩), fun c => absurd (by omega) c⟩
  | succ j ih =>
    intro n hn no
    have Nn := V n (by omega) (by omega)
    refine l_X4_indexOf_2 ho hA ?_
    rw [e]
    refine ⟨⟨by omega, by omega⟩, ⟨by omega, by omega⟩, fun c => absurd c (by omega), fun _ => ⟨⟨by omega, by omega⟩, fun c => absurd c (by show ¬ (n : Int) ≥ (nA : Int); omega), fun _ => ⟨⟨by omega, by omega⟩, Nn.r.1, N.r.1, fun c => ?_, fun c => ?_⟩⟩⟩
    · exact ih (n + 1) (by omega) (fun i i0 i1 => by
        by_cases d : i = n
        · subst d; exact fun x => c ((Nn.eq N).mpr x)
        · exact no i i0 (by omega))
    · exact kk n (Or.inr ⟨by omega, by omega, (Nn.eq N).mp (Decidable.not_not.mp c), no⟩)
theorem y_nameOf {k v : Int} (hk : 0 ≤ k ∧ k < 3) (hv : inL v) (e : h 93 k = g 93 k) (b : 0 ≤ g 93 k ∧ g 93 k ≤ 10) (V : ∀ i : Int, 0 ≤ i → i < g 93 k → h 94 (10 * k + i) = g 94 (10 * k + i) ∧ inL (g 94 (10 * k + i))) (kk : ∀ z, NI g k v z → K z h) : C_X12_nameOf w k v h K := by
  refine c_X12_nameOf ?_
  suffices ∀ j n : Nat, (n : Int) + j = g 93 k → (∀ i : Int, 0 ≤ i → i < n → g 94 (10 * k + i) ≠ v) → L_X12_nameOf_3 w k v n h K from this (g 93 k).toNat 0 (by omega) (fun i i0 i1 => absurd i1 (by omega))
  intro j
  induction j with
  | zero =>
    intro n hn no
    refine l_X12_nameOf_3 ?_
    rw [e]
    exact ⟨⟨by omega, by omega⟩, ⟨by omega, by omega⟩, ⟨by omega, by omega⟩, fun _ => kk (-1) (Or.inl ⟨rfl, fun i i0 i1 => no i i0 (by omega)⟩), fun c => absurd (by omega) c⟩
  | succ j ih =>
    intro n hn no
    have Vn := V n (by omega) (by omega)
    refine l_X12_nameOf_3 ?_
    rw [e, Vn.1]
    refine ⟨⟨by omega, by omega⟩, ⟨by omega, by omega⟩, ⟨by omega, by omega⟩, fun c => absurd c (by omega), fun _ => ⟨⟨by omega, by omega⟩, Vn.2, hv, fun c => ?_, fun c => ?_⟩⟩
    · exact ih (n + 1) (by omega) (fun i i0 i1 => by
        by_cases d : i = n
        · subst d; exact c
        · exact no i i0 (by omega))
    · exact kk n (Or.inr ⟨by omega, by omega, Decidable.not_not.mp c, no⟩)
end L3Q
