/-! the class's reckoner: join, reckon -/
theorem ixor_sign {x y : Int} (hx : inR x) (hy : inR y) : ixorI x y ≥ 0 ↔ (0 ≤ x ↔ 0 ≤ y) := by
  have m : ∀ z : Int, inR z → (Int32.ofInt z).toBitVec.msb = decide (z < 0) := fun z hz => by
    rw [BitVec.msb_eq_toInt]
    have : (Int32.ofInt z).toBitVec.toInt = z := i32_to hz
    rw [this]
  have e : (Int32.ofInt x ^^^ Int32.ofInt y).toBitVec.msb = decide (ixorI x y < 0) := by
    rw [BitVec.msb_eq_toInt]; rfl
  rw [Int32.toBitVec_xor, BitVec.msb_xor, m x hx, m y hy] at e
  by_cases g1 : x < 0 <;> by_cases g2 : y < 0 <;> simp [g1, g2] at e <;> omega
theorem fdiv_t {a b : Int} (hb : b ≠ 0) : ((0 ≤ a ↔ 0 ≤ b) → Int.tdiv a b = Int.fdiv a b) ∧ (¬ (0 ≤ a ↔ 0 ≤ b) → (Int.tdiv a b * b = a → Int.tdiv a b = Int.fdiv a b) ∧ (¬ Int.tdiv a b * b = a → Int.tdiv a b - 1 = Int.fdiv a b)) := by
  have key : ∀ a b : Int, 0 < b → (0 ≤ a → Int.tdiv a b = Int.fdiv a b) ∧ (a < 0 → (Int.tdiv a b * b = a → Int.tdiv a b = Int.fdiv a b) ∧ (¬ Int.tdiv a b * b = a → Int.tdiv a b - 1 = Int.fdiv a b)) := by
    intro a b hb
    rw [Int.fdiv_eq_ediv_of_nonneg _ (by omega)]
    refine ⟨fun ha => Int.tdiv_eq_ediv_of_nonneg ha, fun ha => ?_⟩
    have e : Int.tdiv a b = -((-a) / b) := by
      have : Int.tdiv (-(-a)) b = -(Int.tdiv (-a) b) := Int.neg_tdiv ..
      rw [Int.neg_neg] at this
      rw [this, Int.tdiv_eq_ediv_of_nonneg (by omega)]
    have h1 := Int.mul_ediv_add_emod (-a) b
    have h2 := Int.emod_nonneg (-a) (show b ≠ 0 by omega)
    have h3 := Int.emod_lt_of_pos (-a) hb
    rw [e]
    obtain ⟨m, hm⟩ : ∃ m, m = (-a) / b := ⟨_, rfl⟩
    obtain ⟨t, ht⟩ : ∃ t, t = (-a) % b := ⟨_, rfl⟩
    rw [← hm, ← ht] at h1
    rw [← ht] at h2 h3
    rw [← hm]
    refine ⟨fun g => ?_, fun g => ?_⟩
    · have := (Int.ediv_emod_unique (a := a) (b := b) (q := -m) (r := 0) hb).mpr ⟨by rw [Int.mul_comm]; omega, by omega, hb⟩
      exact this.1.symm
    · have g3 : -m * b = -(b * m) := by rw [Int.neg_mul, Int.mul_comm]
      rw [g3] at g
      have := (Int.ediv_emod_unique (a := a) (b := b) (q := -m - 1) (r := b - t) hb).mpr ⟨by rw [Int.mul_sub, Int.mul_neg, Int.mul_one]; omega, by omega, by omega⟩
      exact this.1.symm
  rcases Int.lt_or_gt_of_ne hb with g | g
  · have k := key (-a) (-b) (by omega)
    rw [Int.neg_fdiv_neg, Int.tdiv_neg, Int.neg_tdiv, Int.neg_neg] at k
    have e : a.tdiv b * -b = -a ↔ a.tdiv b * b = a := by rw [Int.mul_neg]; omega
    rw [e] at k
    by_cases ha : 0 ≤ a
    · by_cases h0 : a = 0
      · subst h0; refine ⟨fun q => absurd q (by omega), fun _ => ⟨fun _ => k.1 (by omega), fun q => absurd (by rw [Int.zero_tdiv]; omega) q⟩⟩
      · exact ⟨fun q => absurd q (by omega), fun _ => k.2 (by omega)⟩
    · exact ⟨fun _ => k.1 (by omega), fun q => absurd (by omega) q⟩
  · have k := key a b g
    by_cases ha : 0 ≤ a
    · exact ⟨fun _ => k.1 ha, fun q => absurd (by omega) q⟩
    · exact ⟨fun q => absurd q (by omega), fun _ => k.2 (by omega)⟩
theorem tdiv_ok {a b : Int} (ha : -1000000 ≤ a ∧ a ≤ 1000000) : -1000000 ≤ Int.tdiv a b * b ∧ Int.tdiv a b * b ≤ 1000000 := by
  have h := Int.mul_tdiv_add_tmod a b
  rw [Int.mul_comm] at h
  by_cases g : 0 ≤ a
  · have h1 := Int.tmod_nonneg b g
    have h2 : Int.tmod a b ≤ a := by
      have e1 := Int.natAbs_tmod a b
      have e2 := Nat.mod_le (Int.natAbs a) (Int.natAbs b)
      omega
    omega
  · have h1 : Int.tmod a b ≤ 0 := by
      have : Int.tmod (-(-a)) b = -(Int.tmod (-a) b) := Int.neg_tmod ..
      rw [Int.neg_neg] at this
      have := Int.tmod_nonneg b (a := -a) (by omega)
      omega
    have h2 : a ≤ Int.tmod a b := by
      have : Int.tmod (-(-a)) b = -(Int.tmod (-a) b) := Int.neg_tmod ..
      rw [Int.neg_neg] at this
      have e1 := Int.natAbs_tmod (-a) b
      have e2 := Nat.mod_le (Int.natAbs (-a)) (Int.natAbs b)
      omega
    omega
section L2H
variable {w : Wd} {h h0 : Hp} {K : Int → Hp → Prop}
theorem x_floorDiv {a b : Int} (ha : -1000000 ≤ a ∧ a ≤ 1000000) (hb : -1000000 ≤ b ∧ b ≤ 1000000) (h0 : b ≠ 0) (k : K (Int.fdiv a b) h) : C_JM_floorDiv w a b h K := by
  have s := ixor_sign (x := a) (y := b) ⟨by omega, by omega⟩ ⟨by omega, by omega⟩
  have f := fdiv_t (a := a) h0
  have t := tdiv_ok (b := b) ha
  refine c_JM_floorDiv ⟨⟨by omega, by omega⟩, ⟨by omega, by omega⟩, h0, fun g => ?_, fun g => ⟨⟨by omega, by omega⟩, ⟨by omega, by omega⟩, fun g2 => ?_, fun g2 => ?_⟩⟩
  · rw [f.1 (s.mp g)]; exact k
  · rw [(f.2 (fun q => g (s.mpr q))).1 g2]; exact k
  · rw [(f.2 (fun q => g (s.mpr q))).2 g2]; exact k
theorem x_within {v lo hi : Int} (hv : inL v) (hl : inR lo) (hh : inR hi) (k : K (if v < lo then lo else if v > hi then hi else v) h) : C_X11_within w v lo hi h K := by
  refine c_X11_within ⟨hl, hv, ⟨by omega, by omega⟩, fun c => ⟨hh, hv, ⟨by omega, by omega⟩, fun c2 => ?_, fun c2 => ?_⟩, fun c => ?_⟩
  · rw [if_neg (by omega), if_neg (by omega)] at k; exact k
  · rw [if_neg (by omega), if_pos (by omega)] at k; exact k
  · rw [if_pos (by omega)] at k; exact k
theorem clip_w {v : Int} : (if v < -1000000 then (-1000000 : Int) else if v > 1000000 then 1000000 else v) = clipI v := by
  unfold clipI
  by_cases g : v < -1000000
  · rw [if_pos g, if_neg (by omega), if_pos g]
  · by_cases g2 : v > 1000000
    · rw [if_neg g, if_pos g2, if_pos g2]
    · rw [if_neg g, if_neg g2, if_neg g2, if_neg g]
theorem mul_b {a b : Int} (ha : -1000000 ≤ a ∧ a ≤ 1000000) (hb : -1000000 ≤ b ∧ b ≤ 1000000) : inL (a * b) := by
  have h1 : (a * b).natAbs ≤ 1000000 * 1000000 := by rw [Int.natAbs_mul]; exact Nat.mul_le_mul (by omega) (by omega)
  exact ⟨by omega, by omega⟩
theorem x_join_num {s a b : Int} (hs : -6 ≤ s ∧ s ≤ -1) (ha : -1000000 ≤ a ∧ a ≤ 1000000) (hb : -1000000 ≤ b ∧ b ≤ 1000000) (k : K (jn s a b) h) : C_X6_join w s a b h K := by
  have ra : inR a := ⟨by omega, by omega⟩
  have rb : inR b := ⟨by omega, by omega⟩
  unfold jn at k
  refine c_X6_join ⟨⟨by omega, by omega⟩, fun c => absurd c (by omega), fun c => absurd c (by omega), fun c => absurd c (by omega), fun c => absurd c (by omega), fun c => absurd c (by omega), fun c => ⟨ra, rb, ?_⟩, fun c => ⟨ra, rb, ?_⟩, fun c => ⟨rb, fun c2 => x_floorDiv ha hb c2 ?_, fun c2 => ?_⟩, fun c => ⟨ra, rb, x_within (mul_b ha hb) ⟨by decide, by decide⟩ ⟨by decide, by decide⟩ ?_⟩, fun c => ⟨⟨by omega, by omega⟩, x_within ⟨by omega, by omega⟩ ⟨by decide, by decide⟩ ⟨by decide, by decide⟩ ?_⟩, fun c => ⟨⟨by omega, by omega⟩, x_within ⟨by omega, by omega⟩ ⟨by decide, by decide⟩ ⟨by decide, by decide⟩ ?_⟩, fun c => absurd c (by omega)⟩
  · rw [if_neg (by omega), if_neg (by omega), if_neg (by omega), if_neg (by omega), if_neg (by omega), if_pos c] at k; exact k
  · rw [if_neg (by omega), if_neg (by omega), if_neg (by omega), if_neg (by omega), if_pos c] at k; exact k
  · rw [if_neg (by omega), if_neg (by omega), if_neg (by omega), if_pos c, if_neg c2] at k; exact k
  · rw [if_neg (by omega), if_neg (by omega), if_neg (by omega), if_pos c, if_pos (by omega)] at k; exact k
  · rw [clip_w]; rw [if_neg (by omega), if_neg (by omega), if_pos c] at k; exact k
  · rw [clip_w]; rw [if_neg (by omega), if_pos c] at k; exact k
  · rw [clip_w]; rw [if_pos c] at k; exact k
theorem x_join_cmp {s a b : Int} (hs : -9 ≤ s ∧ s ≤ -7) (ha : -1000000 ≤ a ∧ a ≤ 1000000) (hb : -1000000 ≤ b ∧ b ≤ 1000000) (k : K (jn s a b) h) : C_X6_join w s a b h K := by
  have ra : inR a := ⟨by omega, by omega⟩
  have rb : inR b := ⟨by omega, by omega⟩
  unfold jn at k
  rw [if_neg (by omega), if_neg (by omega), if_neg (by omega), if_neg (by omega), if_neg (by omega), if_neg (by omega)] at k
  refine c_X6_join ⟨⟨by omega, by omega⟩, fun c => absurd c (by omega), fun c => absurd c (by omega), fun c => ⟨ra, rb, fun g => ?_, fun g => ?_⟩, fun c => ⟨ra, rb, fun g => ?_, fun g => ?_⟩, fun c => ⟨ra, rb, fun g => ?_, fun g => ?_⟩, fun c => absurd c (by omega), fun c => absurd c (by omega), fun c => absurd c (by omega), fun c => absurd c (by omega), fun c => absurd c (by omega), fun c => absurd c (by omega), fun c => absurd c (by omega)⟩
  · rw [if_neg (by omega), if_neg (by omega), if_pos c, if_neg g] at k; exact k
  · rw [if_neg (by omega), if_neg (by omega), if_pos c, if_pos (by omega)] at k; exact k
  · rw [if_neg (by omega), if_pos c, if_neg (by omega)] at k; exact k
  · rw [if_neg (by omega), if_pos c, if_pos (by omega)] at k; exact k
  · rw [if_pos c, if_neg (by omega)] at k; exact k
  · rw [if_pos c, if_pos (by omega)] at k; exact k
theorem x_join_log {s a b : Int} (hs : -11 ≤ s ∧ s ≤ -10) (ha : a = 0 ∨ a = 1) (hb : b = 0 ∨ b = 1) (k : K (jn s a b) h) : C_X6_join w s a b h K := by
  unfold jn at k
  rw [if_neg (by omega), if_neg (by omega), if_neg (by omega), if_neg (by omega), if_neg (by omega), if_neg (by omega), if_neg (by omega), if_neg (by omega), if_neg (by omega)] at k
  refine c_X6_join ⟨⟨by omega, by omega⟩, fun c => ?_, fun c => ⟨ha, hb, ?_⟩, fun c => absurd c (by omega), fun c => absurd c (by omega), fun c => absurd c (by omega), fun c => absurd c (by omega), fun c => absurd c (by omega), fun c => absurd c (by omega), fun c => absurd c (by omega), fun c => absurd c (by omega), fun c => absurd c (by omega), fun c => absurd c (by omega)⟩
  · rw [if_neg (by omega), if_pos c] at k
    have e : iorI a b = if a + b > 0 then 1 else 0 := by rcases ha with rfl | rfl <;> rcases hb with rfl | rfl <;> decide
    rw [e]; exact k
  · rw [if_pos c] at k; exact k
theorem x_entry {a i : Int} {n : Nat} (ha : Ar 0 n a) (hi : inR i) (k : K (if 0 ≤ i ∧ i < n then h a i else 0) h) : C_X6_entry w a i h K := by
  refine c_X6_entry ha ⟨hi, fun c => ?_, fun c => ⟨hi, fun c2 => ?_, fun c2 => ?_⟩⟩
  · rw [if_neg (by omega)] at k; exact k
  · have c2 : i < (n : Int) := c2
    rw [if_pos ⟨by omega, c2⟩] at k; exact ⟨⟨by omega, c2⟩, k⟩
  · have c2 : ¬ i < (n : Int) := c2
    rw [if_neg (by omega)] at k; exact k
end L2H
