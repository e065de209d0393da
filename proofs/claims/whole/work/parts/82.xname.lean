/-! the class reads a name -/
theorem iorI_add {a x m : Nat} (hx : x < 2 ^ m) (hs : 2 ^ m * a + x < 2 ^ 31) : iorI ((2 ^ m * a : Nat) : Int) (x : Nat) = ((2 ^ m * a + x : Nat) : Int) := by
  have h32 : (2 : Nat) ^ 31 < 2 ^ 32 := by decide
  have h1 : 2 ^ m * a < 2 ^ 32 := by omega
  have h2 : x < 2 ^ 32 := by omega
  have e : Int32.ofInt ((2 ^ m * a : Nat) : Int) ||| Int32.ofInt ((x : Nat) : Int) = Int32.ofInt ((2 ^ m * a + x : Nat) : Int) := by
    apply Int32.toBitVec_inj.mp
    rw [Int32.toBitVec_or, Int32.toBitVec_ofInt, Int32.toBitVec_ofInt, Int32.toBitVec_ofInt, BitVec.ofInt_natCast, BitVec.ofInt_natCast, BitVec.ofInt_natCast]
    apply BitVec.eq_of_toNat_eq
    rw [BitVec.toNat_or, BitVec.toNat_ofNat, BitVec.toNat_ofNat, BitVec.toNat_ofNat, Nat.mod_eq_of_lt h1, Nat.mod_eq_of_lt h2, Nat.mod_eq_of_lt (by omega)]
    exact (Nat.two_pow_add_eq_or_of_lt hx a).symm
  have p31 : (2 : Nat) ^ 31 = 2147483648 := by decide
  unfold iorI
  rw [e, Int32.toInt_ofInt_of_le (by omega) (by omega)]
theorem hp_cg {l l' : Nat → Int} : ∀ n : Nat, (∀ k : Nat, k < n → l k = l' k) → hp l n = hp l' n
  | 0, _ => rfl
  | n + 1, h => by
    show 32 * hp l n + l n = 32 * hp l' n + l' n
    rw [hp_cg n (fun k hk => h k (by omega)), h n (by omega)]
theorem hp_pad {l : Nat → Int} {n : Nat} (z : ∀ k : Nat, n ≤ k → l k = 0) : ∀ j : Nat, hp l (n + j) = hp l n * 32 ^ j
  | 0 => by rw [Int.pow_zero, Int.mul_one]; rfl
  | j + 1 => by
    show 32 * hp l (n + j) + l (n + j) = _
    rw [hp_pad z j, z (n + j) (by omega), Int.add_zero, Int.pow_succ, Int.mul_comm 32, Int.mul_assoc]
theorem hp_rng {l : Nat → Int} : ∀ n : Nat, (∀ k : Nat, k < n → 0 ≤ l k ∧ l k ≤ 31) → 0 ≤ hp l n ∧ hp l n < 32 ^ n
  | 0, _ => ⟨by show (0 : Int) ≤ 0; omega, by show (0 : Int) < 1; omega⟩
  | n + 1, h => by
    have i := hp_rng n (fun k hk => h k (by omega))
    have b := h n (by omega)
    rw [Int.pow_succ]
    show 0 ≤ 32 * hp l n + l n ∧ 32 * hp l n + l n < _
    omega
theorem hp_or {l l' : Nat → Int} {n : Nat} (hn : n < 6) (hl : ∀ k : Nat, k < n → 0 ≤ l k ∧ l k ≤ 31) (z : ∀ k : Nat, n ≤ k → l k = 0) (z' : ∀ k : Nat, n + 1 ≤ k → l' k = 0) (e : ∀ k : Nat, k < n → l' k = l k) (b : 0 ≤ l' n ∧ l' n ≤ 31) : iorI (hp l 6) (l' n * 2 ^ (Int.toNat (5 * (5 - (n : Int))))) = hp l' 6 := by
  have r := hp_rng n hl
  obtain ⟨A, hA⟩ : ∃ A : Nat, hp l n = A := ⟨(hp l n).toNat, by omega⟩
  obtain ⟨x, hx⟩ : ∃ x : Nat, l' n = x := ⟨(l' n).toNat, by omega⟩
  have e1 : hp l 6 = ((2 ^ (5 * (6 - n)) * A : Nat) : Int) := by
    have := hp_pad z (6 - n)
    rw [show n + (6 - n) = 6 by omega, hA] at this
    rw [this, Nat.mul_comm, Nat.pow_mul]
    push_cast
    rfl
  have e2 : l' n * 2 ^ (Int.toNat (5 * (5 - (n : Int)))) = ((x * 2 ^ (5 * (5 - n)) : Nat) : Int) := by
    rw [hx, show Int.toNat (5 * (5 - (n : Int))) = 5 * (5 - n) by omega]
    push_cast
    rfl
  have e3 : hp l' 6 = ((2 ^ (5 * (6 - n)) * A + x * 2 ^ (5 * (5 - n)) : Nat) : Int) := by
    have := hp_pad z' (5 - n)
    rw [show n + 1 + (5 - n) = 6 by omega] at this
    have s : hp l' (n + 1) = 32 * hp l' n + l' n := rfl
    rw [this, s, hp_cg n e, hA, hx, show 5 * (6 - n) = 5 * (5 - n) + 5 by omega, Nat.pow_add, Nat.pow_mul 2 5 (5 - n)]
    push_cast
    rw [Int.add_mul, Int.mul_comm (32 * (A : Int)), ← Int.mul_assoc]
  have lt : x * 2 ^ (5 * (5 - n)) < 2 ^ (5 * (6 - n)) := by
    rw [show 5 * (6 - n) = 5 + 5 * (5 - n) by omega, Nat.pow_add]
    exact Nat.mul_lt_mul_of_pos_right (by omega) (Nat.pow_pos (by decide))
  have up : hp l' 6 < 32 ^ 6 := (hp_rng 6 (fun k hk => by
    rcases Nat.lt_trichotomy k n with g | g | g
    · rw [e k g]; exact hl k g
    · rw [g]; exact b
    · rw [z' k g]; decide)).2
  rw [e1, e2, e3]
  rw [e3] at up
  have p6 : (32 : Int) ^ 6 = 1073741824 := by decide
  have p31 : (2 : Nat) ^ 31 = 2147483648 := by decide
  exact iorI_add lt (by omega)
/-- the letters from q on, n of them -/
def nml (t : Int → Int) (q n : Nat) : Nat → Int := fun k => if k < n then t (q + k : Nat) - 96 else 0
theorem nml_b {t : Int → Int} {q n : Nat} (V : ∀ i : Nat, i < n → isLt (t (q + i : Nat))) (k : Nat) : 0 ≤ nml t q n k ∧ nml t q n k ≤ 31 := by
  unfold nml
  split
  · have := V k (by omega); omega
  · decide
theorem nml_z {t : Int → Int} {q n : Nat} (k : Nat) (h : n ≤ k) : nml t q n k = 0 := if_neg (by omega)
theorem nml_or {t : Int → Int} {q n : Nat} (hn : n < 6) (V : ∀ i : Nat, i < n → isLt (t (q + i : Nat))) (c : isLt (t (q + n : Nat))) : iorI (hp (nml t q n) 6) ((t (q + n : Nat) - 97 + 1) * 2 ^ (Int.toNat (5 * (5 - (n : Int))))) = hp (nml t q (n + 1)) 6 := by
  have e : nml t q (n + 1) n = t (q + n : Nat) - 97 + 1 := by unfold nml; rw [if_pos (by omega)]; omega
  rw [← e]
  refine hp_or hn (fun k _ => nml_b V k) (fun k h => nml_z k h) (fun k h => nml_z k h) (fun k hk => ?_) (by rw [e]; omega)
  unfold nml
  rw [if_pos (by omega), if_pos hk]
/-- the numbers of the class's own words, as it makes them -/
def owl : Nat → Int → Int → Int → List Int
  | 0, _, _, _ => []
  | f + 1, v1, v2, i => if sch 1004 i = 32 then v1 :: owl f 0 0 (i + 1) else owl f (iorI v1 ((sch 1004 i - 97 + 1) * 2 ^ (Int.toNat (5 * (5 - v2))))) (v2 + 1) (i + 1)
def owk : Nat → Int → Int → Bool
  | 0, _, _ => true
  | f + 1, v2, i => if sch 1004 i = 32 then owk f 0 (i + 1) else decide (0 ≤ 5 * (5 - v2) ∧ 5 * (5 - v2) < 32) && owk f (v2 + 1) (i + 1)
abbrev ows : List Int := [1000, 1001, 1002, 1003, 1005, 1006, 1007, 1008, 1009, 1010, 1022, 1023, 1024, 1025, 1013, 1017, 1018, 1019, 1020, 1021, 1011, 1012]
def wml (a : Int) : Nat → Int := fun k => if k < (slen a).toNat then sch a k - 96 else 0
theorem owl_is : owl (slen 1004).toNat 0 0 0 = ows.map (fun a => hp (wml a) 6) := by decide +kernel
theorem owk_is : owk (slen 1004).toNat 0 0 = true := by decide +kernel
theorem ows_ok : ∀ a ∈ ows, wOK a ∧ slen a ≤ 6 := by decide +kernel
section L3N
variable {w : Wd} {h h0 : Hp} {K : Int → Hp → Prop} {t : Int → Int} {L p : Nat}
theorem x_isOwn {v : Int} (hv : inR v) (k1 : (∃ a ∈ ows, v = hp (wml a) 6) → K 1 h) (k0 : (∀ a ∈ ows, v ≠ hp (wml a) 6) → K 0 h) : C_X10_isOwnWord w v h K := by
  have s0 : 0 ≤ slen 1004 := by unfold slen; omega
  have s1 : slen 1004 < 1000 := by decide +kernel
  have key : ∀ (f : Nat) (v1 v2 i : Int), 0 ≤ i → (i + f : Int) = slen 1004 → inR v1 → owk f v2 i = true → (v ∈ owl f v1 v2 i → K 1 h) → (v ∉ owl f v1 v2 i → K 0 h) → L_X10_isOwnWord_6 w v v1 v2 i h K := by
    intro f
    induction f with
    | zero =>
      intro v1 v2 i i0 e h1 ok a b
      refine l_X10_isOwnWord_6 ⟨⟨by omega, by omega⟩, fun _ => b List.not_mem_nil, fun c => absurd (by omega) c⟩
    | succ f ih =>
      intro v1 v2 i i0 e h1 ok a b
      unfold owl at a b
      unfold owk at ok
      refine l_X10_isOwnWord_6 ⟨⟨by omega, by omega⟩, fun c => absurd c (by omega), fun _ => ⟨⟨by omega, by omega⟩, fun c => ?_, fun c => ?_⟩⟩
      · rw [if_pos c] at a b ok
        exact ⟨h1, hv, fun d => ih 0 0 (i + 1) (by omega) (by omega) ⟨by decide, by decide⟩ ok (fun m => a (List.mem_cons_of_mem _ m)) (fun m => b (fun m2 => (List.mem_cons.mp m2).elim (fun x => d x.symm) m)), fun d => a (by rw [Decidable.not_not.mp d]; exact List.mem_cons_self ..)⟩
      · rw [if_neg c] at a b ok
        rw [Bool.and_eq_true, decide_eq_true_eq] at ok
        exact ⟨⟨by omega, by omega⟩, c_X10_packedLetter ⟨ok.1, ih _ _ _ (by omega) (by omega) iorI_R ok.2 a b⟩⟩
  refine c_X10_isOwnWord (key (slen 1004).toNat 0 0 0 (by decide) (by omega) ⟨by decide, by decide⟩ owk_is (fun m => k1 ?_) (fun m => k0 (fun a ha e => m ?_)))
  · rw [owl_is] at m
    obtain ⟨a, ha, e⟩ := List.mem_map.mp m
    exact ⟨a, ha, e.symm⟩
  · rw [owl_is]
    exact List.mem_map.mpr ⟨a, ha, e.symm⟩
end L3N
