/-! THE STORE: one function (object, place) -> whole number for all that the two sides hold; what it says of a heap -/
abbrev Hp : Type := Int → Int → Int
def hu (h : Hp) (o i v : Int) : Hp := fun o' i' => if o' = o ∧ i' = i then v else h o' i'
abbrev Vl : Type := Int ⊕ Int ⊕ Int
abbrev vI (z : Int) : Vl := .inl z
abbrev vL (z : Int) : Vl := .inr (.inl z)
abbrev vR (z : Int) : Vl := .inr (.inr z)
/-- base; class ids and slots; array classes; the texts' addresses, their byte rows'; the script's cell, length, contents -/
abbrev Wd : Type := Nat × va_G × (Nat → ClassId) × (Nat → Nat) × (Nat → Nat) × (Nat × Nat × (Nat → Int32)) × Option Nat
def wad (w : Wd) (o : Int) : Value := if o < 0 then .null else if o < 1000 then .ref (w.1 + o.toNat) else if o < 2000 then .ref (w.2.2.2.1 (o.toNat - 1000)) else if o < 3000 then .ref w.2.2.2.2.2.1.1 else if o < 5000 then .ref (w.2.2.2.2.1 (o.toNat - 3000)) else va_rf w.2.2.2.2.2.2
def tv (w : Wd) : Vl → Value
  | .inl z => .int (Int32.ofInt z)
  | .inr (.inl z) => .long (Int64.ofInt z)
  | .inr (.inr o) => wad w o
def fk (ci j : Nat) : Int := (fks.getD ci []).getD j 0
theorem fk_ge (ci j : Nat) (h0 : ¬ fk ci j = 0) (h1 : ¬ fk ci j = 1) (h2 : ¬ fk ci j = 2) : 3 ≤ fk ci j := by
  have : fk ci j = 0 ∨ fk ci j = 1 ∨ fk ci j = 2 ∨ 3 ≤ fk ci j := by
    unfold fk
    rw [List.getD_eq_getElem?_getD, List.getD_eq_getElem?_getD]
    cases hl : fks[ci]? with
    | none => exact Or.inl rfl
    | some l =>
      rw [Option.getD_some]
      cases hz : l[j]? with
      | none => exact Or.inl rfl
      | some z =>
        have h1 := List.all_eq_true.mp (List.all_eq_true.mp fks_ge l (List.mem_of_getElem? hl)) z (List.mem_of_getElem? hz)
        simpa using h1
  omega
def cw (k j : Int) : Int := (cwl.getD k.toNat []).getD j.toNat 0
/-- a field: 0 an int, 1 a long, 2 an object that changes, 1000 + d the object d places on (final) -/
def fvl (fz : Bool) (h : Hp) (ci : Nat) (o : Int) (j : Nat) : Vl := if fk ci j = 0 then vI (h o j) else if fk ci j = 1 then vL (h o j) else if fk ci j = 2 then vR (h o j) else if fz = true then vR (o + (fk ci j - 1000)) else vR (h o j)
def earr (w : Wd) (fz : Bool) (h : Hp) (k : Int) (kd n : Nat) : va_E := .inl (w.2.2.1 kd, (n, if kd = 1 then .inr (.inl (fun j => Int64.ofInt (h k j))) else if kd = 3 ∧ fz = true then .inl (fun j => Int32.ofInt (cw k j)) else .inl (fun j => Int32.ofInt (h k j))))
def eobj (w : Wd) (fz : Bool) (h : Hp) (k : Int) (ci : Nat) : va_E := .inr (ci, (List.range (nfs.getD ci 0)).map (fun j => tv w (fvl fz h ci k j)))
def en (w : Wd) (fz : Bool) (h : Hp) (k : Nat) : va_E := match tt[k]? with
  | some (.inl ci) => eobj w fz h k ci
  | some (.inr (kd, n)) => earr w fz h k kd n
  | none => .inr (0, [])
def wl (w : Wd) (fz : Bool) (n : Nat) (h : Hp) : va_W := (List.range n).map (fun k => (w.1 + k, en w fz h k))
abbrev wA (w : Wd) : Nat → Prop := fun q => w.1 ≤ q
def Wh (w : Wd) (fz : Bool) (n : Nat) (h : Hp) (H : Heap) : Prop := (fz = true ∨ H.size = w.1 + n) ∧ va_P w.2.1 vwCl (wl w fz n h) H
abbrev tysW (w : Wd) : List (ClassId × FieldType) := [(w.2.2.1 0, .int), (w.2.2.1 1, .long), (w.2.2.1 2, .byte), (w.2.2.1 3, .char)]
def kty (kd : Nat) : FieldType := match kd with
  | 0 => .int
  | 1 => .long
  | 2 => .byte
  | _ => .char
abbrev Ob (ci : Nat) (o : Int) : Prop := 0 ≤ o ∧ tt[o.toNat]? = some (.inl ci)
abbrev Ar (kd len : Nat) (o : Int) : Prop := 0 ≤ o ∧ tt[o.toNat]? = some (.inr (kd, len))
def NT : Nat := tt.length
theorem Ob.lt {ci : Nat} {o : Int} (h : Ob ci o) : o.toNat < NT := (List.getElem?_eq_some_iff.mp h.2).1
theorem Ar.lt {kd len : Nat} {o : Int} (h : Ar kd len o) : o.toNat < NT := (List.getElem?_eq_some_iff.mp h.2).1
theorem wl_at {w : Wd} {fz : Bool} {n k : Nat} {h : Hp} (hk : k < n) : (wl w fz n h)[k]? = some (w.1 + k, en w fz h k) := by
  simp [wl, hk]
theorem wl_len (w : Wd) (fz : Bool) (n : Nat) (h : Hp) : (wl w fz n h).length = n := by simp [wl]
theorem wl_D (w : Wd) (fz : Bool) (n : Nat) (h : Hp) : va_D (wA w) (wl w fz n h) := by
  refine ⟨fun i j p q hi hj e => ?_, fun k q hk => ?_⟩
  · have h1 : i < n := by have := (List.getElem?_eq_some_iff.mp hi).1; rwa [wl_len] at this
    have h2 : j < n := by have := (List.getElem?_eq_some_iff.mp hj).1; rwa [wl_len] at this
    rw [wl_at h1] at hi
    rw [wl_at h2] at hj
    cases hi; cases hj
    simpa using e
  · have h1 : k < n := by have := (List.getElem?_eq_some_iff.mp hk).1; rwa [wl_len] at this
    rw [wl_at h1] at hk
    cases hk
    exact Nat.le_add_right _ _
theorem toNat_cast {o : Int} (h : 0 ≤ o) : ((o.toNat : Nat) : Int) = o := by omega
theorem en_obj {w : Wd} {fz : Bool} {h : Hp} {ci : Nat} {o : Int} (ho : Ob ci o) : en w fz h o.toNat = eobj w fz h o ci := by
  unfold en
  rw [ho.2]
  show eobj w fz h (o.toNat : Int) ci = _
  rw [toNat_cast ho.1]
theorem en_arr {w : Wd} {fz : Bool} {h : Hp} {kd len : Nat} {o : Int} (ho : Ar kd len o) : en w fz h o.toNat = earr w fz h o kd len := by
  unfold en
  rw [ho.2]
  show earr w fz h (o.toNat : Int) kd len = _
  rw [toNat_cast ho.1]
theorem hu_ne {h : Hp} {o i v o' i' : Int} (hne : o' ≠ o) : hu h o i v o' i' = h o' i' := by
  unfold hu
  rw [if_neg (fun q => hne q.1)]
theorem en_ne {w : Wd} {fz : Bool} {h : Hp} {o i v : Int} {k : Nat} (hne : (k : Int) ≠ o) : en w fz (hu h o i v) k = en w fz h k := by
  unfold en
  cases hk : tt[k]? with
  | none => rfl
  | some x =>
    cases x with
    | inl ci => simp only [eobj, fvl, hu_ne hne]
    | inr q => obtain ⟨kd, n⟩ := q; simp only [earr, hu_ne hne]
theorem wl_set {w : Wd} {fz : Bool} {n : Nat} {h : Hp} {o i v : Int} {e : va_E} (h0 : 0 ≤ o) (hn : o.toNat < n) (he : en w fz (hu h o i v) o.toNat = e) : (wl w fz n h).set o.toNat (w.1 + o.toNat, e) = wl w fz n (hu h o i v) := by
  apply List.ext_getElem?
  intro k
  rw [List.getElem?_set, wl_len]
  by_cases hk : o.toNat = k
  · subst hk
    rw [if_pos rfl, if_pos hn, wl_at hn, he]
  · rw [if_neg hk]
    by_cases h2 : k < n
    · rw [wl_at h2, wl_at h2, en_ne (by omega)]
    · rw [List.getElem?_eq_none (by rw [wl_len]; omega), List.getElem?_eq_none (by rw [wl_len]; omega)]
theorem wad_o (w : Wd) {o : Int} (h0 : 0 ≤ o) (hn : o < 1000) : wad w o = .ref (w.1 + o.toNat) := by
  unfold wad
  rw [if_neg (by omega), if_pos hn]
/-! whole numbers as ints and longs -/
abbrev inR (z : Int) : Prop := -2147483648 ≤ z ∧ z < 2147483648
abbrev inL (z : Int) : Prop := -9223372036854775808 ≤ z ∧ z < 9223372036854775808
theorem i32_to {z : Int} (h : inR z) : (Int32.ofInt z).toInt = z := Int32.toInt_ofInt_of_le (by exact h.1) (by exact h.2)
theorem i64_to {z : Int} (h : inL z) : (Int64.ofInt z).toInt = z := Int64.toInt_ofInt_of_le (by exact h.1) (by exact h.2)
theorem i32_lt {x y : Int} (hx : inR x) (hy : inR y) : Int32.ofInt x < Int32.ofInt y ↔ x < y := by rw [Int32.lt_iff_toInt_lt, i32_to hx, i32_to hy]
theorem i32_le {x y : Int} (hx : inR x) (hy : inR y) : Int32.ofInt x ≤ Int32.ofInt y ↔ x ≤ y := by rw [Int32.le_iff_toInt_le, i32_to hx, i32_to hy]
theorem i32_eq {x y : Int} (hx : inR x) (hy : inR y) : Int32.ofInt x = Int32.ofInt y ↔ x = y := by rw [← Int32.toInt_inj, i32_to hx, i32_to hy]
theorem i64_lt {x y : Int} (hx : inL x) (hy : inL y) : Int64.ofInt x < Int64.ofInt y ↔ x < y := by rw [Int64.lt_iff_toInt_lt, i64_to hx, i64_to hy]
theorem i64_eq {x y : Int} (hx : inL x) (hy : inL y) : Int64.ofInt x = Int64.ofInt y ↔ x = y := by rw [← Int64.toInt_inj, i64_to hx, i64_to hy]
theorem vp_in_i32 {i : Int} {n : Nat} (h0 : 0 ≤ i) (hn : i < n) (hN : n < 2147483648) : vp_in (Int32.ofInt i) n := by
  rw [vp_in_iff, i32_to ⟨by omega, by omega⟩]
  exact ⟨h0, hn⟩
theorem clamp_i32 {i : Int} (h0 : 0 ≤ i) (hN : i < 2147483648) : (Int32.ofInt i).toNatClampNeg = i.toNat := by
  show (Int32.ofInt i).toInt.toNat = _
  rw [i32_to ⟨by omega, by omega⟩]
theorem nar_b {z : Int} (hz : -128 ≤ z ∧ z < 128) : narrow .byte (.int (Int32.ofInt z)) = .int (Int32.ofInt z) := by
  have : (Int32.ofInt z).toInt8.toInt32 = Int32.ofInt z := by
    apply Int32.toInt_inj.mp
    rw [Int8.toInt_toInt32, Int32.toInt8_ofInt, Int8.toInt_ofInt_of_le (by exact hz.1) (by exact hz.2), i32_to ⟨by omega, by omega⟩]
  show Value.int _ = Value.int _
  exact congrArg Value.int this
theorem nar_c {z : Int} (hz : 0 ≤ z ∧ z < 65536) : narrow .char (.int (Int32.ofInt z)) = .int (Int32.ofInt z) := by
  have e : Int32.ofInt z = nI z.toNat := by
    obtain ⟨k, rfl⟩ : ∃ k : Nat, z = (k : Int) := ⟨z.toNat, by omega⟩
    rfl
  rw [e]
  exact (pk_charN (by omega)).1
