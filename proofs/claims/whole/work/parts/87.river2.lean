/-! a river's statements: what each is worth, over what is told so far -/
def gSum (g : Hp) (a : Int) (s : List Int) : Hp := fun o i => if o = 98 ∧ i = a then g 68 44 else if o = 99 ∧ i = a then g 68 44 + s.length else if o = 68 ∧ i = 44 then g 68 44 + s.length else if o = 100 ∧ g 68 44 ≤ i ∧ i < g 68 44 + s.length then cdI (s.getD (i - g 68 44).toNat 0) else g o i
def gBank (g : Hp) (v a c s n z : Int) : Hp := hu (hu (hu (hu (hu (hu (hu g 94 (20 + g 93 2) v) 96 (5 * g 93 2) a) 96 (5 * g 93 2 + 1) c) 96 (5 * g 93 2 + 2) s) 96 (5 * g 93 2 + 3) n) 96 (5 * g 93 2 + 4) z) 93 2 (g 93 2 + 1)
def bSlope (t : Int → Int) (L : Nat) (g : Hp) : Nat → PRes Hp → Prop := pB (pNum t L 0 9) (fun v => pB (pWd t L 1002) (fun _ => pB (pNum t L 0 (g 68 35 - 1)) (fun i p r => r = .inr (p, hu g 95 i v))))
def bName (t : Int → Int) (L : Nat) (g : Hp) (k : Int) (q p : Nat) (r : PRes Hp) : Prop := (g 93 k = 5 ∧ r = .inl (5, (q : Int))) ∨ (g 93 k < 5 ∧ pB (pNew t L g) (fun v p r => r = .inr (p, hu (hu g 94 (10 * k + g 93 k) v) 93 k (g 93 k + 1))) p r)
def bBank (t : Int → Int) (L : Nat) (g : Hp) (q p : Nat) (r : PRes Hp) : Prop := (g 93 2 = 10 ∧ r = .inl (5, (q : Int))) ∨ (g 93 2 < 10 ∧ pB (pNew t L g) (fun v => pB (pWd t L 1007) (fun _ => pB (pAsk t L g 0) (fun a => pB (pWd t L 1005) (fun _ => pB (pAsk t L g 1) (fun c => pB (pWd t L 1002) (fun _ => pB (pNum t L 0 (g 68 35 - 1)) (fun s => pB (pWd t L 1008) (fun _ => pB (pNum t L 0 99) (fun n => pB (pWd t L 1009) (fun _ => pB (pNum t L 1 9) (fun z p r => r = .inr (p, gBank g v a c s n z)))))))))))) p r)
def bSum (t : Int → Int) (L : Nat) (g : Hp) (a : Int) (q p : Nat) (r : PRes Hp) : Prop := (g 98 a ≠ -1 ∧ r = .inl (5, (q : Int))) ∨ (g 98 a = -1 ∧ ∃ res, Gr t L 0 3 0 p res ∧ r = Sum.elim (fun f => .inl f) (fun x => .inr (x.1, gSum g a x.2)) res)
def bSet (t : Int → Int) (L : Nat) (g : Hp) (i lo hi : Int) : Nat → PRes Hp → Prop := pB (pNum t L lo hi) (fun v p r => r = .inr (p, hu g 97 i v))
abbrev kwl : List Int := [1001, 1003, 1005, 1006, 1010, 1022, 1023, 1024, 1025]
def bodyP (t : Int → Int) (L : Nat) (g : Hp) (x : Int) (q p : Nat) (r : PRes Hp) : Prop :=
  if x = 1001 then bSlope t L g p r else if x = 1003 then bName t L g 0 q p r else if x = 1005 then bName t L g 1 q p r else if x = 1006 then bBank t L g q p r else if x = 1010 then bSum t L g 0 q p r
  else if x = 1022 then bSum t L g 1 q p r else if x = 1023 then bSet t L g 0 1 99 p r else if x = 1024 then bSet t L g 1 1 99 p r else bSet t L g 2 0 50 p r
/-- one statement, without what ends it -/
def stP (t : Int → Int) (L : Nat) (g : Hp) (p : Nat) (r : PRes Hp) : Prop := (∃ x ∈ kwl, wI t L (sk t L p) x ∧ bodyP t L g x (sk t L p) (sk t L p + (slen x).toNat) r) ∨ ((∀ x ∈ kwl, ¬ wI t L (sk t L p) x) ∧ r = .inl (1, (sk t L p : Int)))
/-- a formula of the class's river that is told is g's number a -/
def FS (h g : Hp) (f a : Int) : Prop := (h f 1 = 0 ∧ g 98 a = -1) ∨ ∃ n : Nat, 0 < n ∧ n ≤ 1600 ∧ h f 1 = n ∧ wff (h (f + 1)) n false ∧ (∀ i : Nat, i < n → 0 ≤ h (f + 1) i ∨ (-26 ≤ h (f + 1) i ∧ h (f + 1) i ≤ -20) ∨ (-6 ≤ h (f + 1) i ∧ h (f + 1) i ≤ -1)) ∧ 0 ≤ g 98 a ∧ g 99 a = g 98 a + n ∧ g 98 a + n ≤ g 68 44 ∧ ∀ i : Nat, i < n → g 100 (g 98 a + i) = cdI (h (f + 1) i)
def CB (h g : Hp) (r b : Int) : Prop := (h (r + 8) b = g 96 (5 * b) ∧ 0 ≤ g 96 (5 * b) ∧ g 96 (5 * b) < g 93 0) ∧ (h (r + 9) b = g 96 (5 * b + 1) ∧ 0 ≤ g 96 (5 * b + 1) ∧ g 96 (5 * b + 1) < g 93 1) ∧ (h (r + 10) b = g 96 (5 * b + 2) ∧ 0 ≤ g 96 (5 * b + 2) ∧ g 96 (5 * b + 2) < g 68 35) ∧ (h (r + 11) b = g 96 (5 * b + 3) ∧ 0 ≤ g 96 (5 * b + 3) ∧ g 96 (5 * b + 3) ≤ 99) ∧ (h (r + 12) b = g 96 (5 * b + 4) ∧ 1 ≤ g 96 (5 * b + 4) ∧ g 96 (5 * b + 4) ≤ 9)
/-- the class's river r, as far as it is told, is g -/
def CRv (h g : Hp) (r : Int) : Prop := (h r 12 = g 68 35 ∧ 3 ≤ g 68 35 ∧ g 68 35 ≤ 8) ∧ LK h g (r + 1) 0 5 ∧ LK h g (r + 3) 1 5 ∧ LK h g (r + 5) 2 10 ∧ (∀ i : Int, 0 ≤ i → i < 8 → h (r + 7) i = g 95 i ∧ 0 ≤ g 95 i ∧ g 95 i ≤ 9) ∧
  (∀ b : Int, 0 ≤ b → b < g 93 2 → CB h g r b) ∧ (∀ b : Int, g 93 2 ≤ b → b < 10 → h (r + 11) b = 0) ∧
  (h r 13 = g 97 0 ∧ 1 ≤ g 97 0 ∧ g 97 0 ≤ 99) ∧ (h r 14 = g 97 1 ∧ 1 ≤ g 97 1 ∧ g 97 1 ≤ 99) ∧ (h r 15 = g 97 2 ∧ 0 ≤ g 97 2 ∧ g 97 2 ≤ 50) ∧ FS h g (r + 13) 0 ∧ FS h g (r + 15) 1 ∧ 0 ≤ g 68 44 ∧ g 68 44 ≤ 1600 ∧ h r 11 = g 68 42
/-- what reading a river may change on the class's side -/
def PV (r : Int) (h h' : Hp) : Prop := ∀ o i : Int, ¬ (r ≤ o ∧ o < r + 17) → ¬ (o = 1 ∧ 2 ≤ i ∧ i ≤ 5) → ¬ (o = 5 ∧ 2 ≤ i ∧ i ≤ 4) → h' o i = h o i
theorem PV.rf {r : Int} {h : Hp} : PV r h h := fun _ _ _ _ _ => rfl
theorem PV.tr {r : Int} {h h1 h2 : Hp} (a : PV r h h1) (b : PV r h1 h2) : PV r h h2 := fun o i a1 a2 a3 => (b o i a1 a2 a3).trans (a o i a1 a2 a3)
theorem PV.tx {r : Int} {h h1 : Hp} (F : Fr h h1 txL []) : PV r h h1 := fun o i a1 a2 a3 => F o i List.not_mem_nil (fun q => by simp at q; omega)
theorem PV.pf {r f : Int} {h h1 : Hp} (hf : r ≤ f ∧ f + 1 < r + 17) (P : PF f h h1) : PV r h h1 := fun o i a1 a2 a3 => P o i (by omega) (fun q => by omega) (fun q => a2 q) (fun q => a3 (by omega))
section L3S
variable {w : Wd} {h h0 g : Hp} {K : Int → Hp → Prop} {t : Int → Int} {L p : Nat} {r : Int}
theorem CRv.cg {h' : Hp} (A : CRv h g r) (e : ∀ o i : Int, r ≤ o → o < r + 17 → h' o i = h o i) : CRv h' g r := by
  have er : ∀ o : Int, r ≤ o → o < r + 17 → h' o = h o := fun o a b => funext (fun i => e o i a b)
  have lk : ∀ {o k : Int} {m : Nat}, r ≤ o → o + 1 < r + 17 → LK h g o k m → LK h' g o k m := fun a b A => A.fr (e _ _ a (by omega)) (er _ (by omega) b)
  obtain ⟨a1, a2, a3, a4, a5, a6, a7, a8, a9, a10, a11, a12, a13⟩ := A
  refine ⟨by rw [er r (by omega) (by omega)]; exact a1, lk (by omega) (by omega) a2, lk (by omega) (by omega) a3, lk (by omega) (by omega) a4, by rw [er (r + 7) (by omega) (by omega)]; exact a5, fun b b0 b1 => ?_, by rw [er (r + 11) (by omega) (by omega)]; exact a7, by rw [er r (by omega) (by omega)]; exact a8, by rw [er r (by omega) (by omega)]; exact a9, by rw [er r (by omega) (by omega)]; exact a10, ?_, ?_, by rw [er r (by omega) (by omega)]; exact a13⟩
  · have := a6 b b0 b1
    unfold CB at this ⊢
    rw [er (r + 8) (by omega) (by omega), er (r + 9) (by omega) (by omega), er (r + 10) (by omega) (by omega), er (r + 11) (by omega) (by omega), er (r + 12) (by omega) (by omega)]
    exact this
  · unfold FS at a11 ⊢
    rw [er (r + 13) (by omega) (by omega), er (r + 13 + 1) (by omega) (by omega)]; exact a11
  · unfold FS at a12 ⊢
    rw [er (r + 15) (by omega) (by omega), er (r + 15 + 1) (by omega) (by omega)]; exact a12
theorem CRv.tx {h' : Hp} (A : CRv h g r) (hr : r = 6 ∨ r = 23) (F : Fr h h' txL []) : CRv h' g r := A.cg (fun o i a b => F o i List.not_mem_nil (fun q => by simp at q; omega))
/-- a name is given -/
theorem x_given {o k : Int} {m : Nat} (ho : Ob 4 o) (hA : Ar 0 m (o + 1)) (hr : r = 6 ∨ r = 23) (hr2 : h 60 2 = r) (hor : r ≤ o ∧ o + 1 < r + 17) (C : CRv h g r) (hm : m ≤ 10) (A : LK h g o k m) (full : g 93 k < m) (X : XS t L h p) (hg : isLt (byL t L (sk t L p)) → ¬ GL t (sk t L p))
    (k1 : ∀ p' v x, pNew t L g p (.inr (p', v)) → NmR x v → p < p' → ∀ h1, XS t L h1 p' → (∀ o' i : Int, h1 o' i = if o' = o ∧ i = 1 then g 93 k + 1 else if o' = o + 1 ∧ i = g 93 k then x else if o' = 1 then h1 1 i else h o' i) → PV r h h1 → K 1 h1)
    (k0 : ∀ f, pNew t L g p (.inl f) → ∀ h1, XB t L h1 f.1 f.2 → PV r h h1 → K 0 h1) : C_X8_given w o h K := by
  refine c_X8_given ho hA (x_name X hg (fun n N h2 F2 X2 e3 => ?_) (fun kd pl N h2 F2 B2 => ?_))
  · have R := N.r
    have C2 := C.tx hr F2
    have er2 : ∀ o' i : Int, o' ≠ 1 → h2 o' i = h o' i := fun o' i n => F2 o' i List.not_mem_nil (fun q => by simp at q; omega)
    refine ⟨R.r.1, fun _ => ?_, fun c => absurd R.r.2.2 c⟩
    rw [er2 60 2 (by decide), hr2]
    have o7 : Ob 7 r := by rcases hr with rfl | rfl <;> exact ⟨by decide, rfl⟩
    have pl := N.1
    have sg := sk_ge t L p
    refine ⟨o7, x_isNamed hr R C2.2.1 C2.2.2.1 C2.2.2.2.1 (fun nf _ => ⟨fun c => absurd c (by decide), fun _ => ?_⟩) (fun fr _ => ⟨fun _ => ?_, fun c => absurd rfl c⟩)⟩
    · rw [e3]
      exact x_fail X2.1 X2.2.2.2 ⟨by decide, by decide⟩ (fun h5 F5 B5 _ => k0 (3, (sk t L p : Int)) (Or.inr ⟨n, N, nf, rfl⟩) h5 B5 ((PV.tx F2).tr (PV.tx (F5.into (by decide)))))
    · have e1 : h2 o 1 = g 93 k := by rw [er2 o 1 (by omega)]; exact A.1
      have b := A.2
      refine c_X4_add ho hA (c_X4_isFull ho hA ?_)
      rw [e1]
      refine ⟨⟨by omega, by omega⟩, fun _ _ => ⟨fun c => absurd rfl c, fun _ => ⟨⟨by omega, by omega⟩, fun h5 q5 h7 q7 => ?_⟩⟩, fun c => absurd (show g 93 k < (m : Int) by omega) c⟩
      have e5 : h5 o 1 = g 93 k := by rw [hu_row q5 (by omega)]; exact e1
      rw [e5] at q7
      have ev : ∀ o' i : Int, h7 o' i = if o' = o ∧ i = 1 then g 93 k + 1 else if o' = o + 1 ∧ i = g 93 k then hp (nml t (sk t L p) n) 6 else h2 o' i := fun o' i => by
        by_cases d : o' = o
        · subst d
          rw [q7, hu_if]
          by_cases d1 : i = 1
          · rw [if_pos d1, if_pos ⟨rfl, d1⟩]
          · rw [if_neg d1, if_neg (fun x => d1 x.2), if_neg (fun x => by omega), hu_row q5 (by omega)]
        · rw [hu_row q7 d, if_neg (fun x => d x.1)]
          by_cases d2 : o' = o + 1
          · subst d2
            rw [q5, hu_if]
            by_cases d3 : i = g 93 k
            · rw [if_pos d3, if_pos ⟨rfl, d3⟩]
            · rw [if_neg d3, if_neg (fun x => d3 x.2)]
          · rw [hu_row q5 d2, if_neg (fun x => d2 x.1)]
      have e11 : ∀ o' i : Int, o' = 1 ∨ o' = 2 → h7 o' i = h2 o' i := fun o' i c => by
        rw [ev, if_neg (fun x => by omega), if_neg (fun x => by omega)]
      have T7 : TP t L h7 := by
        have := X2.1
        unfold TP at this ⊢
        rw [show h7 1 = h2 1 from funext (fun i => e11 1 i (Or.inl rfl)), show h7 2 = h2 2 from funext (fun i => e11 2 i (Or.inr rfl))]
        exact this
      refine k1 _ _ _ ⟨n, N, fr, rfl, rfl⟩ R (by omega) h7 ⟨T7, by rw [e11 _ _ (Or.inl rfl)]; exact X2.2.1, X2.2.2.1, by rw [e11 _ _ (Or.inl rfl)]; exact X2.2.2.2⟩ (fun o' i => ?_) (fun o' i m1 m2 m3 => ?_)
      · rw [ev]
        by_cases d : o' = 1
        · subst d
          rw [if_neg (fun x => by omega), if_neg (fun x => by omega), if_neg (fun x => by omega), if_neg (fun x => by omega), if_pos rfl, e11 1 i (Or.inl rfl)]
        · rw [if_neg d, er2 o' i d]
      · rw [ev, if_neg (fun x => m1 (by omega)), if_neg (fun x => m1 (by omega))]
        exact PV.tx (r := r) F2 o' i m1 m2 m3
  · exact ⟨⟨by decide, by decide⟩, fun c => absurd rfl c, fun _ => k0 (kd, pl) (Or.inl N) h2 B2 (PV.tx F2)⟩
end L3S
