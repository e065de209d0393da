/-! the grammar of sums, as a relation: the least one that its rules close -/
abbrev RS : Type := (Int × Int) ⊕ (Nat × List Int)
def wI (t : Int → Int) (L q : Nat) (a : Int) : Prop := isW t L q (slen a).toNat (sch a)
def lfW (as : Int) : List (Int × Int) := if as = 0 then [(1013, -20), (1017, -21), (1009, -22), (1018, -23), (1019, -24), (1020, -25), (1021, -26)] else [(1013, -20), (1014, -27), (1015, -28)]
def ofW (as : Int) : List (Int × Int) := if as = 0 then [] else [(1016, -13), (1008, -14)]
def prW : List (Int × Int) := [(1011, -5), (1012, -6)]
/-- an operand's level m1, the whole's m2, what follows m3, the signs -/
def RuL (t : Int → Int) (L : Nat) (R : Nat → Nat → Nat → RS → Prop) (m1 m2 m3 : Nat) (ops : List (Int × Int)) : Prop :=
  (∀ o p f, R m1 o p (.inl f) → R m2 o p (.inl f)) ∧
  (∀ o p p1 s1 f, R m1 o p (.inr (p1, s1)) → R m3 o p1 (.inl f) → R m2 o p (.inl f)) ∧
  (∀ o p p1 s1 p2 s2, R m1 o p (.inr (p1, s1)) → R m3 o p1 (.inr (p2, s2)) → R m2 o p (.inr (p2, s1 ++ s2))) ∧
  (∀ o p, (∀ x ∈ ops, byL t L (sk t L p) ≠ x.1) → R m3 o p (.inr (sk t L p, []))) ∧
  (∀ o p x f, x ∈ ops → byL t L (sk t L p) = x.1 → R m1 o (sk t L p + 1) (.inl f) → R m3 o p (.inl f)) ∧
  (∀ o p x p1 s1 f, x ∈ ops → byL t L (sk t L p) = x.1 → R m1 o (sk t L p + 1) (.inr (p1, s1)) → R m3 o p1 (.inl f) → R m3 o p (.inl f)) ∧
  (∀ o p x p1 s1 p2 s2, x ∈ ops → byL t L (sk t L p) = x.1 → R m1 o (sk t L p + 1) (.inr (p1, s1)) → R m3 o p1 (.inr (p2, s2)) → R m3 o p (.inr (p2, s1 ++ [x.2] ++ s2)))
def RuN (t : Int → Int) (L : Nat) (R : Nat → Nat → Nat → RS → Prop) : Prop :=
  (∀ o p v n, isDg (byL t L (sk t L p)) → NV t L (sk t L p) 0 9999 v n → R 0 o p (.inr (sk t L p + n, [v]))) ∧
  (∀ o p kd pl, isDg (byL t L (sk t L p)) → NF t L (sk t L p) 0 9999 kd pl → R 0 o p (.inl (kd, pl)))
def RuB (t : Int → Int) (L : Nat) (R : Nat → Nat → Nat → RS → Prop) : Prop :=
  (∀ o p, byL t L (sk t L p) = 40 → 6 ≤ o → R 0 o p (.inl (4, sk t L p))) ∧
  (∀ o p f, byL t L (sk t L p) = 40 → o < 6 → R 3 (o + 1) (sk t L p + 1) (.inl f) → R 0 o p (.inl f)) ∧
  (∀ o p p1 s, byL t L (sk t L p) = 40 → o < 6 → R 3 (o + 1) (sk t L p + 1) (.inr (p1, s)) → byL t L (sk t L p1) ≠ 41 → R 0 o p (.inl (1, sk t L p1))) ∧
  (∀ o p p1 s, byL t L (sk t L p) = 40 → o < 6 → R 3 (o + 1) (sk t L p + 1) (.inr (p1, s)) → byL t L (sk t L p1) = 41 → R 0 o p (.inr (sk t L p1 + 1, s)))
def RuP (t : Int → Int) (L : Nat) (R : Nat → Nat → Nat → RS → Prop) : Prop :=
  (∀ o p x, x ∈ prW → wI t L (sk t L p) x.1 → byL t L (sk t L (sk t L p + 3)) ≠ 40 → R 0 o p (.inl (1, sk t L (sk t L p + 3)))) ∧
  (∀ o p x, x ∈ prW → wI t L (sk t L p) x.1 → byL t L (sk t L (sk t L p + 3)) = 40 → 6 ≤ o → R 0 o p (.inl (4, sk t L (sk t L p + 3)))) ∧
  (∀ o p x f, x ∈ prW → wI t L (sk t L p) x.1 → byL t L (sk t L (sk t L p + 3)) = 40 → o < 6 → R 3 (o + 1) (sk t L (sk t L p + 3) + 1) (.inl f) → R 0 o p (.inl f)) ∧
  (∀ o p x p2 s1, x ∈ prW → wI t L (sk t L p) x.1 → byL t L (sk t L (sk t L p + 3)) = 40 → o < 6 → R 3 (o + 1) (sk t L (sk t L p + 3) + 1) (.inr (p2, s1)) → byL t L (sk t L p2) ≠ 44 → R 0 o p (.inl (1, sk t L p2))) ∧
  (∀ o p x p2 s1 f, x ∈ prW → wI t L (sk t L p) x.1 → byL t L (sk t L (sk t L p + 3)) = 40 → o < 6 → R 3 (o + 1) (sk t L (sk t L p + 3) + 1) (.inr (p2, s1)) → byL t L (sk t L p2) = 44 → R 3 (o + 1) (sk t L p2 + 1) (.inl f) → R 0 o p (.inl f)) ∧
  (∀ o p x p2 s1 p3 s2, x ∈ prW → wI t L (sk t L p) x.1 → byL t L (sk t L (sk t L p + 3)) = 40 → o < 6 → R 3 (o + 1) (sk t L (sk t L p + 3) + 1) (.inr (p2, s1)) → byL t L (sk t L p2) = 44 → R 3 (o + 1) (sk t L p2 + 1) (.inr (p3, s2)) → byL t L (sk t L p3) ≠ 41 → R 0 o p (.inl (1, sk t L p3))) ∧
  (∀ o p x p2 s1 p3 s2, x ∈ prW → wI t L (sk t L p) x.1 → byL t L (sk t L (sk t L p + 3)) = 40 → o < 6 → R 3 (o + 1) (sk t L (sk t L p + 3) + 1) (.inr (p2, s1)) → byL t L (sk t L p2) = 44 → R 3 (o + 1) (sk t L p2 + 1) (.inr (p3, s2)) → byL t L (sk t L p3) = 41 → R 0 o p (.inr (sk t L p3 + 1, s1 ++ s2 ++ [x.2])))
def RuW (t : Int → Int) (L : Nat) (as : Int) (R : Nat → Nat → Nat → RS → Prop) : Prop :=
  (∀ o p x, x ∈ lfW as → wI t L (sk t L p) x.1 → R 0 o p (.inr (sk t L p + (slen x.1).toNat, [x.2]))) ∧
  (∀ o p x, x ∈ ofW as → wI t L (sk t L p) x.1 → 6 ≤ o → R 0 o p (.inl (4, sk t L p))) ∧
  (∀ o p x f, x ∈ ofW as → wI t L (sk t L p) x.1 → o < 6 → R 0 (o + 1) (sk t L p + (slen x.1).toNat) (.inl f) → R 0 o p (.inl f)) ∧
  (∀ o p x p1 s, x ∈ ofW as → wI t L (sk t L p) x.1 → o < 6 → R 0 (o + 1) (sk t L p + (slen x.1).toNat) (.inr (p1, s)) → R 0 o p (.inr (p1, s ++ [x.2]))) ∧
  (∀ o p, ¬ isDg (byL t L (sk t L p)) → byL t L (sk t L p) ≠ 40 → (∀ x ∈ prW ++ lfW as ++ ofW as, ¬ wI t L (sk t L p) x.1) → R 0 o p (.inl (1, sk t L p)))
def Rul (t : Int → Int) (L : Nat) (as : Int) (R : Nat → Nat → Nat → RS → Prop) : Prop := RuN t L R ∧ RuB t L R ∧ RuP t L R ∧ RuW t L as R ∧ RuL t L R 0 1 2 [(42, -3), (47, -4)] ∧ RuL t L R 1 3 4 [(43, -1), (45, -2)]
def Gr (t : Int → Int) (L : Nat) (as : Int) (m o p : Nat) (res : RS) : Prop := ∀ R : Nat → Nat → Nat → RS → Prop, Rul t L as R → R m o p res
theorem Gr.all (t : Int → Int) (L : Nat) (as : Int) : Rul t L as (Gr t L as) := by
  refine ⟨⟨?_, ?_⟩, ⟨?_, ?_, ?_, ?_⟩, ⟨?_, ?_, ?_, ?_, ?_, ?_, ?_⟩, ⟨?_, ?_, ?_, ?_, ?_⟩, ⟨?_, ?_, ?_, ?_, ?_, ?_, ?_⟩, ⟨?_, ?_, ?_, ?_, ?_, ?_, ?_⟩⟩
  · exact fun o p v n a b R r => r.1.1 o p v n a b
  · exact fun o p v n a b R r => r.1.2 o p v n a b
  · exact fun o p a b R r => r.2.1.1 o p a b
  · exact fun o p f a b g R r => r.2.1.2.1 o p f a b (g R r)
  · exact fun o p p1 s a b g d R r => r.2.1.2.2.1 o p p1 s a b (g R r) d
  · exact fun o p p1 s a b g d R r => r.2.1.2.2.2 o p p1 s a b (g R r) d
  · exact fun o p x a b c R r => r.2.2.1.1 o p x a b c
  · exact fun o p x a b c d R r => r.2.2.1.2.1 o p x a b c d
  · exact fun o p x f a b c d g R r => r.2.2.1.2.2.1 o p x f a b c d (g R r)
  · exact fun o p x p2 s1 a b c d g e R r => r.2.2.1.2.2.2.1 o p x p2 s1 a b c d (g R r) e
  · exact fun o p x p2 s1 f a b c d g e g2 R r => r.2.2.1.2.2.2.2.1 o p x p2 s1 f a b c d (g R r) e (g2 R r)
  · exact fun o p x p2 s1 p3 s2 a b c d g e g2 e2 R r => r.2.2.1.2.2.2.2.2.1 o p x p2 s1 p3 s2 a b c d (g R r) e (g2 R r) e2
  · exact fun o p x p2 s1 p3 s2 a b c d g e g2 e2 R r => r.2.2.1.2.2.2.2.2.2 o p x p2 s1 p3 s2 a b c d (g R r) e (g2 R r) e2
  · exact fun o p x a b R r => r.2.2.2.1.1 o p x a b
  · exact fun o p x a b c R r => r.2.2.2.1.2.1 o p x a b c
  · exact fun o p x f a b c g R r => r.2.2.2.1.2.2.1 o p x f a b c (g R r)
  · exact fun o p x p1 s a b c g R r => r.2.2.2.1.2.2.2.1 o p x p1 s a b c (g R r)
  · exact fun o p a b c R r => r.2.2.2.1.2.2.2.2 o p a b c
  · exact fun o p f g R r => r.2.2.2.2.1.1 o p f (g R r)
  · exact fun o p p1 s1 f g g2 R r => r.2.2.2.2.1.2.1 o p p1 s1 f (g R r) (g2 R r)
  · exact fun o p p1 s1 p2 s2 g g2 R r => r.2.2.2.2.1.2.2.1 o p p1 s1 p2 s2 (g R r) (g2 R r)
  · exact fun o p a R r => r.2.2.2.2.1.2.2.2.1 o p a
  · exact fun o p x f a b g R r => r.2.2.2.2.1.2.2.2.2.1 o p x f a b (g R r)
  · exact fun o p x p1 s1 f a b g g2 R r => r.2.2.2.2.1.2.2.2.2.2.1 o p x p1 s1 f a b (g R r) (g2 R r)
  · exact fun o p x p1 s1 p2 s2 a b g g2 R r => r.2.2.2.2.1.2.2.2.2.2.2 o p x p1 s1 p2 s2 a b (g R r) (g2 R r)
  · exact fun o p f g R r => r.2.2.2.2.2.1 o p f (g R r)
  · exact fun o p p1 s1 f g g2 R r => r.2.2.2.2.2.2.1 o p p1 s1 f (g R r) (g2 R r)
  · exact fun o p p1 s1 p2 s2 g g2 R r => r.2.2.2.2.2.2.2.1 o p p1 s1 p2 s2 (g R r) (g2 R r)
  · exact fun o p a R r => r.2.2.2.2.2.2.2.2.1 o p a
  · exact fun o p x f a b g R r => r.2.2.2.2.2.2.2.2.2.1 o p x f a b (g R r)
  · exact fun o p x p1 s1 f a b g g2 R r => r.2.2.2.2.2.2.2.2.2.2.1 o p x p1 s1 f a b (g R r) (g2 R r)
  · exact fun o p x p1 s1 p2 s2 a b g g2 R r => r.2.2.2.2.2.2.2.2.2.2.2 o p x p1 s1 p2 s2 a b (g R r) (g2 R r)
/-! the class's grammar -/
/-- what a parse may change: the text's reading, how much is open, the formula f -/
def PF (f : Int) (h h' : Hp) : Prop := ∀ o i : Int, o ≠ f + 1 → ¬ (o = f ∧ i = 1) → ¬ (o = 1 ∧ 2 ≤ i ∧ i ≤ 5) → ¬ (o = 5 ∧ i = 3) → h' o i = h o i
theorem PF.rf {f : Int} {h : Hp} : PF f h h := fun _ _ _ _ _ _ => rfl
theorem PF.tr {f : Int} {h h1 h2 : Hp} (a : PF f h h1) (b : PF f h1 h2) : PF f h h2 := fun o i a1 a2 a3 a4 => (b o i a1 a2 a3 a4).trans (a o i a1 a2 a3 a4)
theorem PF.tx {f : Int} {h h1 : Hp} (F : Fr h h1 txL []) : PF f h h1 := fun o i a1 a2 a3 a4 => F o i List.not_mem_nil (fun q => by simp at q; omega)
def XG (t : Int → Int) (L : Nat) (h : Hp) (f : Int) (o : Nat) (as : Int) (l : List Int) (p : Nat) : Prop := XS t L h p ∧ h 5 3 = o ∧ h 5 2 = f ∧ h 5 4 = as ∧ h f 1 = l.length ∧ Lst (h (f + 1)) l
abbrev fOK (f : Int) : Prop := f = 3 ∨ f = 19 ∨ f = 21 ∨ f = 36 ∨ f = 38
theorem fOK.ob {f : Int} (hf : fOK f) : Ob 1 f := by rcases hf with rfl | rfl | rfl | rfl | rfl <;> exact ⟨by decide, rfl⟩
section L3D
variable {w : Wd} {h h0 : Hp} {K : Int → Hp → Prop} {t : Int → Int} {L p o : Nat} {f as : Int} {l : List Int}
theorem XG.tx (X : XG t L h f o as l p) (hf : fOK f) {h1 : Hp} {p1 : Nat} (F : Fr h h1 txL []) (X1 : XS t L h1 p1) : XG t L h1 f o as l p1 := by
  obtain ⟨-, a1, a2, a3, a4, a5⟩ := X
  have e : ∀ o i : Int, o ≠ 1 → h1 o i = h o i := fun o i n => F o i List.not_mem_nil (fun q => by simp at q; omega)
  have r : h1 (f + 1) = h (f + 1) := by funext i; exact e _ i (by omega)
  exact ⟨X1, by rw [e 5 3 (by decide)]; exact a1, by rw [e 5 2 (by decide)]; exact a2, by rw [e 5 4 (by decide)]; exact a3, by rw [e f 1 (by omega)]; exact a4, by rw [r]; exact a5⟩
theorem XB.pf {kd pl : Int} {h1 : Hp} (B : XB t L h kd pl) (e : h1 1 = h 1) (e2 : h1 2 = h 2) : XB t L h1 kd pl := by
  unfold XB TP at B ⊢
  rw [e, e2]
  exact B
/-- one step is put behind the others -/
theorem x_put (hf : fOK f) (X : XG t L h f o as l p) (hl : l.length < 1600) (v : Int) (k : ∀ h1, XG t L h1 f o as (l ++ [v]) p → PF f h h1 → K 1 h1) : C_X2_put w v h K := by
  obtain ⟨⟨T, e2, hp, e4⟩, a1, a2, a3, a4, a5⟩ := X
  have n2 : f ≠ 1 ∧ f ≠ 2 ∧ f ≠ 5 ∧ f + 1 ≠ 1 ∧ f + 1 ≠ 2 ∧ f + 1 ≠ 5 := by omega
  refine c_X2_put ?_
  rw [e4, a2]
  refine ⟨⟨by omega, by omega⟩, fun _ => ⟨hf.ob, c_X1_put hf.ob ?_⟩, fun q => absurd rfl q⟩
  rw [a4]
  refine ⟨⟨by omega, by omega⟩, fun q => absurd q (by omega), fun _ => ⟨⟨by omega, by omega⟩, fun h3 q3 h5 q5 => ?_⟩⟩
  have E : ∀ o : Int, o ≠ f → o ≠ f + 1 → h5 o = h o := fun o m1 m2 => (hu_row q5 m1).trans (hu_row q3 m2)
  have Ef : ∀ i : Int, h5 f i = if i = 1 then (l.length : Int) + 1 else h f i := fun i => by
    rw [q5, hu_if, hu_row q3 (show f ≠ f + 1 by omega), a4]
  have Er : ∀ i : Int, h5 (f + 1) i = if i = (l.length : Nat) then v else h (f + 1) i := fun i => by
    rw [hu_row q5 (show f + 1 ≠ f by omega), q3, hu_if]
  refine k h5 ⟨⟨?_, by rw [E 1 (by omega) (by omega)]; exact e2, hp, by rw [E 1 (by omega) (by omega)]; exact e4⟩, by rw [E 5 (by omega) (by omega)]; exact a1, by rw [E 5 (by omega) (by omega)]; exact a2, by rw [E 5 (by omega) (by omega)]; exact a3, by rw [Ef, if_pos rfl, List.length_append, List.length_singleton]; omega, a5.push (by rw [Er, if_pos rfl]) (fun i n => by rw [Er, if_neg n])⟩ (fun o i m1 m2 m3 m4 => ?_)
  · unfold TP
    rw [E 1 (by omega) (by omega), E 2 (by omega) (by omega)]; exact T
  · by_cases d : o = f
    · subst d
      rw [Ef, if_neg (fun q => m2 ⟨rfl, q⟩)]
    · rw [E o d m1]
theorem x_putBad {kd pl : Int} (B : XB t L h kd pl) (v : Int) (k : K 0 h) : C_X2_put w v h K := by
  have b := B.2.2.2
  refine c_X2_put ?_
  rw [B.2.1]
  exact ⟨⟨by omega, by omega⟩, fun q => absurd q (by omega), fun _ => k⟩
theorem x_goIn {q : Nat} (hf : fOK f) (X : XG t L h f o as l p) (e3 : h 1 3 = q) (ho : o ≤ 6) (k1 : o < 6 → ∀ h1, XG t L h1 f (o + 1) as l p → PF f h h1 → K 1 h1) (k0 : 6 ≤ o → ∀ h1, XB t L h1 4 q → PF f h h1 → K 0 h1) : C_X2_goIn w h K := by
  obtain ⟨X1, a1, a2, a3, a4, a5⟩ := X
  refine c_X2_goIn ?_
  rw [a1, e3]
  refine ⟨⟨by omega, by omega⟩, fun c h2 q2 => ?_, fun c => x_fail X1.1 X1.2.2.2 ⟨by decide, by decide⟩ (fun h4 F4 B4 _ => k0 (by omega) h4 B4 (PF.tx (F4.into (by decide))))⟩
  have F : Fr h h2 [(5, 3)] [] := by rw [q2]; exact Fr.cel
  have e : ∀ o i : Int, ¬ (o = 5 ∧ i = 3) → h2 o i = h o i := fun o i n => F o i List.not_mem_nil (fun q => by simp at q; omega)
  have r : ∀ o : Int, o ≠ 5 → h2 o = h o := fun o n => by funext i; exact e o i (fun q => n q.1)
  refine k1 (by omega) h2 ⟨⟨X1.1.fr F (by decide), by rw [r 1 (by decide)]; exact X1.2.1, X1.2.2.1, by rw [r 1 (by decide)]; exact X1.2.2.2⟩, by rw [q2, hu_if, if_pos rfl]; rfl, by rw [e 5 2 (by decide)]; exact a2, by rw [e 5 4 (by decide)]; exact a3, by rw [r f (by omega)]; exact a4, by rw [r (f + 1) (by omega)]; exact a5⟩ (fun o i _ _ _ m4 => e o i m4)
theorem x_goOut (hf : fOK f) (X : XG t L h f (o + 1) as l p) (k : ∀ h1, XG t L h1 f o as l p → PF f h h1 → K 1 h1) : C_X2_goOut w h K := by
  obtain ⟨X1, a1, a2, a3, a4, a5⟩ := X
  refine c_X2_goOut (fun h2 q2 => ?_)
  rw [a1] at q2
  have F : Fr h h2 [(5, 3)] [] := by rw [q2]; exact Fr.cel
  have e : ∀ o i : Int, ¬ (o = 5 ∧ i = 3) → h2 o i = h o i := fun o i n => F o i List.not_mem_nil (fun q => by simp at q; omega)
  have r : ∀ o : Int, o ≠ 5 → h2 o = h o := fun o n => by funext i; exact e o i (fun q => n q.1)
  refine k h2 ⟨⟨X1.1.fr F (by decide), by rw [r 1 (by decide)]; exact X1.2.1, X1.2.2.1, by rw [r 1 (by decide)]; exact X1.2.2.2⟩, by rw [q2, hu_if, if_pos rfl]; omega, by rw [e 5 2 (by decide)]; exact a2, by rw [e 5 4 (by decide)]; exact a3, by rw [r f (by omega)]; exact a4, by rw [r (f + 1) (by omega)]; exact a5⟩ (fun o i _ _ _ m4 => e o i m4)
/-- a parsing method of the class: from place p on, o open; what it puts is what the grammar tells -/
def SpX (t : Int → Int) (L : Nat) (as : Int) (w : Wd) (C : Wd → Nat → Hp → (Int → Hp → Prop) → Prop) (m o N : Nat) : Prop := ∀ (E : Nat) (h : Hp) (K : Int → Hp → Prop) (f : Int) (l : List Int) (p : Nat), N ≤ E → fOK f → XG t L h f o as l p → l.length ≤ p →
  (∀ p' s h', Gr t L as m o p (.inr (p', s)) → XG t L h' f o as (l ++ s) p' → s.length + p ≤ p' → p < p' → PF f h h' → K 1 h') → (∀ kd pl h', Gr t L as m o p (.inl (kd, pl)) → XB t L h' kd pl → PF f h h' → K 0 h') → C w E h K
end L3D
