/-! a river's text, piece by piece: what each piece is worth -/
abbrev PRes (α : Type) : Type := (Int × Int) ⊕ (Nat × α)
/-- one piece, then another -/
def pB {α β : Type} (P : Nat → PRes α → Prop) (Q : α → Nat → PRes β → Prop) (p : Nat) (r : PRes β) : Prop := (∃ f, P p (.inl f) ∧ r = .inl f) ∨ ∃ p1 a, P p (.inr (p1, a)) ∧ Q a p1 r
def pNum (t : Int → Int) (L : Nat) (lo hi : Int) (p : Nat) (r : PRes Int) : Prop := Sum.elim (fun f => NF t L (sk t L p) lo hi f.1 f.2) (fun x => ∃ n, NV t L (sk t L p) lo hi x.2 n ∧ x.1 = sk t L p + n) r
def pWd (t : Int → Int) (L : Nat) (a : Int) (p : Nat) (r : PRes Unit) : Prop := Sum.elim (fun f => ¬ wI t L (sk t L p) a ∧ f = (1, (sk t L p : Int))) (fun x => wI t L (sk t L p) a ∧ x.1 = sk t L p + (slen a).toNat) r
def pSg (t : Int → Int) (L : Nat) (c : Int) (p : Nat) (r : PRes Unit) : Prop := Sum.elim (fun f => byL t L (sk t L p) ≠ c ∧ f = (1, (sk t L p : Int))) (fun x => byL t L (sk t L p) = c ∧ x.1 = sk t L p + 1) r
def vN (t : Int → Int) (q n : Nat) : Int := hv (nml t q n) n
def frs (g : Hp) (v : Int) : Prop := NI g 0 v (-1) ∧ NI g 1 v (-1) ∧ NI g 2 v (-1)
/-- a name that the list k must hold; a name that no list may hold -/
def pAsk (t : Int → Int) (L : Nat) (g : Hp) (k : Int) (p : Nat) (r : PRes Int) : Prop := Sum.elim (fun f => NAf t L (sk t L p) f.1 f.2 ∨ ∃ n, NAn t L (sk t L p) n ∧ NI g k (vN t (sk t L p) n) (-1) ∧ f = (3, (sk t L p : Int))) (fun x => ∃ n, NAn t L (sk t L p) n ∧ NI g k (vN t (sk t L p) n) x.2 ∧ x.2 ≠ -1 ∧ x.1 = sk t L p + n) r
def pNew (t : Int → Int) (L : Nat) (g : Hp) (p : Nat) (r : PRes Int) : Prop := Sum.elim (fun f => NAf t L (sk t L p) f.1 f.2 ∨ ∃ n, NAn t L (sk t L p) n ∧ ¬ frs g (vN t (sk t L p) n) ∧ f = (3, (sk t L p : Int))) (fun x => ∃ n, NAn t L (sk t L p) n ∧ frs g (vN t (sk t L p) n) ∧ x.2 = vN t (sk t L p) n ∧ x.1 = sk t L p + n) r
/-- right behind a word no name is glued -/
theorem wI.gl {t : Int → Int} {L q : Nat} {a : Int} (W : wI t L q a) : isLt (byL t L (sk t L (q + (slen a).toNat))) → ¬ GL t (sk t L (q + (slen a).toNat)) := fun l => by
  by_cases d : sk t L (q + (slen a).toNat) = q + (slen a).toNat
  · rw [d] at l
    exact absurd l W.2.2.1
  · exact GL.sk d
/-- the class's list k of the river r is g's -/
def LK (h g : Hp) (o k : Int) (m : Nat) : Prop := h o 1 = g 93 k ∧ 0 ≤ g 93 k ∧ g 93 k ≤ m ∧ ∀ i : Int, 0 ≤ i → i < g 93 k → NmR (h (o + 1) i) (g 94 (10 * k + i))
section L3R
variable {w : Wd} {h h0 g : Hp} {K : Int → Hp → Prop} {t : Int → Int} {L p : Nat}
theorem LK.fr {h' : Hp} {o k : Int} {m : Nat} (A : LK h g o k m) (e1 : h' o 1 = h o 1) (e2 : h' (o + 1) = h (o + 1)) : LK h' g o k m := by
  unfold LK at A ⊢
  rw [e1, e2]
  exact A
theorem LK.tx {h' : Hp} {o k : Int} {m : Nat} (A : LK h g o k m) (ho : 1 < o) (F : Fr h h' txL []) : LK h' g o k m := by
  have e : ∀ o i : Int, o ≠ 1 → h' o i = h o i := fun o i n => F o i List.not_mem_nil (fun q => by simp at q; omega)
  exact A.fr (e o 1 (by omega)) (by funext i; exact e _ i (by omega))
theorem x_asked {o k : Int} {m : Nat} (ho : Ob 4 o) (ho1 : 1 < o) (hm : m ≤ 10) (hA : Ar 0 m (o + 1)) (A : LK h g o k m) (X : XS t L h p) (hg : isLt (byL t L (sk t L p)) → ¬ GL t (sk t L p)) (k1 : ∀ p' z, pAsk t L g k p (.inr (p', z)) → p < p' → ∀ h1, Fr h h1 txL [] → XS t L h1 p' → K z h1) (k0 : ∀ z f, pAsk t L g k p (.inl f) → ∀ h1, Fr h h1 txL [] → XB t L h1 f.1 f.2 → K z h1) : C_X8_asked w o h K := by
  have sg := sk_ge t L p
  refine c_X8_asked ho hA (x_name X hg (fun n N h2 F2 X2 e3 => ?_) (fun kd pl N h2 F2 B2 => ?_))
  · have R := N.r
    have A2 := A.tx ho1 F2
    refine ⟨R.r.1, fun _ => ?_, fun c => absurd R.r.2.2 c⟩
    refine x_indexOf ho hA R A2.1 ⟨A2.2.1, A2.2.2.1, hm⟩ A2.2.2.2 (fun z NZ => ?_)
    have zb : -1 ≤ z ∧ z ≤ 10 := by
      rcases NZ with ⟨a, -⟩ | ⟨a, b, -⟩
      · omega
      · have := A.2.2.1; omega
    refine ⟨⟨by omega, by omega⟩, fun c => k1 _ z ⟨n, N, NZ, c, rfl⟩ (by have := N.1; omega) h2 F2 X2, fun c => ?_⟩
    have c := Decidable.not_not.mp c
    rw [e3]
    refine x_fail X2.1 X2.2.2.2 ⟨by decide, by decide⟩ (fun h5 F5 B5 _ => k0 z (3, (sk t L p : Int)) (Or.inr ⟨n, N, by rw [← c]; exact NZ, rfl⟩) h5 ((F2.trans F5).into (by decide)) B5)
  · exact ⟨⟨by decide, by decide⟩, fun c => absurd rfl c, fun _ => k0 (-1) (kd, pl) (Or.inl N) h2 F2 B2⟩
theorem x_isNamed {r x v : Int} (hr : r = 6 ∨ r = 23) (N : NmR x v) (A0 : LK h g (r + 1) 0 5) (A1 : LK h g (r + 3) 1 5) (A2 : LK h g (r + 5) 2 10) (k1 : ¬ frs g v → K 1 h) (k0 : frs g v → K 0 h) : C_X7_isNamed w r x h K := by
  have o7 : Ob 7 r := by rcases hr with rfl | rfl <;> exact ⟨by decide, rfl⟩
  have b : ∀ {z : Int} {k : Int}, NI g k v z → g 93 k ≤ 10 → inR z ∧ (z ≠ -1 → ¬ NI g k v (-1)) := fun {z k} NZ l => by
    refine ⟨?_, fun c x => c (NZ.one x)⟩
    rcases NZ with ⟨a, -⟩ | ⟨a, b, -⟩
    · exact ⟨by omega, by omega⟩
    · exact ⟨by omega, by omega⟩
  have q1 : Ob 4 (r + 1) ∧ Ar 0 5 (r + 1 + 1) ∧ Ob 4 (r + 3) ∧ Ar 0 5 (r + 3 + 1) ∧ Ob 4 (r + 5) ∧ Ar 0 10 (r + 5 + 1) := by
    rcases hr with rfl | rfl <;> exact ⟨⟨by decide, rfl⟩, ⟨by decide, rfl⟩, ⟨by decide, rfl⟩, ⟨by decide, rfl⟩, ⟨by decide, rfl⟩, ⟨by decide, rfl⟩⟩
  obtain ⟨o1, a1, o3, a3, o5, a5⟩ := q1
  refine c_X7_isNamed o7 (x_indexOf o1 a1 N A0.1 ⟨A0.2.1, A0.2.2.1, by decide⟩ A0.2.2.2 (fun z NZ => ⟨(b NZ (by have := A0.2.2.1; omega)).1, fun c => k1 (fun x => (b NZ (by have := A0.2.2.1; omega)).2 c x.1), fun c => ?_⟩))
  refine x_indexOf o3 a3 N A1.1 ⟨A1.2.1, A1.2.2.1, by decide⟩ A1.2.2.2 (fun z1 NZ1 => ⟨(b NZ1 (by have := A1.2.2.1; omega)).1, fun c1 => k1 (fun x => (b NZ1 (by have := A1.2.2.1; omega)).2 c1 x.2.1), fun c1 => ?_⟩)
  refine x_indexOf o5 a5 N A2.1 ⟨A2.2.1, A2.2.2.1, by decide⟩ A2.2.2.2 (fun z2 NZ2 => ⟨(b NZ2 (by have := A2.2.2.1; omega)).1, fun c2 => k0 ⟨?_, ?_, ?_⟩, fun c2 => k1 (fun x => (b NZ2 (by have := A2.2.2.1; omega)).2 c2 x.2.2)⟩)
  · rw [← Decidable.not_not.mp c]; exact NZ
  · rw [← Decidable.not_not.mp c1]; exact NZ1
  · rw [← c2]; exact NZ2
end L3R
