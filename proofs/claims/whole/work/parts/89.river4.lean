/-! a river's statements on the class's side: owners and colours -/
def gN (g : Hp) (k v : Int) : Hp := hu (hu g 94 (10 * k + g 93 k) v) 93 k (g 93 k + 1)
section L3U
variable {w : Wd} {h h' h0 g g' : Hp} {K : Int → Hp → Prop} {t : Int → Int} {L p q : Nat} {r : Int}
theorem gN_93 {k v j : Int} : gN g k v 93 j = if j = k then g 93 k + 1 else g 93 j := by unfold gN; rw [hu_if, hu_row rfl (by decide)]
theorem gN_94 {k v j : Int} : gN g k v 94 j = if j = 10 * k + g 93 k then v else g 94 j := by unfold gN; rw [hu_row rfl (by decide), hu_if]
theorem gN_o {k v o : Int} (h1 : o ≠ 93) (h2 : o ≠ 94) : gN g k v o = g o := by unfold gN; rw [hu_row rfl h1, hu_row rfl h2]
theorem LK.new {o k x v : Int} {m : Nat} (A : LK h g o k m) (full : g 93 k < m) (N : NmR x v) (e1 : h' o 1 = g 93 k + 1) (e2 : ∀ i : Int, h' (o + 1) i = if i = g 93 k then x else h (o + 1) i) : LK h' (gN g k v) o k m := by
  obtain ⟨a1, a2, a3, a4⟩ := A
  unfold LK
  rw [gN_93, if_pos rfl]
  refine ⟨e1, by omega, by omega, fun i i0 i1 => ?_⟩
  rw [e2, gN_94]
  by_cases d : i = g 93 k
  · rw [if_pos d, if_pos (by omega)]; exact N
  · rw [if_neg d, if_neg (by omega)]; exact a4 i i0 (by omega)
theorem LK.oth {o k k2 v : Int} {m2 : Nat} (A : LK h g o k2 m2) (hm : m2 ≤ 10) (n : k2 ≠ k) (b : 0 ≤ g 93 k ∧ g 93 k < 10) (e1 : h' o 1 = h o 1) (e2 : h' (o + 1) = h (o + 1)) : LK h' (gN g k v) o k2 m2 := by
  obtain ⟨a1, a2, a3, a4⟩ := A
  unfold LK
  rw [gN_93, if_neg n, e1, e2]
  refine ⟨a1, a2, a3, fun i i0 i1 => ?_⟩
  rw [gN_94, if_neg (by omega)]; exact a4 i i0 i1
theorem CRv.name {k o x v : Int} (A : CRv h g r) (hr : r = 6 ∨ r = 23) (hk : (k = 0 ∧ o = r + 1) ∨ (k = 1 ∧ o = r + 3)) (full : g 93 k < 5) (N : NmR x v) (e : ∀ o' i : Int, h' o' i = if o' = o ∧ i = 1 then g 93 k + 1 else if o' = o + 1 ∧ i = g 93 k then x else if o' = 1 then h' 1 i else h o' i) : CRv h' (gN g k v) r := by
  obtain ⟨a1, a2, a3, a4, a5, a6, a7, a8, a9, a10, a11, a12, a13⟩ := A
  have er : ∀ o' : Int, o' ≠ 1 → o' ≠ o → o' ≠ o + 1 → h' o' = h o' := fun o' n0 n1 n2 => funext (fun i => by rw [e, if_neg (fun x => n1 x.1), if_neg (fun x => n2 x.1), if_neg n0])
  have eo : h' o 1 = g 93 k + 1 := by rw [e, if_pos ⟨rfl, rfl⟩]
  have eo1 : ∀ i : Int, h' (o + 1) i = if i = g 93 k then x else h (o + 1) i := fun i => by
    rw [e, if_neg (fun x => by omega)]
    by_cases d : i = g 93 k
    · rw [if_pos ⟨rfl, d⟩, if_pos d]
    · rw [if_neg (fun x => d x.2), if_neg d, if_neg (by omega)]
  have p0 : 0 ≤ g 93 k := by rcases hk with ⟨rfl, -⟩ | ⟨rfl, -⟩; exact a2.2.1; exact a3.2.1
  have L0 : LK h' (gN g k v) (r + 1) 0 5 := by
    rcases hk with ⟨rfl, rfl⟩ | ⟨rfl, rfl⟩
    · exact a2.new (by omega) N eo eo1
    · exact a2.oth (by decide) (by decide) ⟨p0, by omega⟩ (by rw [er _ (by omega) (by omega) (by omega)]) (er _ (by omega) (by omega) (by omega))
  have L1 : LK h' (gN g k v) (r + 3) 1 5 := by
    rcases hk with ⟨rfl, rfl⟩ | ⟨rfl, rfl⟩
    · exact a3.oth (by decide) (by decide) ⟨p0, by omega⟩ (by rw [er _ (by omega) (by omega) (by omega)]) (er _ (by omega) (by omega) (by omega))
    · exact a3.new (by omega) N eo eo1
  have L2 : LK h' (gN g k v) (r + 5) 2 10 := a4.oth (by decide) (by omega) ⟨p0, by omega⟩ (by rw [er _ (by omega) (by omega) (by omega)]) (er _ (by omega) (by omega) (by omega))
  have up : ∀ j : Int, g 93 j ≤ gN g k v 93 j := fun j => by
    rw [gN_93]; split
    · rename_i d; rw [d]; omega
    · omega
  have b2 : gN g k v 93 2 = g 93 2 := by rw [gN_93, if_neg (by omega)]
  refine ⟨by rw [er r (by omega) (by omega) (by omega), gN_o (by decide) (by decide)]; exact a1, L0, L1, L2, by rw [er _ (by omega) (by omega) (by omega), gN_o (by decide) (by decide)]; exact a5, fun b b0 b1 => ?_, ?_, by rw [er r (by omega) (by omega) (by omega), gN_o (by decide) (by decide)]; exact a8, by rw [er r (by omega) (by omega) (by omega), gN_o (by decide) (by decide)]; exact a9, by rw [er r (by omega) (by omega) (by omega), gN_o (by decide) (by decide)]; exact a10, (a11.hh (er _ (by omega) (by omega) (by omega)) (er _ (by omega) (by omega) (by omega))).gg (gN_o (by decide) (by decide)) (gN_o (by decide) (by decide)) (gN_o (by decide) (by decide)) (gN_o (by decide) (by decide)), (a12.hh (er _ (by omega) (by omega) (by omega)) (er _ (by omega) (by omega) (by omega))).gg (gN_o (by decide) (by decide)) (gN_o (by decide) (by decide)) (gN_o (by decide) (by decide)) (gN_o (by decide) (by decide)), by rw [er r (by omega) (by omega) (by omega), gN_o (by decide) (by decide)]; exact a13⟩
  · rw [b2] at b1
    have c := a6 b b0 b1
    have u0 := up 0
    have u1 := up 1
    unfold CB at c ⊢
    rw [er (r + 8) (by omega) (by omega) (by omega), er (r + 9) (by omega) (by omega) (by omega), er (r + 10) (by omega) (by omega) (by omega), er (r + 11) (by omega) (by omega) (by omega), er (r + 12) (by omega) (by omega) (by omega), gN_o (o := 96) (by decide) (by decide), gN_o (o := 68) (by decide) (by decide)]
    exact ⟨⟨c.1.1, c.1.2.1, Int.lt_of_lt_of_le c.1.2.2 u0⟩, ⟨c.2.1.1, c.2.1.2.1, Int.lt_of_lt_of_le c.2.1.2.2 u1⟩, c.2.2⟩
  · rw [b2, er (r + 11) (by omega) (by omega) (by omega)]; exact a7
theorem x_noRoom (X : XS t L h p) {q : Nat} (e3 : h 1 3 = q) (k : ∀ h1, Fr h h1 txL [] → XB t L h1 5 q → K 0 h1) : C_X8_isRoom w 0 h K := by
  refine c_X8_isRoom (Or.inl rfl) ⟨fun c => absurd rfl c, fun _ => ?_⟩
  rw [e3]
  exact x_fail X.1 X.2.2.2 ⟨by decide, by decide⟩ (fun h5 F5 B5 _ => ⟨fun _ => k h5 (F5.into (by decide)) B5, fun c => absurd rfl c⟩)
theorem x_addName {k c : Int} {Z : Hp → Prop} (hZ : ∀ h1, K 0 h1 → Z h1) (hk : (k = 0 ∧ c = 1) ∨ (k = 1 ∧ c = 3)) (hr : r = 6 ∨ r = 23) (hr2 : h 60 2 = r) (A : CRv h g r) (X : XS t L h p) (hg : isLt (byL t L (sk t L p)) → ¬ GL t (sk t L p)) (e3 : h 1 3 = q)
    (k1 : ∀ p' g', bName t L g k q p (.inr (p', g')) → p < p' → ∀ h1, XS t L h1 p' → CRv h1 g' r → PV r h h1 → K 1 h1)
    (k0 : ∀ f, bName t L g k q p (.inl f) → ∀ h1, XB t L h1 f.1 f.2 → PV r h h1 → K 0 h1) :
    (Ob 7 (h 60 2)) ∧ (C_X4_isFull w ((h 60 2) + c) h (fun r153 h154 => (r153 = 0 ∨ r153 = 1) → ((r153 ≠ 0) → (C_X8_isRoom w 0 h154 (fun r156 h157 => (r156 = 0 ∨ r156 = 1) → ((r156 = 0) → (Z h157)) ∧ (¬ (r156 = 0) → ((Ob 7 (h157 60 2)) ∧ (C_X8_given w ((h157 60 2) + c) h157 (fun r160 h161 => (r160 = 0 ∨ r160 = 1) → ((r160 = 0) → (Z h161)) ∧ (¬ (r160 = 0) → (K 1 h161))))))))) ∧ (¬ (r153 ≠ 0) → (C_X8_isRoom w 1 h154 (fun r156 h157 => (r156 = 0 ∨ r156 = 1) → ((r156 = 0) → (Z h157)) ∧ (¬ (r156 = 0) → ((Ob 7 (h157 60 2)) ∧ (C_X8_given w ((h157 60 2) + c) h157 (fun r160 h161 => (r160 = 0 ∨ r160 = 1) → ((r160 = 0) → (Z h161)) ∧ (¬ (r160 = 0) → (K 1 h161))))))))))) := by
  rw [hr2]
  refine ⟨ob7 hr, ?_⟩
  have q1 : Ob 4 (r + c) ∧ Ar 0 5 (r + c + 1) ∧ r + c = (if k = 0 then r + 1 else r + 3) := by
    rcases hr with rfl | rfl <;> rcases hk with ⟨rfl, rfl⟩ | ⟨rfl, rfl⟩ <;> exact ⟨⟨by decide, rfl⟩, ⟨by decide, rfl⟩, rfl⟩
  obtain ⟨o4, ar, -⟩ := q1
  have Lk : LK h g (r + c) k 5 := by
    rcases hk with ⟨rfl, rfl⟩ | ⟨rfl, rfl⟩
    · exact A.2.1
    · exact A.2.2.1
  have l5 := Lk.2.2.1
  have l0 := Lk.2.1
  refine c_X4_isFull o4 ar ?_
  rw [Lk.1]
  refine ⟨⟨by omega, by omega⟩, fun full _ => ⟨fun c => absurd rfl c, fun _ => c_X8_isRoom (Or.inr rfl) ⟨fun _ _ => ⟨fun c => absurd c (by decide), fun _ => ?_⟩, fun c => absurd (by decide) c⟩⟩, fun full _ => ⟨fun _ => x_noRoom X e3 (fun h1 F1 B1 _ => ⟨fun _ => hZ _ (k0 (5, (q : Int)) (Or.inl ⟨?_, rfl⟩) h1 B1 (PV.tx F1)), fun c => absurd rfl c⟩), fun c => absurd (by decide) c⟩⟩
  · have full : g 93 k < 5 := full
    rw [hr2]
    refine ⟨ob7 hr, x_given o4 ar hr hr2 (by omega) A (by decide) Lk (by omega) X hg (fun p' v x D N pl h1 X1 e P1 _ => ⟨fun c => absurd c (by decide), fun _ => ?_⟩) (fun f D h1 B1 P1 _ => ⟨fun _ => hZ _ (k0 f (Or.inr ⟨full, Or.inl ⟨f, D, rfl⟩⟩) h1 B1 P1), fun c => absurd rfl c⟩)⟩
    exact k1 p' (gN g k v) (Or.inr ⟨full, Or.inr ⟨p', v, D, rfl⟩⟩) pl h1 X1 (A.name hr (by omega) full N e) P1
  · have : ¬ (g 93 k < ((5 : Nat) : Int)) := full
    omega
end L3U
