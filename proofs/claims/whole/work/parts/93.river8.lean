/-! a river's statements on the class's side: a bank whole -/
section L3Y
variable {w : Wd} {h h' h0 h1 h2 g g' : Hp} {K : Int → Hp → Prop} {t : Int → Int} {L p q : Nat} {r b v : Int}
theorem NI.bd {k z : Int} (N : NI g k v z) (n : z ≠ -1) : 0 ≤ z ∧ z < g 93 k := by
  rcases N with ⟨a, -⟩ | ⟨a, b, -⟩
  · exact absurd a n
  · exact ⟨a, b⟩
theorem pAsk.bd {k z : Int} {p' : Nat} (D : pAsk t L g k p (.inr (p', z))) : 0 ≤ z ∧ z < g 93 k := by
  obtain ⟨n, -, N, ne, -⟩ := D
  exact NI.bd N ne
abbrev rB3 (t : Int → Int) (L : Nat) (g : Hp) (v a c s n : Int) : Nat → PRes Hp → Prop := pB (pWd t L 1009) (fun _ => pB (pNum t L 1 9) (fun z p r => r = .inr (p, gBank g v a c s n z)))
abbrev rB2 (t : Int → Int) (L : Nat) (g : Hp) (v a c s : Int) : Nat → PRes Hp → Prop := pB (pWd t L 1008) (fun _ => pB (pNum t L 0 99) (fun n => rB3 t L g v a c s n))
abbrev rB1 (t : Int → Int) (L : Nat) (g : Hp) (v a c : Int) : Nat → PRes Hp → Prop := pB (pWd t L 1002) (fun _ => pB (pNum t L 0 (g 68 35 - 1)) (fun s => rB2 t L g v a c s))
abbrev rB0 (t : Int → Int) (L : Nat) (g : Hp) (v : Int) : Nat → PRes Hp → Prop := pB (pWd t L 1007) (fun _ => pB (pAsk t L g 0) (fun a => pB (pWd t L 1005) (fun _ => pB (pAsk t L g 1) (fun c => rB1 t L g v a c))))
theorem x_bankTold (hr : r = 6 ∨ r = 23) (hb : 0 ≤ b ∧ b < 10) (e60 : h 60 2 = r) (e5 : h (r + 5) 1 = b + 1) (e12 : h r 12 = g 68 35 ∧ 3 ≤ g 68 35 ∧ g 68 35 ≤ 8) (L0 : LK h g (r + 1) 0 5) (L1 : LK h g (r + 3) 1 5) (X : XS t L h p) {Q : PRes Hp → Prop} (up : ∀ res, rB0 t L g v p res → Q res)
    (k1 : ∀ p' a c s n z, Q (.inr (p', gBank g v a c s n z)) → (0 ≤ a ∧ a < g 93 0) → (0 ≤ c ∧ c < g 93 1) → (0 ≤ s ∧ s < g 68 35) → (0 ≤ n ∧ n ≤ 99) → (1 ≤ z ∧ z ≤ 9) → p < p' → ∀ h1, XS t L h1 p' → E1 h1 (S5 h r b a c s n z) → K 1 h1)
    (k0 : ∀ f, Q (.inl f) → ∀ h1, XB t L h1 f.1 f.2 → PV r h h1 → K 0 h1) : C_X8_bankTold w h K := by
  have E0 : E1 h h := fun _ _ _ => rfl
  have H0 : ∀ o : Int, ¬ (r ≤ o ∧ o < r + 17) → h o = h o := fun _ _ => rfl
  have Hu : ∀ {S : Hp} {x y z : Int}, (∀ o : Int, ¬ (r ≤ o ∧ o < r + 17) → S o = h o) → (r ≤ x ∧ x < r + 17) → ∀ o : Int, ¬ (r ≤ o ∧ o < r + 17) → hu S x y z o = h o := fun H hx o n => by rw [hu_row rfl (fun c => n (by rw [c]; exact hx))]; exact H o n
  have n1 := sk_ge t L p
  have q1 : Ob 4 (r + 1) ∧ Ar 0 5 (r + 1 + 1) ∧ Ob 4 (r + 3) ∧ Ar 0 5 (r + 3 + 1) := by
    rcases hr with rfl | rfl <;> exact ⟨⟨by decide, rfl⟩, ⟨by decide, rfl⟩, ⟨by decide, rfl⟩, ⟨by decide, rfl⟩⟩
  obtain ⟨o1, a1, o3, a3⟩ := q1
  refine c_X8_bankTold ?_
  rw [e60, e5, show b + 1 - 1 = b by omega]
  refine ⟨ob7 hr, ob7 hr, c_X7_hasBank (ob7 hr) ?_⟩
  rw [e5, e60]
  refine ⟨⟨by omega, by omega⟩, fun c => absurd c (by omega), fun _ => ⟨⟨by omega, by omega⟩, ⟨by omega, by omega⟩, fun c => absurd c (by omega), fun _ => ⟨⟨by omega, by omega⟩, fun c => absurd c (by omega), fun _ _ => ⟨fun _ => ⟨ob7 hr, ?_⟩, fun c => absurd (by decide) c⟩⟩⟩⟩
  refine x_nwd st_7 (by decide +kernel) X (fun W2 h2 F2 X2 _ => ⟨fun c => absurd c (by decide), fun _ => ?_⟩) (fun W2 h2 F2 B2 _ => ⟨fun _ => ⟨hb, fun h3 q3 => ?_⟩, fun c => absurd rfl c⟩)
  · have E2 := E0.tx F2
    have r2 : h2 60 2 = r := by rw [E2.r 60 (by decide)]; exact e60
    have g2 := W2.gl
    have D2 : pWd t L 1007 p (.inr (sk t L p + (slen 1007).toNat, ())) := ⟨W2, rfl⟩
    obtain ⟨p2, hp2⟩ : ∃ p2, p2 = sk t L p + (slen 1007).toNat := ⟨_, rfl⟩
    rw [← hp2] at X2 D2 g2
    rw [r2]
    refine ⟨ob7 hr, x_asked o1 (by omega) (by decide) a1 (L0.tx (by omega) F2) X2 g2 (fun p3 a D3 l3 h3 F3 X3 => ⟨hb, fun h4 q4 => ?_⟩) (fun z f D3 h3 F3 B3 => ⟨hb, fun h4 q4 => ?_⟩)⟩
    · have ab := pAsk.bd D3
      have E4 := (E2.tx F3).up (by omega) q4
      have X4 : XS t L h4 p3 := X3.row (kd := 0) (hu_row q4 (by omega)) (hu_row q4 (by omega))
      refine ⟨X4.zz.1, fun c => absurd c X4.zz.2, fun _ => x_nwd st_5 (by decide +kernel) X4 (fun W5 h5 F5 X5 _ => ⟨fun c => absurd c (by decide), fun _ => ?_⟩) (fun W5 h5 F5 B5 _ => ⟨fun _ => db_104 B5 (k0 (1, (sk t L p3 : Int)) (up _ (Or.inr ⟨p2, (), D2, Or.inr ⟨p3, a, D3, Or.inl ⟨_, ⟨W5, rfl⟩, rfl⟩⟩⟩)) h5 B5 (pv_of (E4.tx F5) hr (Hu H0 (by omega)))), fun c => absurd rfl c⟩)⟩
      have E5 := E4.tx F5
      have r5 : h5 60 2 = r := by rw [E5.r 60 (by decide), hu_row rfl (by omega)]; exact e60
      have g5 := W5.gl
      have D5 : pWd t L 1005 p3 (.inr (sk t L p3 + (slen 1005).toNat, ())) := ⟨W5, rfl⟩
      obtain ⟨p5, hp5⟩ : ∃ p5, p5 = sk t L p3 + (slen 1005).toNat := ⟨_, rfl⟩
      rw [← hp5] at X5 D5 g5
      have n3 := sk_ge t L p3
      rw [r5]
      have L5 : LK h5 g (r + 3) 1 5 := L1.fr (by rw [E5.r _ (by omega), hu_row rfl (by omega)]) (by rw [E5.r _ (by omega), hu_row rfl (by omega)])
      refine ⟨ob7 hr, ob7 hr, x_asked o3 (by omega) (by decide) a3 L5 X5 g5 (fun p6 c D6 l6 h6 F6 X6 => ⟨hb, fun h7 q7 => ?_⟩) (fun z f D6 h6 F6 B6 => ⟨hb, fun h7 q7 => ?_⟩)⟩
      · have cb := pAsk.bd D6
        have E7 := (E5.tx F6).up (by omega) q7
        have X7 : XS t L h7 p6 := X6.row (kd := 0) (hu_row q7 (by omega)) (hu_row q7 (by omega))
        have H7 : ∀ o : Int, ¬ (r ≤ o ∧ o < r + 17) → hu (hu h (r + 8) b a) (r + 9) b c o = h o := Hu (Hu H0 (by omega)) (by omega)
        have e60' : hu (hu h (r + 8) b a) (r + 9) b c 60 2 = r := by rw [H7 60 (by omega)]; exact e60
        have rr : ∀ {S : Hp} {x y z : Int}, x ≠ r → hu S x y z r = S r := fun n => hu_row rfl (fun c => n c.symm)
        have e12' : hu (hu h (r + 8) b a) (r + 9) b c r 12 = g 68 35 ∧ 3 ≤ g 68 35 ∧ g 68 35 ≤ 8 := by rw [rr (by omega), rr (by omega)]; exact e12
        refine xb_104 hr hb e60' e12' E7 X7 (Q := Q) (next := fun s => rB2 t L g v a c s) (fun res D => up res (Or.inr ⟨p2, (), D2, Or.inr ⟨p3, a, D3, Or.inr ⟨p5, (), D5, Or.inr ⟨p6, c, D6, D⟩⟩⟩⟩)) (fun p8 s s0 s1 l8 up8 h8 X8 E8 => ?_) (fun f D h8 x B8 O => k0 f D h8 B8 (O.elim (fun E => pv_of E hr H7) (fun E => pv_of E hr (Hu H7 (by omega)))))
        have H8 := Hu (x := r + 10) (y := b) (z := s) H7 (by omega)
        refine xb_152 (g := g) hr hb (by rw [H8 60 (by omega)]; exact e60) (by rw [rr (by omega)]; exact e12') E8 X8 (Q := Q) (next := fun n => rB3 t L g v a c s n) up8 (fun p9 n m0 m1 l9 up9 h9 X9 E9 => ?_) (fun f D h9 x B9 O => k0 f D h9 B9 (O.elim (fun E => pv_of E hr H8) (fun E => pv_of E hr (Hu H8 (by omega)))))
        have H9 := Hu (x := r + 11) (y := b) (z := n) H8 (by omega)
        refine xb_193 (g := g) hr hb (by rw [H9 60 (by omega)]; exact e60) (by rw [rr (by omega), rr (by omega)]; exact e12') E9 X9 (Q := Q) (next := fun z p r => r = .inr (p, gBank g v a c s n z)) up9 (fun p10 z z0 z1 l10 up10 h10 X10 E10 => ?_) (fun f D h10 x B10 O => k0 f D h10 B10 (O.elim (fun E => pv_of E hr H9) (fun E => pv_of E hr (Hu H9 (by omega)))))
        exact l_X8_bankTold_234 ⟨X10.zz.1, fun c => absurd c X10.zz.2, fun _ => k1 p10 a c s n z (up10 _ rfl) ab cb ⟨s0, by omega⟩ ⟨m0, m1⟩ ⟨z0, z1⟩ (by omega) h10 X10 E10⟩
      · have E7 := (E5.tx F6).up (by omega) q7
        have B7 : XB t L h7 f.1 f.2 := B6.pf (hu_row q7 (by omega)) (hu_row q7 (by omega))
        exact db_104 B7 (k0 f (up _ (Or.inr ⟨p2, (), D2, Or.inr ⟨p3, a, D3, Or.inr ⟨p5, (), D5, Or.inl ⟨f, D6, rfl⟩⟩⟩⟩)) h7 B7 (pv_of E7 hr (Hu (Hu H0 (by omega)) (by omega))))
    · have E4 := (E2.tx F3).up (by omega) q4
      have B4 : XB t L h4 f.1 f.2 := B3.pf (hu_row q4 (by omega)) (hu_row q4 (by omega))
      exact ⟨B4.nz.1, fun _ => db_104 B4 (k0 f (up _ (Or.inr ⟨p2, (), D2, Or.inl ⟨f, D3, rfl⟩⟩)) h4 B4 (pv_of E4 hr (Hu H0 (by omega)))), fun c => absurd B4.nz.2 c⟩
  · have E3 := (E0.tx F2).up (by omega) q3
    have B3 : XB t L h3 1 (sk t L p) := B2.pf (hu_row q3 (by omega)) (hu_row q3 (by omega))
    exact ⟨B3.nz.1, fun _ => db_104 B3 (k0 (1, (sk t L p : Int)) (up _ (Or.inl ⟨_, ⟨W2, rfl⟩, rfl⟩)) h3 B3 (pv_of E3 hr (Hu H0 (by omega)))), fun c => absurd B3.nz.2 c⟩
end L3Y
