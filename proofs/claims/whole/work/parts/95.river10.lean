/-! one statement of the class -/
section L4A
variable {w : Wd} {h h' h0 h1 h2 g g' : Hp} {K : Int → Hp → Prop} {t : Int → Int} {L p q : Nat} {r b v a c s n z : Int}
theorem pB.ok {α β : Type} {P : Nat → PRes α → Prop} {Q : α → Nat → PRes β → Prop} {x : Nat × β} (D : pB P Q p (.inr x)) : ∃ p1 a, P p (.inr (p1, a)) ∧ Q a p1 (.inr x) := by
  rcases D with ⟨f, -, e⟩ | D
  · cases e
  · exact D
theorem bSlope_44 {p' : Nat} (D : bSlope t L g p (.inr (p', g'))) : g' 68 44 = g 68 44 := by
  obtain ⟨p1, a1, -, D⟩ := D.ok
  obtain ⟨p2, a2, -, D⟩ := D.ok
  obtain ⟨p3, a3, -, D⟩ := D.ok
  cases D
  rw [hu_row rfl (by decide)]
theorem bName_44 {k : Int} {p' : Nat} (D : bName t L g k q p (.inr (p', g'))) : g' 68 44 = g 68 44 := by
  rcases D with ⟨-, e⟩ | ⟨-, D⟩
  · cases e
  · obtain ⟨p1, a1, -, D⟩ := D.ok
    cases D
    rw [hu_row rfl (by decide), hu_row rfl (by decide)]
theorem bBank_44 {p' : Nat} (D : bBank t L g q p (.inr (p', g'))) : g' 68 44 = g 68 44 := by
  rcases D with ⟨-, e⟩ | ⟨-, D⟩
  · cases e
  · obtain ⟨p1, a1, -, D⟩ := D.ok
    obtain ⟨p2, a2, -, D⟩ := D.ok
    obtain ⟨p3, a3, -, D⟩ := D.ok
    obtain ⟨p4, a4, -, D⟩ := D.ok
    obtain ⟨p5, a5, -, D⟩ := D.ok
    obtain ⟨p6, a6, -, D⟩ := D.ok
    obtain ⟨p7, a7, -, D⟩ := D.ok
    obtain ⟨p8, a8, -, D⟩ := D.ok
    obtain ⟨p9, a9, -, D⟩ := D.ok
    obtain ⟨p10, a10, -, D⟩ := D.ok
    obtain ⟨p11, a11, -, D⟩ := D.ok
    cases D
    rw [gB_o (by decide) (by decide) (by decide)]
theorem x_addBank {Z : Hp → Prop} (hZ : ∀ h1, K 0 h1 → Z h1) (hr : r = 6 ∨ r = 23) (hr2 : h 60 2 = r) (A : CRv h g r) (X : XS t L h p) (hg : isLt (byL t L (sk t L p)) → ¬ GL t (sk t L p)) (e3 : h 1 3 = q)
    (k1 : ∀ p' g', bBank t L g q p (.inr (p', g')) → p < p' → ∀ h1, XS t L h1 p' → CRv h1 g' r → PV r h h1 → K 1 h1)
    (k0 : ∀ f, bBank t L g q p (.inl f) → ∀ h1, XB t L h1 f.1 f.2 → PV r h h1 → K 0 h1) :
    (Ob 7 (h 60 2)) ∧ (C_X4_isFull w ((h 60 2) + 5) h (fun r153 h154 => (r153 = 0 ∨ r153 = 1) → ((r153 ≠ 0) → (C_X8_isRoom w 0 h154 (fun r156 h157 => (r156 = 0 ∨ r156 = 1) → ((r156 = 0) → (Z h157)) ∧ (¬ (r156 = 0) → ((Ob 7 (h157 60 2)) ∧ (C_X8_given w ((h157 60 2) + 5) h157 (fun r160 h161 => (r160 = 0 ∨ r160 = 1) → ((r160 = 0) → (Z h161)) ∧ (¬ (r160 = 0) → (C_X8_bankTold w h161 (fun r120 h121 => (r120 = 0 ∨ r120 = 1) → ((r120 = 0) → (Z h121)) ∧ (¬ (r120 = 0) → (K 1 h121)))))))))))) ∧ (¬ (r153 ≠ 0) → (C_X8_isRoom w 1 h154 (fun r156 h157 => (r156 = 0 ∨ r156 = 1) → ((r156 = 0) → (Z h157)) ∧ (¬ (r156 = 0) → ((Ob 7 (h157 60 2)) ∧ (C_X8_given w ((h157 60 2) + 5) h157 (fun r160 h161 => (r160 = 0 ∨ r160 = 1) → ((r160 = 0) → (Z h161)) ∧ (¬ (r160 = 0) → (C_X8_bankTold w h161 (fun r120 h121 => (r120 = 0 ∨ r120 = 1) → ((r120 = 0) → (Z h121)) ∧ (¬ (r120 = 0) → (K 1 h121)))))))))))))) := by
  rw [hr2]
  refine ⟨ob7 hr, ?_⟩
  have q1 : Ob 4 (r + 5) ∧ Ar 0 10 (r + 5 + 1) := by
    rcases hr with rfl | rfl <;> exact ⟨⟨by decide, rfl⟩, ⟨by decide, rfl⟩⟩
  obtain ⟨o4, ar⟩ := q1
  have Lk := A.2.2.2.1
  have l5 := Lk.2.2.1
  have l0 := Lk.2.1
  refine c_X4_isFull o4 ar ?_
  rw [Lk.1]
  refine ⟨⟨by omega, by omega⟩, fun full _ => ⟨fun c => absurd rfl c, fun _ => c_X8_isRoom (Or.inr rfl) ⟨fun _ _ => ⟨fun c => absurd c (by decide), fun _ => ?_⟩, fun c => absurd (by decide) c⟩⟩, fun full _ => ⟨fun _ => x_noRoom X e3 (fun h1 F1 B1 _ => ⟨fun _ => hZ _ (k0 (5, (q : Int)) (Or.inl ⟨?_, rfl⟩) h1 B1 (PV.tx F1)), fun c => absurd rfl c⟩), fun c => absurd (by decide) c⟩⟩
  · have full : g 93 2 < 10 := full
    rw [hr2]
    refine ⟨ob7 hr, x_given o4 ar hr hr2 (by omega) A (by decide) Lk (by omega) X hg (fun p' v x D N pl h1 X1 e P1 _ => ⟨fun c => absurd c (by decide), fun _ => ?_⟩) (fun f D h1 B1 P1 _ => ⟨fun _ => hZ _ (k0 f (Or.inr ⟨full, Or.inl ⟨f, D, rfl⟩⟩) h1 B1 P1), fun c => absurd rfl c⟩)⟩
    have e' : ∀ o i : Int, o ≠ 1 → o ≠ r + 5 → o ≠ r + 6 → h1 o i = h o i := fun o i x0 x1 x2 => by rw [e, if_neg (fun y => x1 y.1), if_neg (fun y => x2 (by omega)), if_neg x0]
    have er : ∀ o : Int, o ≠ 1 → o ≠ r + 5 → o ≠ r + 6 → h1 o = h o := fun o x0 x1 x2 => funext (fun i => e' o i x0 x1 x2)
    refine x_bankTold (b := g 93 2) (v := v) hr ⟨l0, full⟩ (by rw [er 60 (by decide) (by omega) (by omega)]; exact hr2) (by rw [e, if_pos ⟨rfl, rfl⟩]) (by rw [er r (by omega) (by omega) (by omega)]; exact A.1) (A.2.1.fr (by rw [er _ (by omega) (by omega) (by omega)]) (er _ (by omega) (by omega) (by omega))) (A.2.2.1.fr (by rw [er _ (by omega) (by omega) (by omega)]) (er _ (by omega) (by omega) (by omega))) X1 (Q := bBank t L g q p) (fun res D2 => Or.inr ⟨full, Or.inr ⟨p', v, D, D2⟩⟩) (fun p2 a c s n z D2 ab cb sb nb zb l2 h2 X2 E2 _ => ⟨fun c => absurd c (by decide), fun _ => ?_⟩) (fun f D2 h2 B2 P2 _ => ⟨fun _ => hZ _ (k0 f D2 h2 B2 (P1.tr P2)), fun c => absurd rfl c⟩)
    have S := A.bank hr full N e ab cb sb nb zb
    refine k1 p2 _ D2 (by omega) h2 X2 (S.cg (fun o i x0 x1 => E2 o i (fun y => by omega))) (P1.tr (pv_of E2 hr (fun o n => s5_o (fun y => n (by omega)))))
  · have : ¬ (g 93 2 < ((10 : Nat) : Int)) := full
    omega
end L4A
