/-! a river's statements on the class's side: what is left -/
section L3W
variable {w : Wd} {h h' h0 h1 h2 g g' : Hp} {K : Int → Hp → Prop} {t : Int → Int} {L p q : Nat} {r : Int}
theorem XS.row {kd : Int} (X : XS t L h p) (e1 : h' 1 = h 1) (e2 : h' 2 = h 2) : XS t L h' p := by
  unfold XS TP at X ⊢; rw [e1, e2]; exact X
theorem PV.row {o i v : Int} (ho : r ≤ o ∧ o < r + 17) (q : h' = hu h o i v) : PV r h h' := fun o' j m1 m2 m3 => by rw [hu_row q (fun x => m1 (by omega))]
theorem x_setOne {i c lo hi : Int} (hi' : (i = 0 ∧ lo = 1 ∧ hi = 99) ∨ (i = 1 ∧ lo = 1 ∧ hi = 99) ∨ (i = 2 ∧ lo = 0 ∧ hi = 50)) (hc : c = 13 + i) (hr : r = 6 ∨ r = 23) (hr2 : h 60 2 = r) (A : CRv h g r) (X : XS t L h p)
    (k1 : ∀ p' g', bSet t L g i lo hi p (.inr (p', g')) → g' 68 44 = g 68 44 → p < p' → ∀ h1, XS t L h1 p' → CRv h1 g' r → PV r h h1 → K 1 h1)
    (k0 : ∀ f, bSet t L g i lo hi p (.inl f) → ∀ h1, XB t L h1 f.1 f.2 → PV r h h1 → K 0 h1) : (Ob 7 (h 60 2)) ∧ (C_X10_number w lo hi h (fun r46 h47 => ∀ h49 : Hp, h49 = hu h47 (h 60 2) c r46 → L_X8_statement_419 w h49 K)) := by
  rw [hr2]
  have n1 := sk_ge t L p
  refine ⟨ob7 hr, x_number X ⟨by omega, by omega⟩ ⟨by omega, by omega⟩ (fun v n nv h2 F2 X2 h3 q3 => ?_) (fun kd pl nf h2 F2 B2 h3 q3 => ?_)⟩
  · have v0 := nv.2.2.2.2.2.2.2
    have m1 := nv.2.1
    rw [hc] at q3
    have X3 : XS t L h3 (sk t L p + n) := X2.row (kd := 0) (hu_row q3 (by omega)) (hu_row q3 (by omega))
    refine l_X8_statement_419 ?_
    rw [X3.2.2.2]
    refine ⟨⟨by decide, by decide⟩, fun c => absurd rfl c, fun _ => k1 _ (hu g 97 i v) (Or.inr ⟨_, v, ⟨n, nv, rfl⟩, rfl⟩) (by rw [hu_row rfl (by decide)]) (by omega) h3 X3 ((A.tx hr F2).set ?_ q3) ((PV.tx F2).tr (PV.row (by omega) q3))⟩
    omega
  · have B3 : XB t L h3 kd pl := B2.pf (hu_row q3 (by omega)) (hu_row q3 (by omega))
    have b := B3.2.2.2
    refine l_X8_statement_419 ?_
    rw [B3.2.1]
    exact ⟨⟨by omega, by omega⟩, fun _ => k0 (kd, pl) (Or.inl ⟨(kd, pl), nf, rfl⟩) h3 B3 ((PV.tx F2).tr (PV.row (by omega) q3)), fun c => absurd (by omega) c⟩
theorem x_addSum {a c : Int} {Z : Hp → Prop} (hZ : ∀ h1, K 0 h1 → Z h1) (ha : (a = 0 ∧ c = 13) ∨ (a = 1 ∧ c = 15)) (hr : r = 6 ∨ r = 23) (hr2 : h 60 2 = r) (A : CRv h g r) (X : XS t L h p) (e3 : h 1 3 = q) (hc : g 68 44 ≤ p)
    (k1 : ∀ p' g', bSum t L g a q p (.inr (p', g')) → g' 68 44 ≤ p' → p < p' → ∀ h1, XS t L h1 p' → CRv h1 g' r → PV r h h1 → K 1 h1)
    (k0 : ∀ f, bSum t L g a q p (.inl f) → ∀ h1, XB t L h1 f.1 f.2 → PV r h h1 → K 0 h1) :
    (Ob 7 (h 60 2)) ∧ ((inR (h ((h 60 2) + c) 1)) ∧ ((((h ((h 60 2) + c) 1) ≤ 0) → (C_X8_isRoom w 1 h (fun r76 h77 => (r76 = 0 ∨ r76 = 1) → ((r76 = 0) → (Z h77)) ∧ (¬ (r76 = 0) → ((Ob 7 (h77 60 2)) ∧ (C_X2_sumInto w ((h77 60 2) + c) h77 (fun r80 h81 => (r80 = 0 ∨ r80 = 1) → ((r80 = 0) → (Z h81)) ∧ (¬ (r80 = 0) → (K 1 h81))))))))) ∧ (¬ ((h ((h 60 2) + c) 1) ≤ 0) → (C_X8_isRoom w 0 h (fun r76 h77 => (r76 = 0 ∨ r76 = 1) → ((r76 = 0) → (Z h77)) ∧ (¬ (r76 = 0) → ((Ob 7 (h77 60 2)) ∧ (C_X2_sumInto w ((h77 60 2) + c) h77 (fun r80 h81 => (r80 = 0 ∨ r80 = 1) → ((r80 = 0) → (Z h81)) ∧ (¬ (r80 = 0) → (K 1 h81))))))))))) := by
  rw [hr2]
  have F : FS h g (r + c) a := by
    obtain ⟨-, -, -, -, -, -, -, -, -, -, f0, f1, -⟩ := A
    rcases ha with ⟨rfl, rfl⟩ | ⟨rfl, rfl⟩
    · exact f0
    · exact f1
  refine ⟨ob7 hr, ?_⟩
  rcases F with ⟨z, m⟩ | ⟨n, n0, n1, n2, -, -, n3, -⟩
  · rw [z]
    refine ⟨⟨by decide, by decide⟩, fun _ => c_X8_isRoom (Or.inr rfl) ⟨fun _ _ => ⟨fun c => absurd c (by decide), fun _ => ?_⟩, fun c => absurd (by decide) c⟩, fun c => absurd (Int.le_refl _) c⟩
    rw [hr2]
    refine ⟨ob7 hr, x_sumInto (a := a) hr (by omega) A X hc (fun p' s G l1 l2 h1 X1 A1 P1 _ => ⟨fun c => absurd c (by decide), fun _ => k1 p' (gSum g a s) (Or.inr ⟨m, _, G, rfl⟩) (by rw [gS_44]; exact l2) l1 h1 X1 A1 P1⟩) (fun f G h1 B1 P1 _ => ⟨fun _ => hZ _ (k0 f (Or.inr ⟨m, _, G, rfl⟩) h1 B1 P1), fun c => absurd rfl c⟩)⟩
  · rw [n2]
    exact ⟨⟨by omega, by omega⟩, fun c => absurd c (by omega), fun _ => x_noRoom X e3 (fun h1 F1 B1 _ => ⟨fun _ => hZ _ (k0 (5, (q : Int)) (Or.inl ⟨by omega, rfl⟩) h1 B1 (PV.tx F1)), fun c => absurd rfl c⟩)⟩
end L3W
