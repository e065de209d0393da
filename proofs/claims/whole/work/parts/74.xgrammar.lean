/-! the class puts what the grammar tells -/
section L3E
variable {w : Wd} {h h0 : Hp} {K : Int → Hp → Prop} {t : Int → Int} {L p o : Nat} {f as : Int} {l : List Int}
theorem x_wd {a : Int} (ha : St a) (hn : 0 < slen a ∧ slen a ≤ 100) (X : XS t L h p) (k1 : wI t L (sk t L p) a → ∀ h1, Fr h h1 txL [] → XS t L h1 (sk t L p + (slen a).toNat) → h1 1 3 = sk t L p → K 1 h1) (k0 : ¬ wI t L (sk t L p) a → ∀ h1, Fr h h1 txL [] → XS t L h1 (sk t L p) → K 0 h1) : C_X10_word w a h K :=
  x_word ha (show slen a = ((slen a).toNat : Nat) by omega) (by omega) X (fun i _ => by have := sch_b a i; omega) k1 k0
/-- min and max: what stands in their brackets -/
theorem x_pair {E : Nat} (hE : 4 * (6 - o) + 14 ≤ E) (ho : o ≤ 6) (hS : o < 6 → SpX t L as w C_X2_sum 3 (o + 1) (4 * (6 - o) + 13)) (hf : fOK f) (X : XG t L h f o as l p) (hl : l.length ≤ p) {p0 : Nat} {x : Int × Int} (hx : x ∈ prW) (wx : wI t L (sk t L p0) x.1) (hp : p = sk t L p0 + 3)
    (k1 : ∀ p' s h', Gr t L as 0 o p0 (.inr (p', s ++ [x.2])) → XG t L h' f o as (l ++ s) p' → s.length + p + 2 ≤ p' → PF f h h' → K 1 h') (k0 : ∀ kd pl h', Gr t L as 0 o p0 (.inl (kd, pl)) → XB t L h' kd pl → PF f h h' → K 0 h') : C_X2_pair w E h K := by
  obtain ⟨e, rfl⟩ : ∃ e, E = e + 1 := ⟨E - 1, by omega⟩
  have G := (Gr.all t L as).2.2.1
  subst hp
  have n := sk_ge t L (sk t L p0 + 3)
  refine c_X2_pair (by omega) (x_needSign X.1 ⟨by decide, by decide⟩ (fun b lt h1 F1 X1 e3 _ => ⟨fun c => absurd c (by decide), fun _ => ?_⟩) (fun b h1 F1 B1 _ => ⟨fun _ => k0 1 _ h1 (G.1 o p0 x hx wx b) B1 (PF.tx F1), fun c => absurd rfl c⟩))
  refine x_goIn hf (X.tx hf F1 X1) e3 ho (fun lo h2 X2 P2 _ => ⟨fun c => absurd c (by decide), fun _ => ?_⟩) (fun lo h2 B2 P2 _ => ⟨fun _ => k0 4 _ h2 (G.2.1 o p0 x hx wx b lo) B2 ((PF.tx F1).tr P2), fun c => absurd rfl c⟩)
  refine hS lo e h2 _ f l _ (by omega) hf X2 (by omega) (fun p2 s1 h3 g3 X3 a3 b3 P3 _ => ⟨fun c => absurd c (by decide), fun _ => ?_⟩) (fun kd pl h3 g3 B3 P3 _ => ⟨fun _ => k0 kd pl h3 (G.2.2.1 o p0 x (kd, pl) hx wx b lo g3) B3 (((PF.tx F1).tr P2).tr P3), fun c => absurd rfl c⟩)
  have Q3 := ((PF.tx F1).tr P2).tr P3
  have n2 := sk_ge t L p2
  refine x_needSign X3.1 ⟨by decide, by decide⟩ (fun b4 lt4 h4 F4 X4 e4 _ => ⟨fun c => absurd c (by decide), fun _ => ?_⟩) (fun b4 h4 F4 B4 _ => ⟨fun _ => k0 1 _ h4 (G.2.2.2.1 o p0 x p2 s1 hx wx b lo g3 b4) B4 (Q3.tr (PF.tx F4)), fun c => absurd rfl c⟩)
  have Q4 := Q3.tr (PF.tx F4)
  refine hS lo e h4 _ f _ _ (by omega) hf (X3.tx hf F4 X4) (by rw [List.length_append]; omega) (fun p3 s2 h5 g5 X5 a5 b5 P5 _ => ⟨fun c => absurd c (by decide), fun _ => ?_⟩) (fun kd pl h5 g5 B5 P5 _ => ⟨fun _ => k0 kd pl h5 (G.2.2.2.2.1 o p0 x p2 s1 (kd, pl) hx wx b lo g3 b4 g5) B5 (Q4.tr P5), fun c => absurd rfl c⟩)
  have n3 := sk_ge t L p3
  refine x_needSign X5.1 ⟨by decide, by decide⟩ (fun b6 lt6 h6 F6 X6 e6 _ => ⟨fun c => absurd c (by decide), fun _ => ?_⟩) (fun b6 h6 F6 B6 _ => ⟨fun _ => k0 1 _ h6 (G.2.2.2.2.2.1 o p0 x p2 s1 p3 s2 hx wx b lo g3 b4 g5 b6) B6 ((Q4.tr P5).tr (PF.tx F6)), fun c => absurd rfl c⟩)
  refine x_goOut hf (X5.tx hf F6 X6) (fun h7 X7 P7 _ => ⟨fun c => absurd c (by decide), fun _ => k1 _ (s1 ++ s2) h7 (G.2.2.2.2.2.2 o p0 x p2 s1 p3 s2 hx wx b lo g3 b4 g5 b6) (by rw [← List.append_assoc]; exact X7) (by rw [List.length_append]; omega) ((Q4.tr P5).tr ((PF.tx F6).tr P7))⟩)
/-- lies, holds: of one operand -/
theorem x_ofOne {e : Nat} (hE : 4 * (6 - o) + 11 ≤ e) (ho : o ≤ 6) (hP : o < 6 → SpX t L as w C_X2_part 0 (o + 1) (4 * (6 - o) + 11)) (hf : fOK f) (X : XG t L h f o as l p) {p0 : Nat} (hl : l.length ≤ p0) {x : Int × Int} (hx : x ∈ ofW as) (wx : wI t L (sk t L p0) x.1) (hp : p = sk t L p0 + (slen x.1).toNat) (hn : 0 < slen x.1) (e3 : h 1 3 = sk t L p0)
    (k1 : ∀ p' s h', Gr t L as 0 o p0 (.inr (p', s)) → XG t L h' f o as (l ++ s) p' → s.length + p0 ≤ p' → p0 < p' → PF f h h' → K 1 h') (k0 : ∀ kd pl h', Gr t L as 0 o p0 (.inl (kd, pl)) → XB t L h' kd pl → PF f h h' → K 0 h') : C_X2_goIn w h (fun r16 h17 => (r16 = 0 ∨ r16 = 1) → ((r16 = 0) → (K 0 h17)) ∧ (¬ (r16 = 0) → (C_X2_part w e h17 (fun r19 h20 => (r19 = 0 ∨ r19 = 1) → ((r19 = 0) → (K 0 h20)) ∧ (¬ (r19 = 0) → (C_X2_goOut w h20 (fun r22 h23 => (r22 = 0 ∨ r22 = 1) → ((r22 = 0) → (K 0 h23)) ∧ (¬ (r22 = 0) → (C_X2_put w x.2 h23 (fun r25 h26 => (r25 = 0 ∨ r25 = 1) → ((r25 = 0) → (K 0 h26)) ∧ (¬ (r25 = 0) → (K 1 h26)))))))))))) := by
  have G := (Gr.all t L as).2.2.2.1
  subst hp
  have n := sk_ge t L p0
  refine x_goIn hf X e3 ho (fun lo h2 X2 P2 _ => ⟨fun c => absurd c (by decide), fun _ => ?_⟩) (fun lo h2 B2 P2 _ => ⟨fun _ => k0 4 _ h2 (G.2.1 o p0 x hx wx lo) B2 P2, fun c => absurd rfl c⟩)
  refine hP lo e h2 _ f l _ hE hf X2 (by omega) (fun p2 s1 h3 g3 X3 a3 b3 P3 _ => ⟨fun c => absurd c (by decide), fun _ => ?_⟩) (fun kd pl h3 g3 B3 P3 _ => ⟨fun _ => k0 kd pl h3 (G.2.2.1 o p0 x (kd, pl) hx wx lo g3) B3 (P2.tr P3), fun c => absurd rfl c⟩)
  refine x_goOut hf X3 (fun h4 X4 P4 _ => ⟨fun c => absurd c (by decide), fun _ => ?_⟩)
  have b1 := X3.1.2.2.1
  have b2 := X3.1.1.2.1
  refine x_put hf X4 (by rw [List.length_append]; omega) x.2 (fun h5 X5 P5 _ => ⟨fun c => absurd c (by decide), fun _ => k1 p2 (s1 ++ [x.2]) h5 (G.2.2.2.1 o p0 x p2 s1 hx wx lo g3) (by rw [← List.append_assoc]; exact X5) (by rw [List.length_append, List.length_singleton]; omega) (by omega) ((P2.tr P3).tr (P4.tr P5))⟩)
theorem x_riverLeaf {q : Nat} (X : XS t L h q) (sq : sk t L q = q)
    (k1 : ∀ a v : Int, (a, v) ∈ [((1017 : Int), (-21 : Int)), (1009, -22), (1018, -23), (1019, -24), (1020, -25), (1021, -26)] → wI t L q a → 0 < slen a → ∀ h1, Fr h h1 txL [] → XS t L h1 (q + (slen a).toNat) → C_X2_put w v h1 (fun z h2 => (z = 0 ∨ z = 1) → K z h2))
    (k0 : (∀ x ∈ [((1017 : Int), (-21 : Int)), (1009, -22), (1018, -23), (1019, -24), (1020, -25), (1021, -26)], ¬ wI t L q x.1) → ∀ h1, Fr h h1 txL [] → XB t L h1 1 q → (0 = 0 ∨ 0 = 1) → K 0 h1) : C_X2_riverPart w h K := by
  refine c_X2_riverPart ?_
  refine x_wd st_17 (by decide +kernel) X (fun w1 h1 G1 X1 e1 _ => ⟨fun c => absurd c (by decide), fun _ => ?_⟩) (fun w1 h1 G1 X1 _ => ⟨fun _ => ?_, fun c => absurd rfl c⟩)
  · rw [sq] at w1 X1
    exact (k1 1017 (-21) (by simp) w1 (by decide +kernel) h1 G1 X1)
  rw [sq] at w1 X1
  have F1 : Fr h h1 txL [] := G1
  refine x_wd st_9 (by decide +kernel) X1 (fun w2 h2 G2 X2 e2 _ => ⟨fun c => absurd c (by decide), fun _ => ?_⟩) (fun w2 h2 G2 X2 _ => ⟨fun _ => ?_, fun c => absurd rfl c⟩)
  · rw [sq] at w2 X2
    exact (k1 1009 (-22) (by simp) w2 (by decide +kernel) h2 ((F1.trans G2).into (by decide)) X2)
  rw [sq] at w2 X2
  have F2 : Fr h h2 txL [] := ((F1.trans G2).into (by decide))
  refine x_wd st_18 (by decide +kernel) X2 (fun w3 h3 G3 X3 e3 _ => ⟨fun c => absurd c (by decide), fun _ => ?_⟩) (fun w3 h3 G3 X3 _ => ⟨fun _ => ?_, fun c => absurd rfl c⟩)
  · rw [sq] at w3 X3
    exact (k1 1018 (-23) (by simp) w3 (by decide +kernel) h3 ((F2.trans G3).into (by decide)) X3)
  rw [sq] at w3 X3
  have F3 : Fr h h3 txL [] := ((F2.trans G3).into (by decide))
  refine x_wd st_19 (by decide +kernel) X3 (fun w4 h4 G4 X4 e4 _ => ⟨fun c => absurd c (by decide), fun _ => ?_⟩) (fun w4 h4 G4 X4 _ => ⟨fun _ => ?_, fun c => absurd rfl c⟩)
  · rw [sq] at w4 X4
    exact (k1 1019 (-24) (by simp) w4 (by decide +kernel) h4 ((F3.trans G4).into (by decide)) X4)
  rw [sq] at w4 X4
  have F4 : Fr h h4 txL [] := ((F3.trans G4).into (by decide))
  refine x_wd st_20 (by decide +kernel) X4 (fun w5 h5 G5 X5 e5 _ => ⟨fun c => absurd c (by decide), fun _ => ?_⟩) (fun w5 h5 G5 X5 _ => ⟨fun _ => ?_, fun c => absurd rfl c⟩)
  · rw [sq] at w5 X5
    exact (k1 1020 (-25) (by simp) w5 (by decide +kernel) h5 ((F4.trans G5).into (by decide)) X5)
  rw [sq] at w5 X5
  have F5 : Fr h h5 txL [] := ((F4.trans G5).into (by decide))
  refine x_wd st_21 (by decide +kernel) X5 (fun w6 h6 G6 X6 e6 _ => ⟨fun c => absurd c (by decide), fun _ => ?_⟩) (fun w6 h6 G6 X6 _ => ⟨fun _ => ?_, fun c => absurd rfl c⟩)
  · rw [sq] at w6 X6
    exact (k1 1021 (-26) (by simp) w6 (by decide +kernel) h6 ((F5.trans G6).into (by decide)) X6)
  rw [sq] at w6 X6
  have F6 : Fr h h6 txL [] := ((F5.trans G6).into (by decide))
  refine x_failHere X6.1 X6.2.2.2 X6.2.1 (fun h7 F7 B7 _ => k0 (fun x hx => ?_) h7 ((F6.trans F7).into (by decide)) B7 (Or.inl rfl))
  simp only [List.mem_cons, List.not_mem_nil, or_false] at hx
  rcases hx with rfl | rfl | rfl | rfl | rfl | rfl <;> assumption
theorem x_part (ho : o ≤ 6) (has : inR as) (hS : o < 6 → SpX t L as w C_X2_sum 3 (o + 1) (4 * (6 - o) + 13)) (hP : o < 6 → SpX t L as w C_X2_part 0 (o + 1) (4 * (6 - o) + 11)) : SpX t L as w C_X2_part 0 o (4 * (6 - o) + 15) := by
  intro E h K f l p hE hf X hl k1 k0
  obtain ⟨e, rfl⟩ : ∃ e, E = e + 1 := ⟨E - 1, by omega⟩
  have G := Gr.all t L as
  have n := sk_ge t L p
  have sks := sk_sk t L p
  have L2 := X.1.1.2.1
  have nfail : ∀ {kd pl : Int} {h1 : Hp}, Gr t L as 0 o p (.inl (kd, pl)) → Fr h h1 txL [] → XB t L h1 kd pl → K 0 h1 := fun g F B => k0 _ _ _ g B (PF.tx F)
  have leaf : ∀ a v : Int, (a, v) ∈ lfW as → wI t L (sk t L p) a → 0 < slen a → ∀ h1, Fr h h1 txL [] → XS t L h1 (sk t L p + (slen a).toNat) → C_X2_put w v h1 (fun z h2 => (z = 0 ∨ z = 1) → K z h2) := fun a v ha wa sa h1 F1 X1 =>
    have le := X1.2.2.1
    x_put hf (X.tx hf F1 X1) (by omega) v (fun h2 X2 P2 _ => k1 (sk t L p + (slen a).toNat) [v] h2 (G.2.2.2.1.1 o p (a, v) ha wa) X2 (by rw [List.length_singleton]; omega) (by omega) ((PF.tx F1).tr P2))
  have leaf2 : ∀ a v : Int, (a, v) ∈ lfW as → wI t L (sk t L p) a → 0 < slen a → ∀ h1, Fr h h1 txL [] → XS t L h1 (sk t L p + (slen a).toNat) → C_X2_put w v h1 (fun z h2 => (z = 0 ∨ z = 1) → (z = 0 ∨ z = 1) → K z h2) := fun a v ha wa sa h1 F1 X1 =>
    have le := X1.2.2.1
    x_put hf (X.tx hf F1 X1) (by omega) v (fun h2 X2 P2 _ _ => k1 (sk t L p + (slen a).toNat) [v] h2 (G.2.2.2.1.1 o p (a, v) ha wa) X2 (by rw [List.length_singleton]; omega) (by omega) ((PF.tx F1).tr P2))
  refine c_X2_part (by omega) (x_isDigitNext X.1 (fun dg h1 F1 X1 _ => ⟨fun c => absurd c (by decide), fun _ => ?_⟩) (fun dg h1 F1 X1 _ => ⟨fun _ => ?_, fun c => absurd rfl c⟩))
  · refine x_number X1 ⟨by decide, by decide⟩ ⟨by decide, by decide⟩ (fun v m nv h2 F2 X2 => ?_) (fun kd pl nf h2 F2 B2 => ?_)
    · rw [sks] at nv X2
      have le := X2.2.2.1
      have m1 := nv.2.1
      exact x_put hf (X.tx hf ((F1.trans F2).into (by decide)) X2) (by omega) v (fun h3 X3 P3 _ => k1 _ [v] h3 (G.1.1 o p v m dg nv) X3 (by rw [List.length_singleton]; omega) (by omega) ((PF.tx ((F1.trans F2).into (by decide))).tr P3))
    · rw [sks] at nf
      exact x_putBad B2 _ (fun _ => nfail (G.1.2 o p kd pl dg nf) ((F1.trans F2).into (by decide)) B2)
  refine x_sign X1 ⟨by decide, by decide⟩ (fun b lt h2 F2' X2 e3 _ => ⟨fun c => absurd c (by decide), fun _ => ?_⟩) (fun nb h2 F2' X2 _ => ⟨fun _ => ?_, fun c => absurd rfl c⟩)
  · rw [sks] at b X2 e3
    have F2 : Fr h h2 txL [] := (F1.trans F2').into (by decide)
    refine x_goIn hf (X.tx hf F2 X2) e3 ho (fun lo h3 X3 P3 _ => ⟨fun c => absurd c (by decide), fun _ => ?_⟩) (fun lo h3 B3 P3 _ => ⟨fun _ => k0 4 _ h3 (G.2.1.1 o p b lo) B3 ((PF.tx F2).tr P3), fun c => absurd rfl c⟩)
    refine hS lo e h3 _ f l _ (by omega) hf X3 (by omega) (fun p2 s1 h4 g4 X4 a4 b4 P4 _ => ⟨fun c => absurd c (by decide), fun _ => ?_⟩) (fun kd pl h4 g4 B4 P4 _ => ⟨fun _ => k0 kd pl h4 (G.2.1.2.1 o p (kd, pl) b lo g4) B4 (((PF.tx F2).tr P3).tr P4), fun c => absurd rfl c⟩)
    have Q4 := ((PF.tx F2).tr P3).tr P4
    have n2 := sk_ge t L p2
    refine x_needSign X4.1 ⟨by decide, by decide⟩ (fun b5 lt5 h5 F5 X5 e5 _ => ⟨fun c => absurd c (by decide), fun _ => ?_⟩) (fun b5 h5 F5 B5 _ => ⟨fun _ => k0 1 _ h5 (G.2.1.2.2.1 o p p2 s1 b lo g4 b5) B5 (Q4.tr (PF.tx F5)), fun c => absurd rfl c⟩)
    exact x_goOut hf (X4.tx hf F5 X5) (fun h6 X6 P6 _ => ⟨fun c => absurd c (by decide), fun _ => k1 _ s1 h6 (G.2.1.2.2.2 o p p2 s1 b lo g4 b5) X6 (by omega) (by omega) (Q4.tr ((PF.tx F5).tr P6))⟩)
  rw [sks] at nb X2
  have F2 : Fr h h2 txL [] := (F1.trans F2').into (by decide)
  refine x_wd st_11 (by decide +kernel) X2 (fun w3 h3 F3' X3 e3 _ => ⟨fun c => absurd c (by decide), fun _ => ?_⟩) (fun w3 h3 F3' X3 _ => ⟨fun _ => ?_, fun c => absurd rfl c⟩)
  · rw [sks] at w3 X3
    have F3 : Fr h h3 txL [] := (F2.trans F3').into (by decide)
    have l3 : (slen 1011).toNat = 3 := by decide +kernel
    rw [l3] at X3
    refine x_pair (E := e) (by omega) ho hS hf (X.tx hf F3 X3) (by omega) (p0 := p) (x := (1011, -5)) (List.mem_cons_self ..) w3 rfl (fun p' s h4 g4 X4 a4 P4 _ => ⟨fun c => absurd c (by decide), fun _ => ?_⟩) (fun kd pl h4 g4 B4 P4 _ => ⟨fun _ => k0 kd pl h4 g4 B4 ((PF.tx F3).tr P4), fun c => absurd rfl c⟩)
    have le := X4.1.2.2.1
    exact x_put hf X4 (by rw [List.length_append]; omega) _ (fun h5 X5 P5 _ => ⟨fun c => absurd c (by decide), fun _ => k1 p' (s ++ [-5]) h5 g4 (by rw [← List.append_assoc]; exact X5) (by rw [List.length_append, List.length_singleton]; omega) (by omega) (((PF.tx F3).tr P4).tr P5)⟩)
  rw [sks] at w3 X3
  have F3 : Fr h h3 txL [] := (F2.trans F3').into (by decide)
  refine x_wd st_12 (by decide +kernel) X3 (fun w4 h4 F4' X4 e4 _ => ⟨fun c => absurd c (by decide), fun _ => ?_⟩) (fun w4 h4 F4' X4 _ => ⟨fun _ => ?_, fun c => absurd rfl c⟩)
  · rw [sks] at w4 X4
    have F4 : Fr h h4 txL [] := (F3.trans F4').into (by decide)
    have l3 : (slen 1012).toNat = 3 := by decide +kernel
    rw [l3] at X4
    refine x_pair (E := e) (by omega) ho hS hf (X.tx hf F4 X4) (by omega) (p0 := p) (x := (1012, -6)) (List.mem_cons_of_mem _ (List.mem_cons_self ..)) w4 rfl (fun p' s h5 g5 X5 a5 P5 _ => ⟨fun c => absurd c (by decide), fun _ => ?_⟩) (fun kd pl h5 g5 B5 P5 _ => ⟨fun _ => k0 kd pl h5 g5 B5 ((PF.tx F4).tr P5), fun c => absurd rfl c⟩)
    have le := X5.1.2.2.1
    exact x_put hf X5 (by rw [List.length_append]; omega) _ (fun h6 X6 P6 _ => ⟨fun c => absurd c (by decide), fun _ => k1 p' (s ++ [-6]) h6 g5 (by rw [← List.append_assoc]; exact X6) (by rw [List.length_append, List.length_singleton]; omega) (by omega) (((PF.tx F4).tr P5).tr P6)⟩)
  rw [sks] at w4 X4
  have F4 : Fr h h4 txL [] := (F3.trans F4').into (by decide)
  refine x_wd st_13 (by decide +kernel) X4 (fun w5 h5 F5' X5 e5 _ => ⟨fun c => absurd c (by decide), fun _ => ?_⟩) (fun w5 h5 F5' X5 _ => ⟨fun _ => ?_, fun c => absurd rfl c⟩)
  · rw [sks] at w5 X5
    exact leaf 1013 (-20) (by unfold lfW; split <;> exact List.mem_cons_self ..) w5 (by decide +kernel) h5 ((F4.trans F5').into (by decide)) X5
  rw [sks] at w5 X5
  have F5 : Fr h h5 txL [] := (F4.trans F5').into (by decide)
  have ea : h5 5 4 = as := by rw [F5 5 4 List.not_mem_nil (by decide)]; exact X.2.2.2.1
  have bad : (∀ x ∈ prW ++ lfW as ++ ofW as, ¬ wI t L (sk t L p) x.1) → Gr t L as 0 o p (.inl (1, (sk t L p : Nat))) := G.2.2.2.1.2.2.2.2 o p dg nb
  have np : ∀ x ∈ prW, ¬ wI t L (sk t L p) x.1 := fun x hx => by
    rcases List.mem_cons.mp hx with rfl | hx
    · exact w3
    · rw [List.mem_singleton.mp hx]; exact w4
  rw [ea]
  refine ⟨has, fun a0 => ?_, fun a1 => ?_⟩
  · subst a0
    exact x_riverLeaf X5 sks (fun a v ha wa sa h6 F6 X6 => leaf2 a v (List.mem_cons_of_mem _ ha) wa sa h6 ((F5.trans F6).into (by decide)) X6) (fun nw h6 F6 B6 _ _ => nfail (bad (fun x hx => by
      rcases List.mem_append.mp hx with hx | hx
      · rcases List.mem_append.mp hx with hx | hx
        · exact np x hx
        · rcases List.mem_cons.mp hx with rfl | hx
          · exact w5
          · exact nw x hx
      · exact absurd hx List.not_mem_nil)) ((F5.trans F6).into (by decide)) B6)
  · obtain ⟨e', rfl⟩ : ∃ e', e = e' + 1 := ⟨e - 1, by omega⟩
    have lfe : lfW as = [(1013, -20), (1014, -27), (1015, -28)] := if_neg a1
    have ofe : ofW as = [(1016, -13), (1008, -14)] := if_neg a1
    have go : ∀ a v : Int, (a, v) ∈ ofW as → wI t L (sk t L p) a → 0 < slen a → ∀ h1, Fr h h1 txL [] → XS t L h1 (sk t L p + (slen a).toNat) → h1 1 3 = sk t L p → C_X2_goIn w h1 (fun r16 h17 => (r16 = 0 ∨ r16 = 1) → ((r16 = 0) → (((0 : Int) = 0 ∨ (0 : Int) = 1) → K 0 h17)) ∧ (¬ (r16 = 0) → (C_X2_part w e' h17 (fun r19 h20 => (r19 = 0 ∨ r19 = 1) → ((r19 = 0) → (((0 : Int) = 0 ∨ (0 : Int) = 1) → K 0 h20)) ∧ (¬ (r19 = 0) → (C_X2_goOut w h20 (fun r22 h23 => (r22 = 0 ∨ r22 = 1) → ((r22 = 0) → (((0 : Int) = 0 ∨ (0 : Int) = 1) → K 0 h23)) ∧ (¬ (r22 = 0) → (C_X2_put w v h23 (fun r25 h26 => (r25 = 0 ∨ r25 = 1) → ((r25 = 0) → (((0 : Int) = 0 ∨ (0 : Int) = 1) → K 0 h26)) ∧ (¬ (r25 = 0) → (((1 : Int) = 0 ∨ (1 : Int) = 1) → K 1 h26)))))))))))) := fun a v ha wa sa h1 F1 X1 e3 =>
      x_ofOne (K := fun z h2 => (z = 0 ∨ z = 1) → K z h2) (e := e') (by omega) ho hP hf (X.tx hf F1 X1) (p0 := p) hl (x := (a, v)) ha wa rfl sa e3 (fun p' s h2 g2 X2 a2 b2 P2 _ => k1 p' s h2 g2 X2 a2 b2 ((PF.tx F1).tr P2)) (fun kd pl h2 g2 B2 P2 _ => k0 kd pl h2 g2 B2 ((PF.tx F1).tr P2))
    refine c_X2_askedPart (by omega) ?_
    refine x_wd st_14 (by decide +kernel) X5 (fun w6 h6 F6' X6 e6 _ => ⟨fun c => absurd c (by decide), fun _ => ?_⟩) (fun w6 h6 F6' X6 _ => ⟨fun _ => ?_, fun c => absurd rfl c⟩)
    · rw [sks] at w6 X6
      exact (leaf2 1014 (-27) (by rw [lfe]; simp) w6 (by decide +kernel) h6 ((F5.trans F6').into (by decide)) X6)
    rw [sks] at w6 X6
    have F6 : Fr h h6 txL [] := (F5.trans F6').into (by decide)
    refine x_wd st_15 (by decide +kernel) X6 (fun w7 h7 F7' X7 e7 _ => ⟨fun c => absurd c (by decide), fun _ => ?_⟩) (fun w7 h7 F7' X7 _ => ⟨fun _ => ?_, fun c => absurd rfl c⟩)
    · rw [sks] at w7 X7
      exact (leaf2 1015 (-28) (by rw [lfe]; simp) w7 (by decide +kernel) h7 ((F6.trans F7').into (by decide)) X7)
    rw [sks] at w7 X7
    have F7 : Fr h h7 txL [] := (F6.trans F7').into (by decide)
    refine x_wd st_16 (by decide +kernel) X7 (fun w8 h8 F8' X8 e8 _ => ⟨fun c => absurd c (by decide), fun _ => ?_⟩) (fun w8 h8 F8' X8 _ => ⟨fun _ => ?_, fun c => absurd rfl c⟩)
    · rw [sks] at w8 X8 e8
      exact go 1016 (-13) (by rw [ofe]; simp) w8 (by decide +kernel) h8 ((F7.trans F8').into (by decide)) X8 e8
    rw [sks] at w8 X8
    have F8 : Fr h h8 txL [] := (F7.trans F8').into (by decide)
    refine x_wd st_8 (by decide +kernel) X8 (fun w9 h9 F9' X9 e9 _ => ⟨fun c => absurd c (by decide), fun _ => ?_⟩) (fun w9 h9 F9' X9 _ => ⟨fun _ => ?_, fun c => absurd rfl c⟩)
    · rw [sks] at w9 X9 e9
      exact go 1008 (-14) (by rw [ofe]; simp) w9 (by decide +kernel) h9 ((F8.trans F9').into (by decide)) X9 e9
    rw [sks] at w9 X9
    have F9 : Fr h h9 txL [] := (F8.trans F9').into (by decide)
    refine x_failHere X9.1 X9.2.2.2 X9.2.1 (fun h10 F10 B10 _ _ => nfail (bad (fun x hx => ?_)) ((F9.trans F10).into (by decide)) B10)
    rcases List.mem_append.mp hx with hx | hx
    · rcases List.mem_append.mp hx with hx | hx
      · exact np x hx
      · rw [lfe] at hx
        simp only [List.mem_cons, List.not_mem_nil, or_false] at hx
        rcases hx with rfl | rfl | rfl
        · exact w5
        · exact w6
        · exact w7
    · rw [ofe] at hx
      simp only [List.mem_cons, List.not_mem_nil, or_false] at hx
      rcases hx with rfl | rfl
      · exact w8
      · exact w9
theorem x_tailE_product {N e : Nat} (hN : 12 ≤ N) (hNe : N ≤ e) (hf : fOK f) {i : Nat} (X : XG t L h f o as l p) (hi : 2 * i ≤ p) (pe : L ≤ p) (k1 : ∀ p' s h', Gr t L as 2 o p (.inr (p', s)) → XG t L h' f o as (l ++ s) p' → s.length + p ≤ p' → PF f h h' → K 1 h') : L_X2_product_7 w (e + 1) 1 i h K := by
  have G := (Gr.all t L as).2.2.2.2.1
  have le := X.1.2.2.1
  have le2 := X.1.1.2.1
  have n := sk_ge t L p
  have nl : byL t L (sk t L p) = -1 := if_neg (by omega)
  refine l_X2_product_7 (by omega) ⟨⟨by decide, by decide⟩, fun c => absurd c (by decide), fun _ => ⟨⟨by omega, by omega⟩, fun c => absurd c (by omega), fun _ => ?_⟩⟩
  refine x_sign X.1 ⟨by decide, by decide⟩ (fun b lt h1 F1 X1 _ _ => absurd b (by rw [nl]; decide)) (fun b h1 F1 X1 _ => ⟨fun _ => ?_, fun c => absurd rfl c⟩)
  refine x_sign X1 ⟨by decide, by decide⟩ (fun b2 lt h2 F2 X2 _ _ => absurd b2 (by rw [sk_sk, nl]; decide)) (fun b2 h2 F2 X2 _ => ⟨fun _ => ?_, fun c => absurd rfl c⟩)
  rw [sk_sk] at X2
  refine k1 (sk t L p) [] h2 (G.2.2.2.1 o p (fun x hx => ?_)) (by rw [List.append_nil]; exact X.tx hf ((F1.trans F2).into (by decide)) X2) (by simpa using n) (PF.tx ((F1.trans F2).into (by decide)))
  rw [nl]
  rcases List.mem_cons.mp hx with rfl | hx
  · decide
  · rw [List.mem_singleton.mp hx]; decide
theorem x_tail_product {N : Nat} (hP : SpX t L as w C_X2_part 0 o N) (hN : 12 ≤ N) {e : Nat} (hNe : N ≤ e) (hf : fOK f) : ∀ d : Nat, ∀ (h : Hp) (K : Int → Hp → Prop) (l : List Int) (p i : Nat), L - p ≤ d → XG t L h f o as l p → l.length ≤ p → 2 * i ≤ p →
    (∀ p' s h', Gr t L as 2 o p (.inr (p', s)) → XG t L h' f o as (l ++ s) p' → s.length + p ≤ p' → PF f h h' → K 1 h') → (∀ kd pl h', Gr t L as 2 o p (.inl (kd, pl)) → XB t L h' kd pl → PF f h h' → K 0 h') → L_X2_product_7 w (e + 1) 1 i h K := by
  have G := (Gr.all t L as).2.2.2.2.1
  intro d
  induction d with
  | zero =>
    intro h K l p i hd X hl hi k1 k0
    exact x_tailE_product hN hNe hf X hi (by have := X.1.2.2.1; omega) k1
  | succ d ih =>
    intro h K l p i hd X hl hi k1 k0
    have n := sk_ge t L p
    have le := X.1.2.2.1
    have le2 := X.1.1.2.1
    have stop : ∀ j : Int, inR j → ∀ h1, K 0 h1 → L_X2_product_7 w (e + 1) 0 j h1 K := fun j hj h1 k => l_X2_product_7 (by omega) ⟨⟨by decide, by decide⟩, fun _ => ⟨Or.inl rfl, k⟩, fun c => absurd rfl c⟩
    have one : ∀ x : Int × Int, x ∈ [((42 : Int), (-3 : Int)), (47, -4)] → byL t L (sk t L p) = x.1 → ∀ h1, Fr h h1 txL [] → XS t L h1 (sk t L p + 1) → C_X2_part w e h1 (fun r14 h15 => (r14 = 0 ∨ r14 = 1) → ((r14 = 0) → (L_X2_product_7 w (e + 1) 0 ((i : Int) + 1) h15 K)) ∧ (¬ (r14 = 0) → (C_X2_put w x.2 h15 (fun r17 h18 => (r17 = 0 ∨ r17 = 1) → ((r17 = 0) → (L_X2_product_7 w (e + 1) 0 ((i : Int) + 1) h18 K)) ∧ (¬ (r17 = 0) → (L_X2_product_7 w (e + 1) 1 ((i : Int) + 1) h18 K)))))) := by
      intro x hx b h1 F1 X1
      refine hP e h1 _ f l (sk t L p + 1) hNe hf (X.tx hf F1 X1) (by omega) (fun p1 s1 h2 g1 X2 a1 a2 P2 _ => ⟨fun c => absurd c (by decide), fun _ => ?_⟩) (fun kd pl h2 g1 B2 P2 _ => ⟨fun _ => stop _ ⟨by omega, by omega⟩ _ (k0 kd pl h2 (G.2.2.2.2.1 o p x (kd, pl) hx b g1) B2 ((PF.tx F1).tr P2)), fun c => absurd rfl c⟩)
      have b1 := X2.1.2.2.1
      refine x_put hf X2 (by rw [List.length_append]; omega) x.2 (fun h3 X3 P3 _ => ⟨fun c => absurd c (by decide), fun _ => ?_⟩)
      have r := ih h3 K _ p1 (i + 1) (by omega) X3 (by rw [List.length_append, List.length_append, List.length_singleton]; omega) (by omega) (fun p2 s2 h4 g2 X4 a4 P4 => k1 p2 (s1 ++ [x.2] ++ s2) h4 (G.2.2.2.2.2.2 o p x p1 s1 p2 s2 hx b g1 g2) (by rw [List.append_assoc, List.append_assoc] at X4; rw [List.append_assoc]; exact X4) (by rw [List.length_append, List.length_append, List.length_singleton]; omega) (((PF.tx F1).tr P2).tr (P3.tr P4))) (fun kd pl h4 g2 B4 P4 => k0 kd pl h4 (G.2.2.2.2.2.1 o p x p1 s1 (kd, pl) hx b g1 g2) B4 (((PF.tx F1).tr P2).tr (P3.tr P4)))
      exact r
    refine l_X2_product_7 (by omega) ⟨⟨by decide, by decide⟩, fun c => absurd c (by decide), fun _ => ⟨⟨by omega, by omega⟩, fun c => absurd c (by omega), fun _ => ?_⟩⟩
    refine x_sign X.1 ⟨by decide, by decide⟩ (fun b lt h1 F1 X1 _ _ => ⟨fun c => absurd c (by decide), fun _ => one (42, -3) (List.mem_cons_self ..) b h1 F1 X1⟩) (fun b h1 F1 X1 _ => ⟨fun _ => ?_, fun c => absurd rfl c⟩)
    refine x_sign X1 ⟨by decide, by decide⟩ (fun b2 lt h2 F2 X2 _ _ => ⟨fun c => absurd c (by decide), fun _ => ?_⟩) (fun b2 h2 F2 X2 _ => ⟨fun _ => ?_, fun c => absurd rfl c⟩)
    · rw [sk_sk] at b2 X2
      exact one (47, -4) (List.mem_cons_of_mem _ (List.mem_cons_self ..)) b2 h2 ((F1.trans F2).into (by decide)) X2
    · rw [sk_sk] at b2 X2
      refine k1 (sk t L p) [] h2 (G.2.2.2.1 o p (fun x hx => ?_)) (by rw [List.append_nil]; exact X.tx hf ((F1.trans F2).into (by decide)) X2) (by simpa using n) (PF.tx ((F1.trans F2).into (by decide)))
      rcases List.mem_cons.mp hx with rfl | hx
      · exact b
      · rw [List.mem_singleton.mp hx]; exact b2
theorem x_product {N : Nat} (hP : SpX t L as w C_X2_part 0 o N) (hN : 12 ≤ N) : SpX t L as w C_X2_product 1 o (N + 1) := by
  intro E h K f l p hE hf X hl k1 k0
  obtain ⟨e, rfl⟩ : ∃ e, E = e + 1 := ⟨E - 1, by omega⟩
  have G := (Gr.all t L as).2.2.2.2.1
  refine c_X2_product (by omega) (hP e h _ f l p (by omega) hf X hl (fun p1 s1 h1 g1 X1 a1 a2 P1 _ => ?_) (fun kd pl h1 g1 B1 P1 _ => ?_))
  · exact x_tail_product hP hN (by omega) hf _ h1 K _ p1 0 (Nat.le_refl _) X1 (by rw [List.length_append]; omega) (by omega) (fun p2 s2 h2 g2 X2 a3 P2 => k1 p2 (s1 ++ s2) h2 (G.2.2.1 o p p1 s1 p2 s2 g1 g2) (by rw [← List.append_assoc]; exact X2) (by rw [List.length_append]; omega) (by omega) (P1.tr P2)) (fun kd pl h2 g2 B2 P2 => k0 kd pl h2 (G.2.1 o p p1 s1 (kd, pl) g1 g2) B2 (P1.tr P2))
  · exact l_X2_product_7 (by omega) ⟨⟨by decide, by decide⟩, fun _ => ⟨Or.inl rfl, k0 kd pl h1 (G.1 o p (kd, pl) g1) B1 P1⟩, fun c => absurd rfl c⟩
theorem x_tailE_sum {N e : Nat} (hN : 12 ≤ N) (hNe : N ≤ e) (hf : fOK f) {i : Nat} (X : XG t L h f o as l p) (hi : 2 * i ≤ p) (pe : L ≤ p) (k1 : ∀ p' s h', Gr t L as 4 o p (.inr (p', s)) → XG t L h' f o as (l ++ s) p' → s.length + p ≤ p' → PF f h h' → K 1 h') : L_X2_sum_7 w (e + 1) 1 i h K := by
  have G := (Gr.all t L as).2.2.2.2.2
  have le := X.1.2.2.1
  have le2 := X.1.1.2.1
  have n := sk_ge t L p
  have nl : byL t L (sk t L p) = -1 := if_neg (by omega)
  refine l_X2_sum_7 (by omega) ⟨⟨by decide, by decide⟩, fun c => absurd c (by decide), fun _ => ⟨⟨by omega, by omega⟩, fun c => absurd c (by omega), fun _ => ?_⟩⟩
  refine x_sign X.1 ⟨by decide, by decide⟩ (fun b lt h1 F1 X1 _ _ => absurd b (by rw [nl]; decide)) (fun b h1 F1 X1 _ => ⟨fun _ => ?_, fun c => absurd rfl c⟩)
  refine x_sign X1 ⟨by decide, by decide⟩ (fun b2 lt h2 F2 X2 _ _ => absurd b2 (by rw [sk_sk, nl]; decide)) (fun b2 h2 F2 X2 _ => ⟨fun _ => ?_, fun c => absurd rfl c⟩)
  rw [sk_sk] at X2
  refine k1 (sk t L p) [] h2 (G.2.2.2.1 o p (fun x hx => ?_)) (by rw [List.append_nil]; exact X.tx hf ((F1.trans F2).into (by decide)) X2) (by simpa using n) (PF.tx ((F1.trans F2).into (by decide)))
  rw [nl]
  rcases List.mem_cons.mp hx with rfl | hx
  · decide
  · rw [List.mem_singleton.mp hx]; decide
theorem x_tail_sum {N : Nat} (hP : SpX t L as w C_X2_product 1 o N) (hN : 12 ≤ N) {e : Nat} (hNe : N ≤ e) (hf : fOK f) : ∀ d : Nat, ∀ (h : Hp) (K : Int → Hp → Prop) (l : List Int) (p i : Nat), L - p ≤ d → XG t L h f o as l p → l.length ≤ p → 2 * i ≤ p →
    (∀ p' s h', Gr t L as 4 o p (.inr (p', s)) → XG t L h' f o as (l ++ s) p' → s.length + p ≤ p' → PF f h h' → K 1 h') → (∀ kd pl h', Gr t L as 4 o p (.inl (kd, pl)) → XB t L h' kd pl → PF f h h' → K 0 h') → L_X2_sum_7 w (e + 1) 1 i h K := by
  have G := (Gr.all t L as).2.2.2.2.2
  intro d
  induction d with
  | zero =>
    intro h K l p i hd X hl hi k1 k0
    exact x_tailE_sum hN hNe hf X hi (by have := X.1.2.2.1; omega) k1
  | succ d ih =>
    intro h K l p i hd X hl hi k1 k0
    have n := sk_ge t L p
    have le := X.1.2.2.1
    have le2 := X.1.1.2.1
    have stop : ∀ j : Int, inR j → ∀ h1, K 0 h1 → L_X2_sum_7 w (e + 1) 0 j h1 K := fun j hj h1 k => l_X2_sum_7 (by omega) ⟨⟨by decide, by decide⟩, fun _ => ⟨Or.inl rfl, k⟩, fun c => absurd rfl c⟩
    have one : ∀ x : Int × Int, x ∈ [((43 : Int), (-1 : Int)), (45, -2)] → byL t L (sk t L p) = x.1 → ∀ h1, Fr h h1 txL [] → XS t L h1 (sk t L p + 1) → C_X2_product w e h1 (fun r14 h15 => (r14 = 0 ∨ r14 = 1) → ((r14 = 0) → (L_X2_sum_7 w (e + 1) 0 ((i : Int) + 1) h15 K)) ∧ (¬ (r14 = 0) → (C_X2_put w x.2 h15 (fun r17 h18 => (r17 = 0 ∨ r17 = 1) → ((r17 = 0) → (L_X2_sum_7 w (e + 1) 0 ((i : Int) + 1) h18 K)) ∧ (¬ (r17 = 0) → (L_X2_sum_7 w (e + 1) 1 ((i : Int) + 1) h18 K)))))) := by
      intro x hx b h1 F1 X1
      refine hP e h1 _ f l (sk t L p + 1) hNe hf (X.tx hf F1 X1) (by omega) (fun p1 s1 h2 g1 X2 a1 a2 P2 _ => ⟨fun c => absurd c (by decide), fun _ => ?_⟩) (fun kd pl h2 g1 B2 P2 _ => ⟨fun _ => stop _ ⟨by omega, by omega⟩ _ (k0 kd pl h2 (G.2.2.2.2.1 o p x (kd, pl) hx b g1) B2 ((PF.tx F1).tr P2)), fun c => absurd rfl c⟩)
      have b1 := X2.1.2.2.1
      refine x_put hf X2 (by rw [List.length_append]; omega) x.2 (fun h3 X3 P3 _ => ⟨fun c => absurd c (by decide), fun _ => ?_⟩)
      have r := ih h3 K _ p1 (i + 1) (by omega) X3 (by rw [List.length_append, List.length_append, List.length_singleton]; omega) (by omega) (fun p2 s2 h4 g2 X4 a4 P4 => k1 p2 (s1 ++ [x.2] ++ s2) h4 (G.2.2.2.2.2.2 o p x p1 s1 p2 s2 hx b g1 g2) (by rw [List.append_assoc, List.append_assoc] at X4; rw [List.append_assoc]; exact X4) (by rw [List.length_append, List.length_append, List.length_singleton]; omega) (((PF.tx F1).tr P2).tr (P3.tr P4))) (fun kd pl h4 g2 B4 P4 => k0 kd pl h4 (G.2.2.2.2.2.1 o p x p1 s1 (kd, pl) hx b g1 g2) B4 (((PF.tx F1).tr P2).tr (P3.tr P4)))
      exact r
    refine l_X2_sum_7 (by omega) ⟨⟨by decide, by decide⟩, fun c => absurd c (by decide), fun _ => ⟨⟨by omega, by omega⟩, fun c => absurd c (by omega), fun _ => ?_⟩⟩
    refine x_sign X.1 ⟨by decide, by decide⟩ (fun b lt h1 F1 X1 _ _ => ⟨fun c => absurd c (by decide), fun _ => one (43, -1) (List.mem_cons_self ..) b h1 F1 X1⟩) (fun b h1 F1 X1 _ => ⟨fun _ => ?_, fun c => absurd rfl c⟩)
    refine x_sign X1 ⟨by decide, by decide⟩ (fun b2 lt h2 F2 X2 _ _ => ⟨fun c => absurd c (by decide), fun _ => ?_⟩) (fun b2 h2 F2 X2 _ => ⟨fun _ => ?_, fun c => absurd rfl c⟩)
    · rw [sk_sk] at b2 X2
      exact one (45, -2) (List.mem_cons_of_mem _ (List.mem_cons_self ..)) b2 h2 ((F1.trans F2).into (by decide)) X2
    · rw [sk_sk] at b2 X2
      refine k1 (sk t L p) [] h2 (G.2.2.2.1 o p (fun x hx => ?_)) (by rw [List.append_nil]; exact X.tx hf ((F1.trans F2).into (by decide)) X2) (by simpa using n) (PF.tx ((F1.trans F2).into (by decide)))
      rcases List.mem_cons.mp hx with rfl | hx
      · exact b
      · rw [List.mem_singleton.mp hx]; exact b2
theorem x_sum {N : Nat} (hP : SpX t L as w C_X2_product 1 o N) (hN : 12 ≤ N) : SpX t L as w C_X2_sum 3 o (N + 1) := by
  intro E h K f l p hE hf X hl k1 k0
  obtain ⟨e, rfl⟩ : ∃ e, E = e + 1 := ⟨E - 1, by omega⟩
  have G := (Gr.all t L as).2.2.2.2.2
  refine c_X2_sum (by omega) (hP e h _ f l p (by omega) hf X hl (fun p1 s1 h1 g1 X1 a1 a2 P1 _ => ?_) (fun kd pl h1 g1 B1 P1 _ => ?_))
  · exact x_tail_sum hP hN (by omega) hf _ h1 K _ p1 0 (Nat.le_refl _) X1 (by rw [List.length_append]; omega) (by omega) (fun p2 s2 h2 g2 X2 a3 P2 => k1 p2 (s1 ++ s2) h2 (G.2.2.1 o p p1 s1 p2 s2 g1 g2) (by rw [← List.append_assoc]; exact X2) (by rw [List.length_append]; omega) (by omega) (P1.tr P2)) (fun kd pl h2 g2 B2 P2 => k0 kd pl h2 (G.2.1 o p p1 s1 (kd, pl) g1 g2) B2 (P1.tr P2))
  · exact l_X2_sum_7 (by omega) ⟨⟨by decide, by decide⟩, fun _ => ⟨Or.inl rfl, k0 kd pl h1 (G.1 o p (kd, pl) g1) B1 P1⟩, fun c => absurd rfl c⟩
theorem x_open (has : inR as) : ∀ d : Nat, ∀ o : Nat, o + d = 6 → SpX t L as w C_X2_part 0 o (4 * (6 - o) + 15) ∧ SpX t L as w C_X2_product 1 o (4 * (6 - o) + 16) ∧ SpX t L as w C_X2_sum 3 o (4 * (6 - o) + 17) := by
  intro d
  induction d with
  | zero =>
    intro o e
    have P := x_part (w := w) (t := t) (L := L) (o := o) (by omega) has (fun c => absurd c (by omega)) (fun c => absurd c (by omega))
    have Q := x_product P (by omega)
    exact ⟨P, Q, x_sum Q (by omega)⟩
  | succ d ih =>
    intro o e
    obtain ⟨A, -, B⟩ := ih (o + 1) (by omega)
    have P := x_part (w := w) (t := t) (L := L) (o := o) (by omega) has (fun _ => by rw [show 4 * (6 - o) + 13 = 4 * (6 - (o + 1)) + 17 by omega]; exact B) (fun _ => by rw [show 4 * (6 - o) + 11 = 4 * (6 - (o + 1)) + 15 by omega]; exact A)
    have Q := x_product P (by omega)
    exact ⟨P, Q, x_sum Q (by omega)⟩
/-- a sum of the class, from its outside -/
theorem x_sums (has : inR as) : SpX t L as w C_X2_sum 3 0 41 := (x_open has 6 0 rfl).2.2
end L3E
