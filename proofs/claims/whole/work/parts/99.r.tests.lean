/-! tests: their grammar, as the least relation; the class puts what it tells -/
abbrev RL : Type := PRes (List (Int × Int))
/-- the steps of a sum, with the codes that the reference has for them -/
def tk (s : List Int) : List (Int × Int) := s.map (fun x => (x, cdQ x))
abbrev cmW : List (Int × (Int × Int)) := [(60, (-7, 7)), (62, (-8, 8)), (61, (-9, 9))]
def NBt (t : Int → Int) (L p : Nat) : Prop := ¬ wI t L (sk t L p) 1032 ∧ byL t L (sk t L p) ≠ 91 ∧ ¬ wI t L (sk t L p) 1033
def TuF (t : Int → Int) (L : Nat) (R : Nat → Nat → Nat → RL → Prop) : Prop :=
  (∀ o p, wI t L (sk t L p) 1032 → 6 ≤ o → R 0 o p (.inl (4, (sk t L p : Int)))) ∧
  (∀ o p f, wI t L (sk t L p) 1032 → o < 6 → R 0 (o + 1) (sk t L p + 3) (.inl f) → R 0 o p (.inl f)) ∧
  (∀ o p p1 s, wI t L (sk t L p) 1032 → o < 6 → R 0 (o + 1) (sk t L p + 3) (.inr (p1, s)) → R 0 o p (.inr (p1, s ++ [(-12, 12)])))
def TuB (t : Int → Int) (L : Nat) (R : Nat → Nat → Nat → RL → Prop) : Prop :=
  (∀ o p, byL t L (sk t L p) = 91 → 6 ≤ o → R 0 o p (.inl (4, (sk t L p : Int)))) ∧
  (∀ o p f, byL t L (sk t L p) = 91 → o < 6 → R 3 (o + 1) (sk t L p + 1) (.inl f) → R 0 o p (.inl f)) ∧
  (∀ o p p1 s, byL t L (sk t L p) = 91 → o < 6 → R 3 (o + 1) (sk t L p + 1) (.inr (p1, s)) → byL t L (sk t L p1) ≠ 93 → R 0 o p (.inl (1, (sk t L p1 : Int)))) ∧
  (∀ o p p1 s, byL t L (sk t L p) = 91 → o < 6 → R 3 (o + 1) (sk t L p + 1) (.inr (p1, s)) → byL t L (sk t L p1) = 93 → R 0 o p (.inr (sk t L p1 + 1, s)))
def TuS (t : Int → Int) (L : Nat) (R : Nat → Nat → Nat → RL → Prop) : Prop :=
  (∀ o p, wI t L (sk t L p) 1033 → R 0 o p (.inr (sk t L p + 3, [(1, 13)]))) ∧
  (∀ o p f, NBt t L p → Gr t L 1 3 o (sk t L p) (.inl f) → R 0 o p (.inl f)) ∧
  (∀ o p p1 s1, NBt t L p → Gr t L 1 3 o (sk t L p) (.inr (p1, s1)) → (∀ x ∈ cmW, byL t L (sk t L p1) ≠ x.1) → R 0 o p (.inl (1, (sk t L p1 : Int)))) ∧
  (∀ o p p1 s1 x f, NBt t L p → Gr t L 1 3 o (sk t L p) (.inr (p1, s1)) → x ∈ cmW → byL t L (sk t L p1) = x.1 → Gr t L 1 3 o (sk t L p1 + 1) (.inl f) → R 0 o p (.inl f)) ∧
  (∀ o p p1 s1 x p2 s2, NBt t L p → Gr t L 1 3 o (sk t L p) (.inr (p1, s1)) → x ∈ cmW → byL t L (sk t L p1) = x.1 → Gr t L 1 3 o (sk t L p1 + 1) (.inr (p2, s2)) → R 0 o p (.inr (p2, tk s1 ++ (tk s2 ++ [x.2]))))
def TuJ (t : Int → Int) (L : Nat) (R : Nat → Nat → Nat → RL → Prop) (m1 m2 m3 : Nat) (wd : Int) (tok : Int × Int) : Prop :=
  (∀ o p f, R m1 o p (.inl f) → R m2 o p (.inl f)) ∧
  (∀ o p p1 s1 f, R m1 o p (.inr (p1, s1)) → R m3 o p1 (.inl f) → R m2 o p (.inl f)) ∧
  (∀ o p p1 s1 p2 s2, R m1 o p (.inr (p1, s1)) → R m3 o p1 (.inr (p2, s2)) → R m2 o p (.inr (p2, s1 ++ s2))) ∧
  (∀ o p, ¬ wI t L (sk t L p) wd → R m3 o p (.inr (sk t L p, []))) ∧
  (∀ o p f, wI t L (sk t L p) wd → R m1 o (sk t L p + (slen wd).toNat) (.inl f) → R m3 o p (.inl f)) ∧
  (∀ o p p1 s1 f, wI t L (sk t L p) wd → R m1 o (sk t L p + (slen wd).toNat) (.inr (p1, s1)) → R m3 o p1 (.inl f) → R m3 o p (.inl f)) ∧
  (∀ o p p1 s1 p2 s2, wI t L (sk t L p) wd → R m1 o (sk t L p + (slen wd).toNat) (.inr (p1, s1)) → R m3 o p1 (.inr (p2, s2)) → R m3 o p (.inr (p2, s1 ++ [tok] ++ s2)))
def Tul (t : Int → Int) (L : Nat) (R : Nat → Nat → Nat → RL → Prop) : Prop := TuF t L R ∧ TuB t L R ∧ TuS t L R ∧ TuJ t L R 0 1 2 1034 (-10, 10) ∧ TuJ t L R 1 3 4 1035 (-11, 11)
def Gt (t : Int → Int) (L m o p : Nat) (res : RL) : Prop := ∀ R : Nat → Nat → Nat → RL → Prop, Tul t L R → R m o p res
theorem Gt.all (t : Int → Int) (L : Nat) : Tul t L (Gt t L) := by
  refine ⟨⟨fun o p a b R T => T.1.1 o p a b, fun o p f a b H R T => T.1.2.1 o p f a b (H R T), fun o p p1 s a b H R T => T.1.2.2 o p p1 s a b (H R T)⟩,
    ⟨fun o p a b R T => T.2.1.1 o p a b, fun o p f a b H R T => T.2.1.2.1 o p f a b (H R T), fun o p p1 s a b H c R T => T.2.1.2.2.1 o p p1 s a b (H R T) c, fun o p p1 s a b H c R T => T.2.1.2.2.2 o p p1 s a b (H R T) c⟩,
    ⟨fun o p a R T => T.2.2.1.1 o p a, fun o p f a b R T => T.2.2.1.2.1 o p f a b, fun o p p1 s1 a b c R T => T.2.2.1.2.2.1 o p p1 s1 a b c, fun o p p1 s1 x f a b c d e R T => T.2.2.1.2.2.2.1 o p p1 s1 x f a b c d e, fun o p p1 s1 x p2 s2 a b c d e R T => T.2.2.1.2.2.2.2 o p p1 s1 x p2 s2 a b c d e⟩,
    ⟨fun o p f H R T => T.2.2.2.1.1 o p f (H R T), fun o p p1 s1 f H H2 R T => T.2.2.2.1.2.1 o p p1 s1 f (H R T) (H2 R T), fun o p p1 s1 p2 s2 H H2 R T => T.2.2.2.1.2.2.1 o p p1 s1 p2 s2 (H R T) (H2 R T), fun o p a R T => T.2.2.2.1.2.2.2.1 o p a, fun o p f a H R T => T.2.2.2.1.2.2.2.2.1 o p f a (H R T), fun o p p1 s1 f a H H2 R T => T.2.2.2.1.2.2.2.2.2.1 o p p1 s1 f a (H R T) (H2 R T), fun o p p1 s1 p2 s2 a H H2 R T => T.2.2.2.1.2.2.2.2.2.2 o p p1 s1 p2 s2 a (H R T) (H2 R T)⟩,
    ⟨fun o p f H R T => T.2.2.2.2.1 o p f (H R T), fun o p p1 s1 f H H2 R T => T.2.2.2.2.2.1 o p p1 s1 f (H R T) (H2 R T), fun o p p1 s1 p2 s2 H H2 R T => T.2.2.2.2.2.2.1 o p p1 s1 p2 s2 (H R T) (H2 R T), fun o p a R T => T.2.2.2.2.2.2.2.1 o p a, fun o p f a H R T => T.2.2.2.2.2.2.2.2.1 o p f a (H R T), fun o p p1 s1 f a H H2 R T => T.2.2.2.2.2.2.2.2.2.1 o p p1 s1 f a (H R T) (H2 R T), fun o p p1 s1 p2 s2 a H H2 R T => T.2.2.2.2.2.2.2.2.2.2 o p p1 s1 p2 s2 a (H R T) (H2 R T)⟩⟩
theorem tk_fst (s : List Int) : (tk s).map Prod.fst = s := by
  unfold tk; rw [List.map_map]; exact List.map_id' s
theorem tk_len (s : List Int) : (tk s).length = s.length := List.length_map ..
section L5F
variable {w : Wd} {h h0 : Hp} {K : Int → Hp → Prop} {t : Int → Int} {L p o : Nat} {f : Int} {l : List Int}
def SpT (t : Int → Int) (L : Nat) (w : Wd) (C : Wd → Nat → Hp → (Int → Hp → Prop) → Prop) (m o N : Nat) : Prop := ∀ (E : Nat) (h : Hp) (K : Int → Hp → Prop) (f : Int) (l : List Int) (p : Nat), N ≤ E → fOK f → XG t L h f o 1 l p → l.length ≤ p →
  (∀ p' s h', Gt t L m o p (.inr (p', s)) → XG t L h' f o 1 (l ++ s.map Prod.fst) p' → s.length + p ≤ p' → p < p' → PF f h h' → K 1 h') → (∀ kd pl h', Gt t L m o p (.inl (kd, pl)) → XB t L h' kd pl → PF f h h' → K 0 h') → C w E h K
theorem x_cmp {e p0 : Nat} {s1 : List Int} (he : 4 * (6 - o) + 17 ≤ e) (hS : SpX t L 1 w C_X2_sum 3 o (4 * (6 - o) + 17)) (hf : fOK f) (nb : NBt t L p0) (g1 : Gr t L 1 3 o (sk t L p0) (.inr (p, s1))) (X : XG t L h f o 1 l p) (hl : l.length ≤ p)
    (k1 : ∀ p' s h', Gt t L 0 o p0 (.inr (p', tk s1 ++ s)) → XG t L h' f o 1 (l ++ s.map Prod.fst) p' → s.length + p ≤ p' → p < p' → PF f h h' → K 1 h') (k0 : ∀ kd pl h', Gt t L 0 o p0 (.inl (kd, pl)) → XB t L h' kd pl → PF f h h' → K 0 h') : C_X2_comparison w (e + 1) h K := by
  have G := (Gt.all t L).2.2.1
  have n := sk_ge t L p
  have go : ∀ x : Int × (Int × Int), x ∈ cmW → byL t L (sk t L p) = x.1 → ∀ h1, Fr h h1 txL [] → XS t L h1 (sk t L p + 1) → C_X2_sum w e h1 (fun r13 h14 => (r13 = 0 ∨ r13 = 1) → ((r13 = 0) → (K 0 h14)) ∧ (¬ (r13 = 0) → (C_X2_put w x.2.1 h14 (fun r16 h17 => (r16 = 0 ∨ r16 = 1) → ((r16 = 0) → (K 0 h17)) ∧ (¬ (r16 = 0) → (K 1 h17)))))) := fun x hx b h1 F1 X1 => by
    refine hS e h1 _ f l (sk t L p + 1) he hf (X.tx hf F1 X1) (by omega) (fun p2 s2 h2 g2 X2 a2 b2 P2 _ => ⟨fun c => absurd c (by decide), fun _ => ?_⟩) (fun kd pl h2 g2 B2 P2 _ => ⟨fun _ => k0 kd pl h2 (G.2.2.2.1 o p0 p s1 x (kd, pl) nb g1 hx b g2) B2 ((PF.tx F1).tr P2), fun c => absurd rfl c⟩)
    have l2 := X2.1.2.2.1
    have l3 := X2.1.1.2.1
    refine x_put hf X2 (by rw [List.length_append]; omega) x.2.1 (fun h3 X3 P3 _ => ⟨fun c => absurd c (by decide), fun _ => ?_⟩)
    refine k1 p2 (tk s2 ++ [x.2]) h3 (G.2.2.2.2 o p0 p s1 x p2 s2 nb g1 hx b g2) ?_ (by rw [List.length_append, tk_len, List.length_singleton]; omega) (by omega) (((PF.tx F1).tr P2).tr P3)
    rw [List.map_append, tk_fst, ← List.append_assoc]
    exact X3
  obtain ⟨e', rfl⟩ : ∃ e', e = e' + 1 := ⟨e - 1, by omega⟩
  refine c_X2_comparison (by omega) (x_sign X.1 ⟨by decide, by decide⟩ (fun b lt h1 F1 X1 _ _ => ⟨fun c => absurd c (by decide), fun _ => go (60, (-7, 7)) (by decide) b h1 F1 X1⟩) (fun b1 h1 F1 X1 _ => ⟨fun _ => ?_, fun c => absurd rfl c⟩))
  refine x_sign X1 ⟨by decide, by decide⟩ (fun b lt h2 F2 X2 _ _ => ⟨fun c => absurd c (by decide), fun _ => ?_⟩) (fun b2 h2 F2 X2 _ => ⟨fun _ => ?_, fun c => absurd rfl c⟩)
  · rw [sk_sk] at b X2
    exact go (62, (-8, 8)) (by decide) b h2 ((F1.trans F2).into (by decide)) X2
  rw [sk_sk] at b2 X2
  refine x_sign X2 ⟨by decide, by decide⟩ (fun b lt h3 F3 X3 _ _ => ⟨fun c => absurd c (by decide), fun _ => ?_⟩) (fun b3 h3 F3 X3 _ => ⟨fun _ => ?_, fun c => absurd rfl c⟩)
  · rw [sk_sk] at b X3
    exact go (61, (-9, 9)) (by decide) b h3 (((F1.trans F2).trans F3).into (by decide)) X3
  rw [sk_sk] at b3 X3
  have none : ∀ x ∈ cmW, byL t L (sk t L p) ≠ x.1 := fun x hx => by
    simp only [List.mem_cons, List.not_mem_nil, or_false] at hx
    rcases hx with rfl | rfl | rfl
    · exact b1
    · exact b2
    · exact b3
  exact x_failHere X3.1 X3.2.2.2 X3.2.1 (fun h4 F4 B4 _ => k0 1 _ h4 (G.2.2.1 o p0 p s1 nb g1 none) B4 (PF.tx ((((F1.trans F2).trans F3).trans F4).into (by decide))))
theorem x_fact (ho : o ≤ 6) (hS : SpX t L 1 w C_X2_sum 3 o (4 * (6 - o) + 17)) (hF : o < 6 → SpT t L w C_X2_fact 0 (o + 1) (4 * (6 - o) + 15)) (hT : o < 6 → SpT t L w C_X2_test 3 (o + 1) (4 * (6 - o) + 17)) : SpT t L w C_X2_fact 0 o (4 * (6 - o) + 19) := by
  intro E h K f l p hE hf X hl k1 k0
  obtain ⟨e, rfl⟩ : ∃ e, E = e + 1 + 1 := ⟨E - 2, by omega⟩
  have G := Gt.all t L
  have n := sk_ge t L p
  have l32 : (slen 1032).toNat = 3 := by decide +kernel
  have l33 : (slen 1033).toNat = 3 := by decide +kernel
  refine c_X2_fact (by omega) (x_wd st_32 (by decide +kernel) X.1 (fun W1 h1 F1 X1 e3 _ => ⟨fun c => absurd c (by decide), fun _ => ?_⟩) (fun W1 h1 F1 X1 _ => ⟨fun _ => ?_, fun c => absurd rfl c⟩))
  · rw [l32] at X1
    refine x_goIn hf (X.tx hf F1 X1) e3 ho (fun lo h2 X2 P2 _ => ⟨fun c => absurd c (by decide), fun _ => ?_⟩) (fun lo h2 B2 P2 _ => ⟨fun _ => k0 4 _ h2 (G.1.1 o p W1 lo) B2 ((PF.tx F1).tr P2), fun c => absurd rfl c⟩)
    refine hF lo (e + 1) h2 _ f l _ (by omega) hf X2 (by omega) (fun p3 s3 h3 g3 X3 a3 b3 P3 _ => ⟨fun c => absurd c (by decide), fun _ => ?_⟩) (fun kd pl h3 g3 B3 P3 _ => ⟨fun _ => k0 kd pl h3 (G.1.2.1 o p (kd, pl) W1 lo g3) B3 (((PF.tx F1).tr P2).tr P3), fun c => absurd rfl c⟩)
    have l2 := X3.1.2.2.1
    have l3 := X3.1.1.2.1
    refine x_goOut hf X3 (fun h4 X4 P4 _ => ⟨fun c => absurd c (by decide), fun _ => ?_⟩)
    refine x_put hf X4 (by rw [List.length_append, List.length_map]; omega) (-12) (fun h5 X5 P5 _ => ⟨fun c => absurd c (by decide), fun _ => ?_⟩)
    refine k1 p3 (s3 ++ [(-12, 12)]) h5 (G.1.2.2 o p p3 s3 W1 lo g3) ?_ (by rw [List.length_append, List.length_singleton]; omega) (by omega) ((((PF.tx F1).tr P2).tr P3).tr (P4.tr P5))
    rw [List.map_append, ← List.append_assoc]
    exact X5
  refine x_sign X1 ⟨by decide, by decide⟩ (fun b lt h2 F2 X2 e3 _ => ⟨fun c => absurd c (by decide), fun _ => ?_⟩) (fun b h2 F2 X2 _ => ⟨fun _ => ?_, fun c => absurd rfl c⟩)
  · rw [sk_sk] at b e3 X2
    have F12 : Fr h h2 txL [] := (F1.trans F2).into (by decide)
    refine x_goIn hf (X.tx hf F12 X2) e3 ho (fun lo h3 X3 P3 _ => ⟨fun c => absurd c (by decide), fun _ => ?_⟩) (fun lo h3 B3 P3 _ => ⟨fun _ => k0 4 _ h3 (G.2.1.1 o p b lo) B3 ((PF.tx F12).tr P3), fun c => absurd rfl c⟩)
    refine hT lo (e + 1) h3 _ f l _ (by omega) hf X3 (by omega) (fun p4 s4 h4 g4 X4 a4 b4 P4 _ => ⟨fun c => absurd c (by decide), fun _ => ?_⟩) (fun kd pl h4 g4 B4 P4 _ => ⟨fun _ => k0 kd pl h4 (G.2.1.2.1 o p (kd, pl) b lo g4) B4 (((PF.tx F12).tr P3).tr P4), fun c => absurd rfl c⟩)
    have Q4 := ((PF.tx F12).tr P3).tr P4
    have n4 := sk_ge t L p4
    refine x_needSign X4.1 ⟨by decide, by decide⟩ (fun b5 lt5 h5 F5 X5 _ _ => ⟨fun c => absurd c (by decide), fun _ => ?_⟩) (fun b5 h5 F5 B5 _ => ⟨fun _ => k0 1 _ h5 (G.2.1.2.2.1 o p p4 s4 b lo g4 b5) B5 (Q4.tr (PF.tx F5)), fun c => absurd rfl c⟩)
    exact x_goOut hf (X4.tx hf F5 X5) (fun h6 X6 P6 _ => ⟨fun c => absurd c (by decide), fun _ => k1 _ s4 h6 (G.2.1.2.2.2 o p p4 s4 b lo g4 b5) X6 (by omega) (by omega) (Q4.tr ((PF.tx F5).tr P6))⟩)
  rw [sk_sk] at b X2
  have F12 : Fr h h2 txL [] := (F1.trans F2).into (by decide)
  refine x_wd st_33 (by decide +kernel) X2 (fun W3 h3 F3 X3 _ _ => ⟨fun c => absurd c (by decide), fun _ => ?_⟩) (fun W3 h3 F3 X3 _ => ⟨fun _ => ?_, fun c => absurd rfl c⟩)
  · rw [sk_sk] at W3 X3
    rw [l33] at X3
    have F13 : Fr h h3 txL [] := (F12.trans F3).into (by decide)
    have l2 := X3.2.2.1
    have l3 := X3.1.2.1
    exact x_put hf (X.tx hf F13 X3) (by omega) 1 (fun h4 X4 P4 _ => k1 _ [(1, 13)] h4 (G.2.2.1.1 o p W3) X4 (by simp; omega) (by omega) ((PF.tx F13).tr P4))
  · rw [sk_sk] at W3 X3
    have F13 : Fr h h3 txL [] := (F12.trans F3).into (by decide)
    have nb : NBt t L p := ⟨W1, b, W3⟩
    refine hS (e + 1) h3 _ f l _ (by omega) hf (X.tx hf F13 X3) (by omega) (fun p4 s4 h4 g4 X4 a4 b4 P4 _ => ⟨fun c => absurd c (by decide), fun _ => ?_⟩) (fun kd pl h4 g4 B4 P4 _ => ⟨fun _ => k0 kd pl h4 (G.2.2.1.2.1 o p (kd, pl) nb g4) B4 ((PF.tx F13).tr P4), fun c => absurd rfl c⟩)
    exact x_cmp (by omega) hS hf nb g4 X4 (by rw [List.length_append]; omega) (fun p5 s5 h5 g5 X5 a5 b5 P5 _ => ⟨fun c => absurd c (by decide), fun _ => k1 p5 (tk s4 ++ s5) h5 g5 (by rw [List.map_append, tk_fst, ← List.append_assoc]; exact X5) (by rw [List.length_append, tk_len]; omega) (by omega) (((PF.tx F13).tr P4).tr P5)⟩) (fun kd pl h5 g5 B5 P5 _ => ⟨fun _ => k0 kd pl h5 g5 B5 (((PF.tx F13).tr P4).tr P5), fun c => absurd rfl c⟩)
theorem x_tail_both {N : Nat} (hP : SpT t L w C_X2_fact 0 o N) (hN : 12 ≤ N) {e : Nat} (hNe : N ≤ e) (hf : fOK f) : ∀ d : Nat, ∀ (h : Hp) (K : Int → Hp → Prop) (l : List Int) (p i : Nat), L - p ≤ d → XG t L h f o 1 l p → l.length ≤ p → 2 * i ≤ p →
    (∀ p' s h', Gt t L 2 o p (.inr (p', s)) → XG t L h' f o 1 (l ++ s.map Prod.fst) p' → s.length + p ≤ p' → PF f h h' → K 1 h') → (∀ kd pl h', Gt t L 2 o p (.inl (kd, pl)) → XB t L h' kd pl → PF f h h' → K 0 h') → L_X2_both_7 w (e + 1) 1 i h K := by
  have G : TuJ t L (Gt t L) 0 1 2 1034 (-10, 10) := (Gt.all t L).2.2.2.1
  have ln : (slen 1034).toNat = 3 := by decide +kernel
  intro d
  induction d with
  | zero =>
    intro h K l p i hd X hl hi k1 k0
    have n := sk_ge t L p
    have le := X.1.2.2.1
    have le2 := X.1.1.2.1
    refine l_X2_both_7 (by omega) ⟨⟨by decide, by decide⟩, fun c => absurd c (by decide), fun _ => ⟨⟨by omega, by omega⟩, fun c => absurd c (by omega), fun _ => ?_⟩⟩
    refine x_wd st_34 (by decide +kernel) X.1 (fun W h1 F1 X1 _ _ => absurd W.1 (by rw [ln]; omega)) (fun W h1 F1 X1 _ => ⟨fun _ => ⟨Or.inr rfl, ?_⟩, fun c => absurd rfl c⟩)
    exact k1 (sk t L p) [] h1 (G.2.2.2.1 o p W) (by rw [List.map_nil, List.append_nil]; exact X.tx hf F1 X1) (by simpa using n) (PF.tx F1)
  | succ d ih =>
    intro h K l p i hd X hl hi k1 k0
    have n := sk_ge t L p
    have le := X.1.2.2.1
    have le2 := X.1.1.2.1
    have stop : ∀ j : Int, inR j → ∀ h1, K 0 h1 → L_X2_both_7 w (e + 1) 0 j h1 K := fun j hj h1 k => l_X2_both_7 (by omega) ⟨⟨by decide, by decide⟩, fun _ => ⟨Or.inl rfl, k⟩, fun c => absurd rfl c⟩
    refine l_X2_both_7 (by omega) ⟨⟨by decide, by decide⟩, fun c => absurd c (by decide), fun _ => ⟨⟨by omega, by omega⟩, fun c => absurd c (by omega), fun _ => ?_⟩⟩
    refine x_wd st_34 (by decide +kernel) X.1 (fun W h1 F1 X1 _ _ => ⟨fun c => absurd c (by decide), fun _ => ?_⟩) (fun W h1 F1 X1 _ => ⟨fun _ => ⟨Or.inr rfl, ?_⟩, fun c => absurd rfl c⟩)
    · have w1 := W.1
      rw [ln] at w1
      refine hP e h1 _ f l _ hNe hf (X.tx hf F1 X1) (by omega) (fun p1 s1 h2 g1 X2 a1 a2 P2 _ => ⟨fun c => absurd c (by decide), fun _ => ?_⟩) (fun kd pl h2 g1 B2 P2 _ => ⟨fun _ => stop _ ⟨by omega, by omega⟩ _ (k0 kd pl h2 (G.2.2.2.2.1 o p (kd, pl) W g1) B2 ((PF.tx F1).tr P2)), fun c => absurd rfl c⟩)
      rw [ln] at a1 a2
      have b1 := X2.1.2.2.1
      refine x_put hf X2 (by rw [List.length_append, List.length_map]; omega) (-10) (fun h3 X3 P3 _ => ⟨fun c => absurd c (by decide), fun _ => ?_⟩)
      have r := ih h3 K _ p1 (i + 1) (by omega) X3 (by rw [List.length_append, List.length_append, List.length_singleton, List.length_map]; omega) (by omega) (fun p2 s2 h4 g2 X4 a4 P4 => k1 p2 (s1 ++ [(-10, 10)] ++ s2) h4 (G.2.2.2.2.2.2 o p p1 s1 p2 s2 W g1 g2) (by rw [List.map_append, List.map_append, ← List.append_assoc, ← List.append_assoc]; exact X4) (by rw [List.length_append, List.length_append, List.length_singleton]; omega) (((PF.tx F1).tr P2).tr (P3.tr P4))) (fun kd pl h4 g2 B4 P4 => k0 kd pl h4 (G.2.2.2.2.2.1 o p p1 s1 (kd, pl) W g1 g2) B4 (((PF.tx F1).tr P2).tr (P3.tr P4)))
      exact r
    · exact k1 (sk t L p) [] h1 (G.2.2.2.1 o p W) (by rw [List.map_nil, List.append_nil]; exact X.tx hf F1 X1) (by simpa using n) (PF.tx F1)
theorem x_both {N : Nat} (hP : SpT t L w C_X2_fact 0 o N) (hN : 12 ≤ N) : SpT t L w C_X2_both 1 o (N + 1) := by
  intro E h K f l p hE hf X hl k1 k0
  obtain ⟨e, rfl⟩ : ∃ e, E = e + 1 := ⟨E - 1, by omega⟩
  have G : TuJ t L (Gt t L) 0 1 2 1034 (-10, 10) := (Gt.all t L).2.2.2.1
  refine c_X2_both (by omega) (hP e h _ f l p (by omega) hf X hl (fun p1 s1 h1 g1 X1 a1 a2 P1 _ => ?_) (fun kd pl h1 g1 B1 P1 _ => ?_))
  · exact x_tail_both hP hN (by omega) hf _ h1 K _ p1 0 (Nat.le_refl _) X1 (by rw [List.length_append, List.length_map]; omega) (by omega) (fun p2 s2 h2 g2 X2 a3 P2 => k1 p2 (s1 ++ s2) h2 (G.2.2.1 o p p1 s1 p2 s2 g1 g2) (by rw [List.map_append, ← List.append_assoc]; exact X2) (by rw [List.length_append]; omega) (by omega) (P1.tr P2)) (fun kd pl h2 g2 B2 P2 => k0 kd pl h2 (G.2.1 o p p1 s1 (kd, pl) g1 g2) B2 (P1.tr P2))
  · exact l_X2_both_7 (by omega) ⟨⟨by decide, by decide⟩, fun _ => ⟨Or.inl rfl, k0 kd pl h1 (G.1 o p (kd, pl) g1) B1 P1⟩, fun c => absurd rfl c⟩
theorem x_tail_test {N : Nat} (hP : SpT t L w C_X2_both 1 o N) (hN : 12 ≤ N) {e : Nat} (hNe : N ≤ e) (hf : fOK f) : ∀ d : Nat, ∀ (h : Hp) (K : Int → Hp → Prop) (l : List Int) (p i : Nat), L - p ≤ d → XG t L h f o 1 l p → l.length ≤ p → 2 * i ≤ p →
    (∀ p' s h', Gt t L 4 o p (.inr (p', s)) → XG t L h' f o 1 (l ++ s.map Prod.fst) p' → s.length + p ≤ p' → PF f h h' → K 1 h') → (∀ kd pl h', Gt t L 4 o p (.inl (kd, pl)) → XB t L h' kd pl → PF f h h' → K 0 h') → L_X2_test_7 w (e + 1) 1 i h K := by
  have G : TuJ t L (Gt t L) 1 3 4 1035 (-11, 11) := (Gt.all t L).2.2.2.2
  have ln : (slen 1035).toNat = 2 := by decide +kernel
  intro d
  induction d with
  | zero =>
    intro h K l p i hd X hl hi k1 k0
    have n := sk_ge t L p
    have le := X.1.2.2.1
    have le2 := X.1.1.2.1
    refine l_X2_test_7 (by omega) ⟨⟨by decide, by decide⟩, fun c => absurd c (by decide), fun _ => ⟨⟨by omega, by omega⟩, fun c => absurd c (by omega), fun _ => ?_⟩⟩
    refine x_wd st_35 (by decide +kernel) X.1 (fun W h1 F1 X1 _ _ => absurd W.1 (by rw [ln]; omega)) (fun W h1 F1 X1 _ => ⟨fun _ => ⟨Or.inr rfl, ?_⟩, fun c => absurd rfl c⟩)
    exact k1 (sk t L p) [] h1 (G.2.2.2.1 o p W) (by rw [List.map_nil, List.append_nil]; exact X.tx hf F1 X1) (by simpa using n) (PF.tx F1)
  | succ d ih =>
    intro h K l p i hd X hl hi k1 k0
    have n := sk_ge t L p
    have le := X.1.2.2.1
    have le2 := X.1.1.2.1
    have stop : ∀ j : Int, inR j → ∀ h1, K 0 h1 → L_X2_test_7 w (e + 1) 0 j h1 K := fun j hj h1 k => l_X2_test_7 (by omega) ⟨⟨by decide, by decide⟩, fun _ => ⟨Or.inl rfl, k⟩, fun c => absurd rfl c⟩
    refine l_X2_test_7 (by omega) ⟨⟨by decide, by decide⟩, fun c => absurd c (by decide), fun _ => ⟨⟨by omega, by omega⟩, fun c => absurd c (by omega), fun _ => ?_⟩⟩
    refine x_wd st_35 (by decide +kernel) X.1 (fun W h1 F1 X1 _ _ => ⟨fun c => absurd c (by decide), fun _ => ?_⟩) (fun W h1 F1 X1 _ => ⟨fun _ => ⟨Or.inr rfl, ?_⟩, fun c => absurd rfl c⟩)
    · have w1 := W.1
      rw [ln] at w1
      refine hP e h1 _ f l _ hNe hf (X.tx hf F1 X1) (by omega) (fun p1 s1 h2 g1 X2 a1 a2 P2 _ => ⟨fun c => absurd c (by decide), fun _ => ?_⟩) (fun kd pl h2 g1 B2 P2 _ => ⟨fun _ => stop _ ⟨by omega, by omega⟩ _ (k0 kd pl h2 (G.2.2.2.2.1 o p (kd, pl) W g1) B2 ((PF.tx F1).tr P2)), fun c => absurd rfl c⟩)
      rw [ln] at a1 a2
      have b1 := X2.1.2.2.1
      refine x_put hf X2 (by rw [List.length_append, List.length_map]; omega) (-11) (fun h3 X3 P3 _ => ⟨fun c => absurd c (by decide), fun _ => ?_⟩)
      have r := ih h3 K _ p1 (i + 1) (by omega) X3 (by rw [List.length_append, List.length_append, List.length_singleton, List.length_map]; omega) (by omega) (fun p2 s2 h4 g2 X4 a4 P4 => k1 p2 (s1 ++ [(-11, 11)] ++ s2) h4 (G.2.2.2.2.2.2 o p p1 s1 p2 s2 W g1 g2) (by rw [List.map_append, List.map_append, ← List.append_assoc, ← List.append_assoc]; exact X4) (by rw [List.length_append, List.length_append, List.length_singleton]; omega) (((PF.tx F1).tr P2).tr (P3.tr P4))) (fun kd pl h4 g2 B4 P4 => k0 kd pl h4 (G.2.2.2.2.2.1 o p p1 s1 (kd, pl) W g1 g2) B4 (((PF.tx F1).tr P2).tr (P3.tr P4)))
      exact r
    · exact k1 (sk t L p) [] h1 (G.2.2.2.1 o p W) (by rw [List.map_nil, List.append_nil]; exact X.tx hf F1 X1) (by simpa using n) (PF.tx F1)
theorem x_test {N : Nat} (hP : SpT t L w C_X2_both 1 o N) (hN : 12 ≤ N) : SpT t L w C_X2_test 3 o (N + 1) := by
  intro E h K f l p hE hf X hl k1 k0
  obtain ⟨e, rfl⟩ : ∃ e, E = e + 1 := ⟨E - 1, by omega⟩
  have G : TuJ t L (Gt t L) 1 3 4 1035 (-11, 11) := (Gt.all t L).2.2.2.2
  refine c_X2_test (by omega) (hP e h _ f l p (by omega) hf X hl (fun p1 s1 h1 g1 X1 a1 a2 P1 _ => ?_) (fun kd pl h1 g1 B1 P1 _ => ?_))
  · exact x_tail_test hP hN (by omega) hf _ h1 K _ p1 0 (Nat.le_refl _) X1 (by rw [List.length_append, List.length_map]; omega) (by omega) (fun p2 s2 h2 g2 X2 a3 P2 => k1 p2 (s1 ++ s2) h2 (G.2.2.1 o p p1 s1 p2 s2 g1 g2) (by rw [List.map_append, ← List.append_assoc]; exact X2) (by rw [List.length_append]; omega) (by omega) (P1.tr P2)) (fun kd pl h2 g2 B2 P2 => k0 kd pl h2 (G.2.1 o p p1 s1 (kd, pl) g1 g2) B2 (P1.tr P2))
  · exact l_X2_test_7 (by omega) ⟨⟨by decide, by decide⟩, fun _ => ⟨Or.inl rfl, k0 kd pl h1 (G.1 o p (kd, pl) g1) B1 P1⟩, fun c => absurd rfl c⟩
theorem x_topen : ∀ d : Nat, ∀ o : Nat, o + d = 6 → SpT t L w C_X2_fact 0 o (4 * (6 - o) + 19) ∧ SpT t L w C_X2_test 3 o (4 * (6 - o) + 21) := by
  intro d
  induction d with
  | zero =>
    intro o e
    have S := (x_open (w := w) (t := t) (L := L) (as := 1) ⟨by decide, by decide⟩ 0 o e).2.2
    have P := x_fact (w := w) (t := t) (L := L) (o := o) (by omega) S (fun c => absurd c (by omega)) (fun c => absurd c (by omega))
    exact ⟨P, x_test (x_both P (by omega)) (by omega)⟩
  | succ d ih =>
    intro o e
    obtain ⟨A, B⟩ := ih (o + 1) (by omega)
    have S := (x_open (w := w) (t := t) (L := L) (as := 1) ⟨by decide, by decide⟩ (d + 1) o e).2.2
    have P := x_fact (w := w) (t := t) (L := L) (o := o) (by omega) S (fun _ => by rw [show 4 * (6 - o) + 15 = 4 * (6 - (o + 1)) + 19 by omega]; exact A) (fun _ => by rw [show 4 * (6 - o) + 17 = 4 * (6 - (o + 1)) + 21 by omega]; exact B)
    exact ⟨P, x_test (x_both P (by omega)) (by omega)⟩
/-- a test of the class, from its outside -/
theorem x_tests : SpT t L w C_X2_test 3 0 45 := (x_topen 6 0 rfl).2
end L5F
