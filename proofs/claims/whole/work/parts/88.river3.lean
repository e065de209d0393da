/-! a river's statements on the class's side: what is told grows on both sides alike -/
section L3T
variable {w : Wd} {h h' h0 g g' : Hp} {K : Int → Hp → Prop} {t : Int → Int} {L p : Nat} {r : Int}
theorem LK.gg {o k : Int} {m : Nat} (A : LK h g o k m) (e1 : g' 93 = g 93) (e2 : g' 94 = g 94) : LK h g' o k m := by
  unfold LK at A ⊢; rw [e1, e2]; exact A
theorem FS.gg {f a : Int} (A : FS h g f a) (e1 : g' 98 = g 98) (e2 : g' 99 = g 99) (e3 : g' 100 = g 100) (e4 : g' 68 = g 68) : FS h g' f a := by
  unfold FS at A ⊢; rw [e1, e2, e3, e4]; exact A
theorem FS.hh {f a : Int} (A : FS h g f a) (e1 : h' f = h f) (e2 : h' (f + 1) = h (f + 1)) : FS h' g f a := by
  unfold FS at A ⊢; rw [e1, e2]; exact A
theorem CB.gh {b : Int} (A : CB h g r b) (e : ∀ o : Int, r + 8 ≤ o → o ≤ r + 12 → h' o = h o) (e1 : g' 96 = g 96) (e2 : g' 93 = g 93) (e3 : g' 68 = g 68) : CB h' g' r b := by
  unfold CB at A ⊢
  rw [e (r + 8) (by omega) (by omega), e (r + 9) (by omega) (by omega), e (r + 10) (by omega) (by omega), e (r + 11) (by omega) (by omega), e (r + 12) (by omega) (by omega), e1, e2, e3]
  exact A
theorem CRv.slope {i v : Int} (A : CRv h g r) (hv : 0 ≤ v ∧ v ≤ 9) (q : h' = hu h (r + 7) i v) : CRv h' (hu g 95 i v) r := by
  obtain ⟨a1, a2, a3, a4, a5, a6, a7, a8, a9, a10, a11, a12, a13⟩ := A
  have er : ∀ o : Int, o ≠ r + 7 → h' o = h o := fun o n => hu_row q n
  have eg : ∀ o : Int, o ≠ 95 → hu g 95 i v o = g o := fun o n => hu_row rfl n
  refine ⟨by rw [er r (by omega), eg 68 (by decide)]; exact a1, (a2.fr (by rw [er _ (by omega)]) (er _ (by omega))).gg (eg 93 (by decide)) (eg 94 (by decide)), (a3.fr (by rw [er _ (by omega)]) (er _ (by omega))).gg (eg 93 (by decide)) (eg 94 (by decide)), (a4.fr (by rw [er _ (by omega)]) (er _ (by omega))).gg (eg 93 (by decide)) (eg 94 (by decide)), fun j j0 j1 => ?_, fun b b0 b1 => ?_, ?_, by rw [er r (by omega), eg 97 (by decide)]; exact a8, by rw [er r (by omega), eg 97 (by decide)]; exact a9, by rw [er r (by omega), eg 97 (by decide)]; exact a10, (a11.hh (er _ (by omega)) (er _ (by omega))).gg (eg _ (by decide)) (eg _ (by decide)) (eg _ (by decide)) (eg _ (by decide)), (a12.hh (er _ (by omega)) (er _ (by omega))).gg (eg _ (by decide)) (eg _ (by decide)) (eg _ (by decide)) (eg _ (by decide)), by rw [er r (by omega), eg 68 (by decide)]; exact a13⟩
  · rw [q, hu_if, hu_if]
    by_cases d : j = i
    · rw [if_pos d, if_pos d]; exact ⟨rfl, hv⟩
    · rw [if_neg d, if_neg d]; exact a5 j j0 j1
  · rw [eg 93 (by decide)] at b1
    exact (a6 b b0 b1).gh (fun o x y => er o (by omega)) (eg _ (by decide)) (eg _ (by decide)) (eg _ (by decide))
  · rw [eg 93 (by decide), er (r + 11) (by omega)]; exact a7
theorem CRv.set {i v : Int} (A : CRv h g r) (hi : (i = 0 ∧ 1 ≤ v ∧ v ≤ 99) ∨ (i = 1 ∧ 1 ≤ v ∧ v ≤ 99) ∨ (i = 2 ∧ 0 ≤ v ∧ v ≤ 50)) (q : h' = hu h r (13 + i) v) : CRv h' (hu g 97 i v) r := by
  obtain ⟨a1, a2, a3, a4, a5, a6, a7, a8, a9, a10, a11, a12, a13⟩ := A
  have er : ∀ o : Int, o ≠ r → h' o = h o := fun o n => hu_row q n
  have e0 : ∀ j : Int, h' r j = if j = 13 + i then v else h r j := fun j => by rw [q, hu_if]
  have g0 : ∀ j : Int, hu g 97 i v 97 j = if j = i then v else g 97 j := fun j => by rw [hu_if]
  have eg : ∀ o : Int, o ≠ 97 → hu g 97 i v o = g o := fun o n => hu_row rfl n
  have st : ∀ j lo hi' : Int, (j = i → lo ≤ v ∧ v ≤ hi') → (h r (13 + j) = g 97 j ∧ lo ≤ g 97 j ∧ g 97 j ≤ hi') → h' r (13 + j) = hu g 97 i v 97 j ∧ lo ≤ hu g 97 i v 97 j ∧ hu g 97 i v 97 j ≤ hi' := fun j lo hi' hv a => by
    rw [e0, g0]
    by_cases d : j = i
    · rw [if_pos d, if_pos (by omega)]; exact ⟨rfl, hv d⟩
    · rw [if_neg d, if_neg (by omega)]; exact a
  refine ⟨by rw [e0, if_neg (by omega), eg 68 (by decide)]; exact a1, (a2.fr (by rw [er _ (by omega)]) (er _ (by omega))).gg (eg 93 (by decide)) (eg 94 (by decide)), (a3.fr (by rw [er _ (by omega)]) (er _ (by omega))).gg (eg 93 (by decide)) (eg 94 (by decide)), (a4.fr (by rw [er _ (by omega)]) (er _ (by omega))).gg (eg 93 (by decide)) (eg 94 (by decide)), by rw [er _ (by omega), eg 95 (by decide)]; exact a5, fun b b0 b1 => ?_, ?_, st 0 1 99 (fun x => by omega) a8, st 1 1 99 (fun x => by omega) a9, st 2 0 50 (fun x => by omega) a10, (a11.hh (er _ (by omega)) (er _ (by omega))).gg (eg _ (by decide)) (eg _ (by decide)) (eg _ (by decide)) (eg _ (by decide)), (a12.hh (er _ (by omega)) (er _ (by omega))).gg (eg _ (by decide)) (eg _ (by decide)) (eg _ (by decide)) (eg _ (by decide)), by rw [e0, if_neg (by omega), eg 68 (by decide)]; exact a13⟩
  · rw [eg 93 (by decide)] at b1
    exact (a6 b b0 b1).gh (fun o x y => er o (by omega)) (eg _ (by decide)) (eg _ (by decide)) (eg _ (by decide))
  · rw [eg 93 (by decide), er (r + 11) (by omega)]; exact a7
theorem x_nwd {a : Int} (ha : St a) (hn : 0 < slen a ∧ slen a ≤ 100) (X : XS t L h p) (k1 : wI t L (sk t L p) a → ∀ h1, Fr h h1 txL [] → XS t L h1 (sk t L p + (slen a).toNat) → K 1 h1) (k0 : ¬ wI t L (sk t L p) a → ∀ h1, Fr h h1 txL [] → XB t L h1 1 (sk t L p) → K 0 h1) : C_X10_needWord w a h K :=
  x_needWord ha (show slen a = ((slen a).toNat : Nat) by omega) (by omega) X (fun i _ => by have := sch_b a i; omega) (fun W h1 F1 X1 _ => k1 W h1 F1 X1) k0
theorem ob7 (hr : r = 6 ∨ r = 23) : Ob 7 r := by rcases hr with rfl | rfl <;> exact ⟨by decide, rfl⟩
theorem x_slope (hr : r = 6 ∨ r = 23) (hr2 : h 60 2 = r) (A : CRv h g r) (X : XS t L h p)
    (k1 : ∀ p' g', bSlope t L g p (.inr (p', g')) → p < p' → ∀ h1, XS t L h1 p' → CRv h1 g' r → PV r h h1 → K 1 h1)
    (k0 : ∀ f, bSlope t L g p (.inl f) → ∀ h1, XB t L h1 f.1 f.2 → PV r h h1 → K 0 h1) : C_X8_slope w h K := by
  have e60 : ∀ h1 : Hp, PV r h h1 → h1 60 2 = r := fun h1 P => by rw [P 60 2 (by omega) (by decide) (by decide)]; exact hr2
  have n1 := sk_ge t L p
  refine c_X8_slope (x_number X ⟨by decide, by decide⟩ ⟨by decide, by decide⟩ (fun v n nv h2 F2 X2 => ?_) (fun kd pl nf h2 F2 B2 => ⟨⟨by decide, by decide⟩, fun _ => k0 (kd, pl) (Or.inl ⟨(kd, pl), nf, rfl⟩) h2 B2 (PV.tx F2), fun c => absurd rfl c⟩))
  have D1 : pNum t L 0 9 p (.inr (sk t L p + n, v)) := ⟨n, nv, rfl⟩
  have v9 : 0 ≤ v ∧ v ≤ 9 := nv.2.2.2.2.2.2.2
  have nn := nv.2.1
  obtain ⟨p2, hp2⟩ : ∃ p2, p2 = sk t L p + n := ⟨_, rfl⟩
  rw [← hp2] at D1 X2
  refine ⟨⟨by omega, by omega⟩, fun c => absurd c (by omega), fun _ => ?_⟩
  refine x_nwd st_2 (by decide +kernel) X2 (fun W3 h3 F3 X3 _ => ⟨fun _ => ?_, fun c => absurd (by decide) c⟩) (fun W3 h3 F3 B3 _ => ⟨fun c => absurd rfl c, fun _ => k0 (1, (sk t L p2 : Int)) (Or.inr ⟨p2, v, D1, Or.inl ⟨(1, (sk t L p2 : Int)), ⟨W3, rfl⟩, rfl⟩⟩) h3 B3 ((PV.tx F2).tr (PV.tx F3))⟩)
  have D2 : pWd t L 1002 p2 (.inr (sk t L p2 + (slen 1002).toNat, ())) := ⟨W3, rfl⟩
  have n2 := sk_ge t L p2
  have P3 : PV r h h3 := (PV.tx F2).tr (PV.tx F3)
  have A3 := (A.tx hr F2).tx hr F3
  obtain ⟨p3, hp3⟩ : ∃ p3, p3 = sk t L p2 + (slen 1002).toNat := ⟨_, rfl⟩
  rw [← hp3] at D2 X3
  have n3 := sk_ge t L p3
  rw [e60 h3 P3, A3.1.1]
  have a3 := A3.1.2
  refine ⟨ob7 hr, x_number X3 ⟨by decide, by decide⟩ ⟨by omega, by omega⟩ (fun i m ni h4 F4 X4 => ?_) (fun kd pl nf h4 F4 B4 => ?_)⟩
  · have P4 := P3.tr (PV.tx F4)
    have A4 := A3.tx hr F4
    have i0 := ni.2.2.2.2.2.2.2
    have m1 := ni.2.1
    have i1 : 0 ≤ i ∧ i ≤ g 68 35 - 1 := i0
    rw [e60 h4 P4]
    refine ⟨ob7 hr, c_X7_hasReach (ob7 hr) ?_⟩
    rw [A4.1.1, e60 h4 P4]
    refine ⟨⟨by omega, by omega⟩, fun c => absurd c (by omega), fun _ => ⟨⟨by omega, by omega⟩, ⟨by omega, by omega⟩, fun c => absurd c (by omega), fun _ => ⟨⟨by omega, by omega⟩, fun c => absurd c (by omega), fun _ _ => ⟨fun _ => ⟨ob7 hr, ⟨by omega, by omega⟩, fun h5 q5 => ?_⟩, fun c => absurd (by decide) c⟩⟩⟩⟩
    have e5 : ∀ o j : Int, o ≠ r + 7 → h5 o j = h4 o j := fun o j n => by rw [hu_row q5 n]
    refine k1 (sk t L p3 + m) (hu g 95 i v) (Or.inr ⟨p2, v, D1, Or.inr ⟨p3, (), D2, Or.inr ⟨sk t L p3 + m, i, ⟨m, ni, rfl⟩, rfl⟩⟩⟩) (by omega) h5 ⟨?_, by rw [e5 1 2 (by omega)]; exact X4.2.1, X4.2.2.1, by rw [e5 1 4 (by omega)]; exact X4.2.2.2⟩ (A4.slope v9 q5) (P4.tr (fun o j m1 m2 m3 => e5 o j (fun x => m1 (by omega))))
    have T := X4.1
    unfold TP at T ⊢
    rw [hu_row q5 (by omega), hu_row q5 (by omega)]; exact T
  · have P4 := P3.tr (PV.tx F4)
    rw [e60 h4 P4]
    refine ⟨ob7 hr, c_X7_hasReach (ob7 hr) ⟨⟨by decide, by decide⟩, fun _ _ => ⟨fun c => absurd rfl c, fun _ => k0 (kd, pl) (Or.inr ⟨p2, v, D1, Or.inr ⟨p3, (), D2, Or.inl ⟨(kd, pl), nf, rfl⟩⟩⟩) h4 B4 P4⟩, fun c => absurd (by decide) c⟩⟩
end L3T
