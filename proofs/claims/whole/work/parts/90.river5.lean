/-! a river's statements on the class's side: cut, settle, and the three numbers -/
section L3V
variable {w : Wd} {h h' h0 g g' : Hp} {K : Int → Hp → Prop} {t : Int → Int} {L p q : Nat} {r : Int}
theorem gS_o {a : Int} {s : List Int} {o i : Int} (h1 : o ≠ 98) (h2 : o ≠ 99) (h3 : o ≠ 100) (h4 : ¬ (o = 68 ∧ i = 44)) : gSum g a s o i = g o i := by
  unfold gSum
  rw [if_neg (fun x => h1 x.1), if_neg (fun x => h2 x.1), if_neg h4, if_neg (fun x => h3 x.1)]
theorem gS_r {a : Int} {s : List Int} {o : Int} (h1 : o ≠ 98) (h2 : o ≠ 99) (h3 : o ≠ 100) (h4 : o ≠ 68) : gSum g a s o = g o := funext (fun _ => gS_o h1 h2 h3 (fun x => h4 x.1))
theorem gS_98 {a j : Int} {s : List Int} : gSum g a s 98 j = if j = a then g 68 44 else g 98 j := by
  unfold gSum
  by_cases d : j = a
  · rw [if_pos ⟨rfl, d⟩, if_pos d]
  · rw [if_neg (fun x => d x.2), if_neg (by omega), if_neg (by omega), if_neg (by omega), if_neg d]
theorem gS_99 {a j : Int} {s : List Int} : gSum g a s 99 j = if j = a then g 68 44 + s.length else g 99 j := by
  unfold gSum
  rw [if_neg (by omega)]
  by_cases d : j = a
  · rw [if_pos ⟨rfl, d⟩, if_pos d]
  · rw [if_neg (fun x => d x.2), if_neg (by omega), if_neg (by omega), if_neg d]
theorem gS_44 {a : Int} {s : List Int} : gSum g a s 68 44 = g 68 44 + s.length := by
  unfold gSum
  rw [if_neg (by omega), if_neg (by omega), if_pos ⟨rfl, rfl⟩]
theorem gS_100 {a i : Int} {s : List Int} : gSum g a s 100 i = if g 68 44 ≤ i ∧ i < g 68 44 + s.length then cdI (s.getD (i - g 68 44).toNat 0) else g 100 i := by
  unfold gSum
  rw [if_neg (by omega), if_neg (by omega), if_neg (by omega)]
  by_cases d : g 68 44 ≤ i ∧ i < g 68 44 + s.length
  · rw [if_pos ⟨rfl, d⟩, if_pos d]
  · rw [if_neg (fun x => d x.2), if_neg d]
theorem FS.oth {f a a2 : Int} {s : List Int} (A : FS h g f a2) (n : a2 ≠ a) (e1 : h' f = h f) (e2 : h' (f + 1) = h (f + 1)) : FS h' (gSum g a s) f a2 := by
  unfold FS at A ⊢
  rw [e1, e2, gS_98, gS_99, if_neg n, if_neg n, gS_44]
  rcases A with A | ⟨m, m0, m1, m2, m3, m4, m5, m6, m7, m8⟩
  · exact Or.inl A
  · refine Or.inr ⟨m, m0, m1, m2, m3, m4, m5, m6, by omega, fun i hi => ?_⟩
    rw [gS_100, if_neg (fun x => by omega)]; exact m8 i hi
theorem FS.new {f a p p' : Int} {q q' : Nat} {s : List Int} (e : h' f 1 = s.length) (A : Lst (h' (f + 1)) s) (G : Gr t L 0 3 0 q (.inr (q', s))) (c0 : 0 ≤ g 68 44) (c1 : g 68 44 + s.length ≤ 1600) : FS h' (gSum g a s) f a := by
  obtain ⟨W, n0, ok⟩ := Gr.wff (o := 0) G A
  refine Or.inr ⟨s.length, n0, by omega, e, W, fun i hi => ?_, ?_, ?_, ?_, fun i hi => ?_⟩
  · rw [A i hi]
    have m : s.getD i 0 ∈ s := by
      rw [List.getD_eq_getElem?_getD, List.getElem?_eq_getElem hi]
      exact List.getElem_mem ..
    rcases ok _ m with o | ⟨y, hy, e⟩ | ⟨y, hy, e⟩ | o
    · exact Or.inl o.1
    · have : -26 ≤ y.2 ∧ y.2 ≤ -20 := (show ∀ y ∈ lfW 0, -26 ≤ y.2 ∧ y.2 ≤ -20 by decide) y hy
      rw [e]; exact Or.inr (Or.inl this)
    · exact absurd hy List.not_mem_nil
    · exact Or.inr (Or.inr o)
  · rw [gS_98, if_pos rfl]; exact c0
  · rw [gS_98, gS_99, if_pos rfl, if_pos rfl]
  · rw [gS_98, if_pos rfl, gS_44]; omega
  · rw [gS_98, if_pos rfl, gS_100, if_pos ⟨by omega, by omega⟩, A i hi, show (g 68 44 + (i : Int) - g 68 44).toNat = i by omega]
theorem CRv.sum {a f : Int} {q q' : Nat} {s : List Int} (A : CRv h g r) (hr : r = 6 ∨ r = 23) (ha : (a = 0 ∧ f = r + 13) ∨ (a = 1 ∧ f = r + 15)) (er : ∀ o : Int, r ≤ o → o < r + 17 → o ≠ f → o ≠ f + 1 → h' o = h o) (e : h' f 1 = s.length) (V : Lst (h' (f + 1)) s) (G : Gr t L 0 3 0 q (.inr (q', s))) (c1 : g 68 44 + s.length ≤ 1600) : CRv h' (gSum g a s) r := by
  obtain ⟨a1, a2, a3, a4, a5, a6, a7, a8, a9, a10, a11, a12, a13⟩ := A
  have eg : ∀ o : Int, o ≠ 98 → o ≠ 99 → o ≠ 100 → o ≠ 68 → gSum g a s o = g o := fun o x1 x2 x3 x4 => gS_r x1 x2 x3 x4
  have e35 : gSum g a s 68 35 = g 68 35 := gS_o (by decide) (by decide) (by decide) (by decide)
  have lk : ∀ {o k : Int} {m : Nat}, r ≤ o → o < r + 7 → LK h g o k m → LK h' (gSum g a s) o k m := fun x y B => (B.fr (by rw [er _ x (by omega) (by omega) (by omega)]) (er _ (by omega) (by omega) (by omega) (by omega))).gg (eg 93 (by decide) (by decide) (by decide) (by decide)) (eg 94 (by decide) (by decide) (by decide) (by decide))
  refine ⟨by rw [er r (by omega) (by omega) (by omega) (by omega), e35]; exact a1, lk (by omega) (by omega) a2, lk (by omega) (by omega) a3, lk (by omega) (by omega) a4, by rw [er _ (by omega) (by omega) (by omega) (by omega), eg 95 (by decide) (by decide) (by decide) (by decide)]; exact a5, fun b b0 b1 => ?_, ?_, by rw [er r (by omega) (by omega) (by omega) (by omega), eg 97 (by decide) (by decide) (by decide) (by decide)]; exact a8, by rw [er r (by omega) (by omega) (by omega) (by omega), eg 97 (by decide) (by decide) (by decide) (by decide)]; exact a9, by rw [er r (by omega) (by omega) (by omega) (by omega), eg 97 (by decide) (by decide) (by decide) (by decide)]; exact a10, ?_, ?_, ⟨by rw [gS_44]; omega, by rw [gS_44]; omega, by rw [er r (by omega) (by omega) (by omega) (by omega), gS_o (by decide) (by decide) (by decide) (by decide)]; exact a13.2.2⟩⟩
  · rw [eg 93 (by decide) (by decide) (by decide) (by decide)] at b1
    have c := a6 b b0 b1
    unfold CB at c ⊢
    rw [er (r + 8) (by omega) (by omega) (by omega) (by omega), er (r + 9) (by omega) (by omega) (by omega) (by omega), er (r + 10) (by omega) (by omega) (by omega) (by omega), er (r + 11) (by omega) (by omega) (by omega) (by omega), er (r + 12) (by omega) (by omega) (by omega) (by omega), eg 93 (by decide) (by decide) (by decide) (by decide), eg 96 (by decide) (by decide) (by decide) (by decide), e35]
    exact c
  · rw [eg 93 (by decide) (by decide) (by decide) (by decide), er (r + 11) (by omega) (by omega) (by omega) (by omega)]; exact a7
  · rcases ha with ⟨rfl, rfl⟩ | ⟨rfl, rfl⟩
    · exact FS.new (p := 0) (p' := 0) e V G a13.1 c1
    · exact a11.oth (by decide) (er _ (by omega) (by omega) (by omega) (by omega)) (er _ (by omega) (by omega) (by omega) (by omega))
  · rcases ha with ⟨rfl, rfl⟩ | ⟨rfl, rfl⟩
    · exact a12.oth (by decide) (er _ (by omega) (by omega) (by omega) (by omega)) (er _ (by omega) (by omega) (by omega) (by omega))
    · exact FS.new (p := 0) (p' := 0) e V G a13.1 c1
/-- a formula is read into the class's river -/
theorem x_sumInto {a f : Int} (hr : r = 6 ∨ r = 23) (ha : (a = 0 ∧ f = r + 13) ∨ (a = 1 ∧ f = r + 15)) (A : CRv h g r) (X : XS t L h p) (hc : g 68 44 ≤ p)
    (k1 : ∀ p' s, Gr t L 0 3 0 p (.inr (p', s)) → p < p' → g 68 44 + s.length ≤ p' → ∀ h1, XS t L h1 p' → CRv h1 (gSum g a s) r → PV r h h1 → K 1 h1)
    (k0 : ∀ fl, Gr t L 0 3 0 p (.inl fl) → ∀ h1, XB t L h1 fl.1 fl.2 → PV r h h1 → K 0 h1) : C_X2_sumInto w f h K := by
  have hf : fOK f := by rcases hr with rfl | rfl <;> rcases ha with ⟨-, rfl⟩ | ⟨-, rfl⟩ <;> decide
  have fb : r ≤ f ∧ f + 1 < r + 17 := by omega
  refine c_X2_sumInto hf.ob (c_X2_begin hf.ob (Or.inl rfl) (fun h1 q1 => ?_))
  have e1 : h1 5 2 = f := by rw [q1, hu_if, if_pos rfl]
  rw [e1]
  refine ⟨hf.ob, fun h2 q2 h3 q3 h4 q4 => ?_⟩
  have ev : ∀ o i : Int, h4 o i = if o = 5 ∧ (i = 3 ∨ i = 4) then 0 else if o = f ∧ i = 1 then 0 else if o = 5 ∧ i = 2 then f else h o i := fun o i => by
    by_cases d : o = 5
    · subst d
      rw [q4, hu_if, q3, hu_if, hu_row q2 (by omega), q1, hu_if]
      by_cases d4 : i = 4
      · rw [if_pos d4, if_pos ⟨rfl, Or.inr d4⟩]
      · rw [if_neg d4]
        by_cases d3 : i = 3
        · rw [if_pos d3, if_pos ⟨rfl, Or.inl d3⟩]
        · rw [if_neg d3, if_neg (show ¬ ((5 : Int) = 5 ∧ (i = 3 ∨ i = 4)) from fun x => x.2.elim d3 d4), if_neg (show ¬ ((5 : Int) = f ∧ i = 1) from fun x => by omega)]
          by_cases d2 : i = 2
          · rw [if_pos d2, if_pos ⟨rfl, d2⟩]
          · rw [if_neg d2, if_neg (fun x => d2 x.2)]
    · rw [hu_row q4 d, hu_row q3 d, if_neg (fun x => d x.1)]
      by_cases df : o = f
      · subst df
        rw [q2, hu_if, hu_row q1 d]
        by_cases d1 : i = 1
        · rw [if_pos d1, if_pos ⟨rfl, d1⟩]
        · rw [if_neg d1, if_neg (fun x => d1 x.2), if_neg (fun x => d x.1)]
      · rw [hu_row q2 df, hu_row q1 d, if_neg (fun x => df x.1), if_neg (fun x => d x.1)]
  have r12 : ∀ o : Int, o = 1 ∨ o = 2 → h4 o = h o := fun o c => funext (fun i => by rw [ev, if_neg (fun x => by omega), if_neg (fun x => by omega), if_neg (fun x => by omega)])
  have X4 : XS t L h4 p := by
    unfold XS TP at X ⊢
    rw [r12 1 (Or.inl rfl), r12 2 (Or.inr rfl)]; exact X
  have G4 : XG t L h4 f 0 0 [] p := ⟨X4, by rw [ev, if_pos ⟨rfl, Or.inl rfl⟩]; rfl, by rw [ev, if_neg (by decide), if_neg (by omega), if_pos ⟨rfl, rfl⟩], by rw [ev, if_pos ⟨rfl, Or.inr rfl⟩], by rw [ev, if_neg (by omega), if_pos ⟨rfl, rfl⟩]; rfl, fun k hk => absurd hk (Nat.not_lt_zero _)⟩
  have P4 : PV r h h4 := fun o i m1 m2 m3 => by rw [ev, if_neg (fun x => m3 (by omega)), if_neg (fun x => m1 (by omega)), if_neg (fun x => m3 (by omega))]
  refine x_sums (w := w) ⟨by decide, by decide⟩ 59 h4 _ f [] p (by decide) hf G4 (Nat.zero_le _) (fun p' s h5 G X5 l5 l6 P5 _ => ?_) (fun kd pl h5 G B5 P5 _ => k0 (kd, pl) G h5 B5 (P4.tr (PV.pf fb P5)))
  have b := X5.1.2.2.1
  have b2 := X5.1.1.2.1
  obtain ⟨X6, -, -, -, e6, V6⟩ := X5
  rw [List.nil_append] at e6 V6
  refine k1 p' s G l6 (by omega) h5 X6 (A.sum hr ha (fun o x1 x2 x3 x4 => ?_) e6 V6 G (by omega)) (P4.tr (PV.pf fb P5))
  funext i
  rw [P5 o i x4 (fun x => x3 x.1) (fun x => by omega) (fun x => by omega), ev, if_neg (fun x => by omega), if_neg (fun x => x3 x.1), if_neg (fun x => by omega)]
end L3V
