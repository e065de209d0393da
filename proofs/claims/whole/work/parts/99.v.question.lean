/-! a question on both sides -/
abbrev kdW : List (Int × Int) := [(1026, 0), (1027, 1), (1028, 2), (1029, 3), (1030, 4), (1031, 5)]
def pKd (t : Int → Int) (L p : Nat) (r : PRes Int) : Prop := Sum.elim (fun f => (∀ x ∈ kdW, ¬ wI t L (sk t L p) x.1) ∧ f = (1, (sk t L p : Int))) (fun y => ∃ x ∈ kdW, wI t L (sk t L p) x.1 ∧ y.2 = x.2 ∧ y.1 = sk t L p + (slen x.1).toNat) r
def pBd (t : Int → Int) (L : Nat) (k : Int) (p : Nat) (r : RL) : Prop := (k ≤ 2 ∧ Gt t L 3 0 p r) ∨ (3 ≤ k ∧ ∃ res, Gr t L 1 3 0 p res ∧ r = Sum.elim (fun f => .inl f) (fun y => .inr (y.1, tk y.2)) res)
def pEd (t : Int → Int) (L : Nat) (x : Int × List (Int × Int)) (p : Nat) (r : PRes (Int × List (Int × Int))) : Prop := (byL t L (sk t L p) = -1 ∧ r = .inr (sk t L p, x)) ∨ (byL t L (sk t L p) ≠ -1 ∧ r = .inl (1, (sk t L p : Int)))
def quP (t : Int → Int) (L : Nat) : Nat → PRes (Int × List (Int × Int)) → Prop := pB (pKd t L) (fun k => pB (pBd t L k) (fun s => pEd t L (k, s)))
/-- what a question may change on the class's side -/
def QV (h h' : Hp) : Prop := ∀ o i : Int, o ≠ 4 → ¬ (o = 3 ∧ i = 1) → ¬ (o = 1 ∧ 2 ≤ i ∧ i ≤ 5) → ¬ (o = 5 ∧ 2 ≤ i ∧ i ≤ 4) → h' o i = h o i
theorem kd_ok : ∀ x ∈ kdW, wOK x.1 ∧ 3 ≤ slen x.1 ∧ 0 ≤ x.2 ∧ x.2 ≤ 5 := by decide +kernel
theorem kd_x : ∀ x ∈ kdW, ∀ y ∈ kdW, wdx x.1 y.1 = false → x = y := by decide +kernel
theorem wk_26 : wr 1026 116 := ⟨⟨by decide, by decide +kernel⟩, by decide +kernel, by decide +kernel⟩
theorem wk_27 : wr 1027 117 := ⟨⟨by decide, by decide +kernel⟩, by decide +kernel, by decide +kernel⟩
theorem wk_28 : wr 1028 118 := ⟨⟨by decide, by decide +kernel⟩, by decide +kernel, by decide +kernel⟩
theorem wk_29 : wr 1029 119 := ⟨⟨by decide, by decide +kernel⟩, by decide +kernel, by decide +kernel⟩
theorem wk_30 : wr 1030 120 := ⟨⟨by decide, by decide +kernel⟩, by decide +kernel, by decide +kernel⟩
theorem wk_31 : wr 1031 121 := ⟨⟨by decide, by decide +kernel⟩, by decide +kernel, by decide +kernel⟩
section L5K
variable {w : Wd} {h h' h0 h1 h2 : Hp} {K : Int → Hp → Prop} {t : Int → Int} {L p a o : Nat} {U C q : List Int}
theorem pKd.fb : FBd L (pKd t L) := fun p r D hp => by
  have := sk_le (t := t) hp
  rcases r with f | ⟨p', k⟩
  · obtain ⟨-, e⟩ := D
    rw [e]
    exact ⟨by show (0 : Int) ≤ (sk t L p : Int); omega, by show (sk t L p : Int) ≤ L; omega⟩
  · obtain ⟨x, hx, W, -, e⟩ := D
    have e : p' = sk t L p + (slen x.1).toNat := e
    have := W.1
    show p' ≤ L
    omega
theorem pBd.fb {k : Int} : FBd L (pBd t L k) := fun p r D => by
  rcases D with ⟨-, G⟩ | ⟨-, res, G, e⟩
  · exact G.fb
  · have := G.fb
    subst e
    rcases res with f | x
    · exact this
    · exact this
theorem pEd.fb {x : Int × List (Int × Int)} : FBd L (pEd t L x) := fun p r D hp => by
  have := sk_le (t := t) hp
  rcases D with ⟨-, e⟩ | ⟨-, e⟩
  · subst e; exact this
  · exact fb5 (p := p) this e hp
theorem quP.fb : FBd L (quP t L) := pB.fb pKd.fb (fun _ => pB.fb pBd.fb (fun _ => pEd.fb))
theorem QV.tx (F : Fr h h1 txL []) : QV h h1 := fun o i m1 m2 m3 m4 => F o i List.not_mem_nil (fun q => by simp at q; omega)
theorem QV.tr (a : QV h h1) (b : QV h1 h2) : QV h h2 := fun o i m1 m2 m3 m4 => (b o i m1 m2 m3 m4).trans (a o i m1 m2 m3 m4)
theorem QV.pf (P : PF 3 h h1) : QV h h1 := fun o i m1 m2 m3 m4 => P o i m1 m2 m3 (fun x => m4 (by omega))
theorem QV.up {o i v : Int} (q : h1 = hu h o i v) (s : (o = 3 ∧ i = 1) ∨ (o = 5 ∧ 2 ≤ i ∧ i ≤ 4)) : QV h h1 := fun o' i' m1 m2 m3 m4 => by
  rw [q]; unfold hu
  rw [if_neg (fun x => by rw [x.1, x.2] at m2 m4; exact s.elim m2 m4)]
theorem x_kind (X : XS t L h p) (k1 : ∀ p' k, pKd t L p (.inr (p', k)) → 0 ≤ k ∧ k ≤ 5 → p + 3 ≤ p' → ∀ h1, Fr h h1 txL [] → XS t L h1 p' → K k h1) (k0 : pKd t L p (.inl (1, (sk t L p : Int))) → ∀ h1, Fr h h1 txL [] → XB t L h1 1 (sk t L p) → K (-1) h1) : C_X2_kind w h K := by
  have n := sk_ge t L p
  have yes : ∀ x ∈ kdW, wI t L (sk t L p) x.1 → ∀ h1, Fr h h1 txL [] → XS t L h1 (sk t L p + (slen x.1).toNat) → K x.2 h1 := fun x hx W h1 F1 X1 => by
    have o := kd_ok x hx
    exact k1 _ x.2 ⟨x, hx, W, rfl, rfl⟩ o.2.2 (by omega) h1 F1 X1
  have tx2 : ∀ {h1 h2 : Hp}, Fr h h1 txL [] → Fr h1 h2 txL [] → Fr h h2 txL [] := fun a b => (a.trans b).into (by decide)
  refine c_X2_kind (x_wd st_26 (by decide +kernel) X (fun W h1 F1 X1 _ _ => ⟨fun c => absurd c (by decide), fun _ => yes (1026, 0) (by decide) W h1 F1 X1⟩) (fun n1 h1 F1 X1 _ => ⟨fun _ => ?_, fun c => absurd rfl c⟩))
  refine x_wd st_27 (by decide +kernel) X1 (fun W h2 F2 X2 _ _ => ⟨fun c => absurd c (by decide), fun _ => by rw [sk_sk] at W X2; exact yes (1027, 1) (by decide) W h2 (tx2 F1 F2) X2⟩) (fun n2 h2 F2 X2 _ => ⟨fun _ => ?_, fun c => absurd rfl c⟩)
  rw [sk_sk] at n2 X2
  have G2 := tx2 F1 F2
  refine x_wd st_28 (by decide +kernel) X2 (fun W h3 F3 X3 _ _ => ⟨fun c => absurd c (by decide), fun _ => by rw [sk_sk] at W X3; exact yes (1028, 2) (by decide) W h3 (tx2 G2 F3) X3⟩) (fun n3 h3 F3 X3 _ => ⟨fun _ => ?_, fun c => absurd rfl c⟩)
  rw [sk_sk] at n3 X3
  have G3 := tx2 G2 F3
  refine x_wd st_29 (by decide +kernel) X3 (fun W h4 F4 X4 _ _ => ⟨fun c => absurd c (by decide), fun _ => by rw [sk_sk] at W X4; exact yes (1029, 3) (by decide) W h4 (tx2 G3 F4) X4⟩) (fun n4 h4 F4 X4 _ => ⟨fun _ => ?_, fun c => absurd rfl c⟩)
  rw [sk_sk] at n4 X4
  have G4 := tx2 G3 F4
  refine x_wd st_30 (by decide +kernel) X4 (fun W h5 F5 X5 _ _ => ⟨fun c => absurd c (by decide), fun _ => by rw [sk_sk] at W X5; exact yes (1030, 4) (by decide) W h5 (tx2 G4 F5) X5⟩) (fun n5 h5 F5 X5 _ => ⟨fun _ => ?_, fun c => absurd rfl c⟩)
  rw [sk_sk] at n5 X5
  have G5 := tx2 G4 F5
  refine x_wd st_31 (by decide +kernel) X5 (fun W h6 F6 X6 _ _ => ⟨fun c => absurd c (by decide), fun _ => by rw [sk_sk] at W X6; exact yes (1031, 5) (by decide) W h6 (tx2 G5 F6) X6⟩) (fun n6 h6 F6 X6 _ => ⟨fun _ => ?_, fun c => absurd rfl c⟩)
  rw [sk_sk] at n6 X6
  refine x_failHere X6.1 X6.2.2.2 X6.2.1 (fun h7 F7 B7 _ => k0 ⟨fun x hx => ?_, rfl⟩ h7 (tx2 (tx2 G5 F6) (F7.into (by decide))) B7)
  simp only [List.mem_cons, List.not_mem_nil, or_false] at hx
  rcases hx with rfl | rfl | rfl | rfl | rfl | rfl <;> assumption
theorem x_question (X : XS t L h p) (hp : p ≤ 1)
    (k1 : ∀ p' k s, quP t L p (.inr (p', (k, s))) → 0 ≤ k ∧ k ≤ 5 → ∀ h1, XS t L h1 p' → h1 3 1 = s.length → s.length ≤ 1600 → Lst (h1 4) (s.map Prod.fst) → wff (h1 4) s.length (decide (k ≤ 2)) → QV h h1 → K k h1)
    (k0 : ∀ f, quP t L p (.inl f) → ∀ h1, XB t L h1 f.1 f.2 → QV h h1 → K (-1) h1) : C_X2_question w h K := by
  refine c_X2_question (c_X2_begin ⟨by decide, rfl⟩ (Or.inr rfl) (fun h1 q1 => ⟨by rw [q1, hu_if, if_pos rfl]; exact ⟨by decide, rfl⟩, fun h4 q4 h6 q6 h8 q8 => ?_⟩))
  have e52 : h1 5 2 = 3 := by rw [q1, hu_if, if_pos rfl]
  rw [e52] at q4
  have P8 : QV h h8 := (((QV.up q1 (by omega)).tr (QV.up q4 (by omega))).tr (QV.up q6 (by omega))).tr (QV.up q8 (by omega))
  have r1 : ∀ o : Int, o ≠ 3 → o ≠ 5 → h8 o = h o := fun o n m => by rw [hu_row q8 m, hu_row q6 m, hu_row q4 n, hu_row q1 m]
  have X8 : XS t L h8 p := X.row (kd := 0) (r1 1 (by decide) (by decide)) (r1 2 (by decide) (by decide))
  have G8 : XG t L h8 3 0 1 [] p := by
    refine ⟨X8, ?_, ?_, ?_, ?_, fun k hk => absurd hk (Nat.not_lt_zero _)⟩
    · rw [q8, hu_if, if_neg (by decide), q6, hu_if, if_pos rfl]; rfl
    · rw [q8, hu_if, if_neg (by decide), q6, hu_if, if_neg (by decide), hu_row q4 (by decide)]; exact e52
    · rw [q8, hu_if, if_pos rfl]
    · rw [hu_row q8 (by decide), hu_row q6 (by decide), q4, hu_if, if_pos rfl]; rfl
  have f3 : fOK 3 := Or.inl rfl
  refine x_kind X8 (fun p1 k D1 kb lp h9 F9 X9 => ⟨⟨by omega, by omega⟩, fun c => absurd c (by omega), fun _ => ⟨⟨by omega, by omega⟩, fun c => ?_, fun c => ?_⟩⟩) (fun D1 h9 F9 B9 => ⟨⟨by decide, by decide⟩, fun _ => k0 (1, (sk t L p : Int)) (Or.inl ⟨_, D1, rfl⟩) h9 B9 (P8.tr (QV.tx F9)), fun c => absurd rfl c⟩)
  all_goals
    have G9 := G8.tx f3 F9 X9
    have P9 := P8.tr (QV.tx F9)
  · refine x_sums (w := w) (as := 1) ⟨by decide, by decide⟩ 59 h9 _ 3 [] p1 (by decide) f3 G9 (Nat.zero_le _) (fun p2 s h10 g X10 a1 a2 Pf _ => ⟨fun _ => ?_, fun c2 => absurd (by decide) c2⟩) (fun kd pl h10 g B10 Pf _ => ⟨fun c2 => absurd rfl c2, fun _ => k0 (kd, pl) (Or.inr ⟨p1, k, D1, Or.inl ⟨_, Or.inr ⟨by omega, _, g, rfl⟩, rfl⟩⟩) h10 B10 (P9.tr (QV.pf Pf))⟩)
    have P10 := P9.tr (QV.pf Pf)
    have D2 : pBd t L k p1 (.inr (p2, tk s)) := Or.inr ⟨by omega, _, g, rfl⟩
    refine x_isMore X10.1 (fun nb h11 F11 X11 _ => ⟨fun c2 => absurd c2 (by decide), fun _ => ?_⟩) (fun nb h11 F11 X11 _ => ⟨fun _ => ?_, fun c2 => absurd rfl c2⟩)
    · exact x_failHere X11.1 X11.2.2.2 X11.2.1 (fun h12 F12 B12 _ => k0 (1, (sk t L p2 : Int)) (Or.inr ⟨p1, k, D1, Or.inr ⟨p2, tk s, D2, Or.inr ⟨nb, rfl⟩⟩⟩) h12 B12 ((P10.tr (QV.tx F11)).tr (QV.tx (F12.into (by decide)))))
    · have G11 := X10.tx f3 F11 X11
      have l1 := X10.1.2.2.1
      have l2 := X10.1.1.2.1
      obtain ⟨W, -, -⟩ := g.wff (o := 0) G11.2.2.2.2.2
      refine k1 _ k (tk s) (Or.inr ⟨p1, k, D1, Or.inr ⟨p2, tk s, D2, Or.inl ⟨nb, rfl⟩⟩⟩) kb h11 X11 (by rw [tk_len]; exact G11.2.2.2.2.1) (by rw [tk_len]; omega) (by rw [tk_fst]; exact G11.2.2.2.2.2) ?_ (P10.tr (QV.tx F11))
      rw [tk_len, show decide (k ≤ 2) = false by simp; omega]
      exact W
  · refine x_tests (w := w) (t := t) (L := L) 59 h9 _ 3 [] p1 (by decide) f3 G9 (Nat.zero_le _) (fun p2 s h10 g X10 a1 a2 Pf _ => ⟨fun c2 => absurd c2 (by decide), fun _ => ?_⟩) (fun kd pl h10 g B10 Pf _ => ⟨fun _ => k0 (kd, pl) (Or.inr ⟨p1, k, D1, Or.inl ⟨_, Or.inl ⟨by omega, g⟩, rfl⟩⟩) h10 B10 (P9.tr (QV.pf Pf)), fun c2 => absurd rfl c2⟩)
    have P10 := P9.tr (QV.pf Pf)
    have D2 : pBd t L k p1 (.inr (p2, s)) := Or.inl ⟨by omega, g⟩
    refine x_isMore X10.1 (fun nb h11 F11 X11 _ => ⟨fun c2 => absurd c2 (by decide), fun _ => ?_⟩) (fun nb h11 F11 X11 _ => ⟨fun _ => ?_, fun c2 => absurd rfl c2⟩)
    · exact x_failHere X11.1 X11.2.2.2 X11.2.1 (fun h12 F12 B12 _ => k0 (1, (sk t L p2 : Int)) (Or.inr ⟨p1, k, D1, Or.inr ⟨p2, s, D2, Or.inr ⟨nb, rfl⟩⟩⟩) h12 B12 ((P10.tr (QV.tx F11)).tr (QV.tx (F12.into (by decide)))))
    · have G11 := X10.tx f3 F11 X11
      have l1 := X10.1.2.2.1
      have l2 := X10.1.1.2.1
      obtain ⟨W, -, -⟩ := g.wff G11.2.2.2.2.2
      rw [List.length_map] at W
      refine k1 _ k s (Or.inr ⟨p1, k, D1, Or.inr ⟨p2, s, D2, Or.inl ⟨nb, rfl⟩⟩⟩) kb h11 X11 (by have := G11.2.2.2.2.1; rw [List.nil_append, List.length_map] at this; exact this) (by omega) G11.2.2.2.2.2 ?_ (P10.tr (QV.tx F11))
      rw [show decide (k ≤ 2) = true by simp; omega]
      exact W
/-! the reference -/
theorem QF.rf : QF h h := fun _ _ _ _ _ => rfl
theorem QF.tr (a : QF h h1) (b : QF h1 h2) : QF h h2 := fun o i m1 m2 m3 => (b o i m1 m2 m3).trans (a o i m1 m2 m3)
theorem QF.ty (F : Fr h h1 tyL []) : QF h h1 := (QQ.ty F).f
theorem yk_step {x row : Int} {A B : Hp → Prop} (H : wr x row) (sp : sk t L p = p) (Y : YS t L h p) (k1 : wI t L p x → ∀ h1, Fr h h1 tyL [] → YS t L h1 (p + (slen x).toNat) → A h1) (k0 : ¬ wI t L p x → ∀ h1, Fr h h1 tyL [] → YS t L h1 p → B h1) : C_X12_takes w row h (fun r h3 => (r = 0 ∨ r = 1) → ((r = 0) → B h3) ∧ (¬ (r = 0) → A h3)) := yw_step H sp Y k1 k0
theorem yc_kind {res : PRes Int} (Y : YS t L h p) (D : pKd t L p res) (k1 : ∀ p' k, res = .inr (p', k) → 0 ≤ k ∧ k ≤ 5 → p + 3 ≤ p' → ∀ h1, Fr h h1 tyL [] → YS t L h1 p' → K k h1) (k0 : ∀ f, res = .inl f → ∀ h1, Fr h h1 tyL [] → YB t L h1 f.1 f.2 → K 5 h1) : C_X12_qKind w h K := by
  have n := sk_ge t L p
  obtain ⟨u, hu⟩ : ∃ u, u = sk t L p := ⟨_, rfl⟩
  have su : sk t L u = u := by rw [hu, sk_sk]
  have yes : ∀ x ∈ kdW, wI t L u x.1 → ∀ h1, Fr h h1 tyL [] → YS t L h1 (u + (slen x.1).toNat) → K x.2 h1 := fun x hx W h1 F1 Y1 => by
    have o := kd_ok x hx
    rcases res with f | ⟨p', k⟩
    · exact absurd (by rw [← hu]; exact W) (D.1 x hx)
    · obtain ⟨y, hy, Wy, ek, ep⟩ := D
      rw [← hu] at Wy ep
      have ek : k = y.2 := ek
      have ep : p' = u + (slen y.1).toNat := ep
      have e := kd_x x hx y hy (W.one Wy o.1 (kd_ok y hy).1)
      subst e
      have kk := k1 p' k rfl (by omega) (by omega) h1 F1 (by rw [ep]; exact Y1)
      rw [← ek]; exact kk
  have no : (∀ x ∈ kdW, ¬ wI t L u x.1) → ∀ h1, Fr h h1 tyL [] → YB t L h1 1 u → K 5 h1 := fun n h1 F1 B1 => by
    rcases res with f | ⟨p', k⟩
    · have e : f = (1, (sk t L p : Int)) := D.2
      exact k0 f rfl h1 F1 (by rw [e, ← hu]; exact B1)
    · obtain ⟨y, hy, Wy, -⟩ := D
      exact absurd (by rw [← hu] at Wy; exact Wy) (n y hy)
  refine c_X12_qKind (y_wd wk_26 Y (fun W h1 F1 Y1 _ => ⟨fun c => absurd c (by decide), fun _ => by rw [← hu] at W Y1; exact yes (1026, 0) (by decide) W h1 F1 Y1⟩) (fun n1 h1 F1 Y1 _ => ⟨fun _ => ?_, fun c => absurd rfl c⟩))
  rw [← hu] at n1 Y1
  refine yk_step wk_27 su Y1 (fun W h2 F2 Y2 => yes (1027, 1) (by decide) W h2 (ty2 F1 F2) Y2) (fun n2 h2 F2 Y2 => yk_step wk_28 su Y2 (fun W h3 F3 Y3 => yes (1028, 2) (by decide) W h3 (ty2 (ty2 F1 F2) F3) Y3) (fun n3 h3 F3 Y3 => yk_step wk_29 su Y3 (fun W h4 F4 Y4 => yes (1029, 3) (by decide) W h4 (ty2 (ty2 (ty2 F1 F2) F3) F4) Y4) (fun n4 h4 F4 Y4 => yk_step wk_30 su Y4 (fun W h5 F5 Y5 => yes (1030, 4) (by decide) W h5 (ty2 (ty2 (ty2 (ty2 F1 F2) F3) F4) F5) Y5) (fun n5 h5 F5 Y5 => ?_))))
  have G5 := ty2 (ty2 (ty2 (ty2 F1 F2) F3) F4) F5
  refine y_wdAsks wk_31 Y5 (fun W h6 F6 Y6 => ?_) (fun W h6 F6 B6 => ?_)
  · rw [su] at W Y6
    exact yes (1031, 5) (by decide) W h6 (ty2 G5 F6) Y6
  · rw [su] at W B6
    refine no (fun x hx => ?_) h6 (ty2 G5 F6) B6
    simp only [List.mem_cons, List.not_mem_nil, or_false] at hx
    rcases hx with rfl | rfl | rfl | rfl | rfl | rfl <;> assumption
theorem tq_110 : ∀ n : Nat, ∀ {q C : List Int} {h : Hp}, q.length = n → RT t L a o q C h → C.length + q.length < 1600 → (∀ h1, RT t L a o [] (C ++ q.reverse) h1 → QQ h h1 → K 0 h1) → L_X12_qTest_110 w h K := by
  intro n
  induction n with
  | zero =>
    intro q C h hq R hb k
    obtain rfl := List.eq_nil_of_length_eq_zero hq
    rw [List.reverse_nil, List.append_nil] at k
    have e2 := R.2.2.1
    refine l_X12_qTest_110 ⟨R.1.z.1, fun c => absurd R.1.z.2 c, fun _ => ?_⟩
    rw [e2]
    exact ⟨⟨by simp, by simp⟩, fun _ => k h R QQ.rf, fun c => absurd (by simp) c⟩
  | succ n ih =>
    intro q C h hq R hb k
    rcases List.eq_nil_or_concat q with rfl | ⟨q', y, rfl⟩
    · exact absurd hq (by simp)
    rw [List.concat_eq_append] at *
    rw [List.length_append, List.length_singleton] at hq hb
    have e2 := R.2.2.1
    rw [List.length_append, List.length_singleton] at e2
    refine l_X12_qTest_110 ⟨R.1.z.1, fun c => absurd R.1.z.2 c, fun _ => ?_⟩
    rw [e2]
    exact ⟨⟨by omega, by omega⟩, fun c => absurd c (by omega), fun _ => tq_drops R (by omega) (by omega) (fun h1 R1 S1 => ih (by omega) R1 (by rw [List.length_append, List.length_singleton]; omega) (fun h2 R2 S2 => k h2 (by rw [List.reverse_append, List.reverse_singleton, ← List.append_assoc]; exact R2) (S1.tr S2)))⟩
theorem yc_test {res : RL} (R : RT t L a 0 [] [] h) (hc : 1 ≤ a) (sa : sk t L a = sk t L p) (G : Gt t L 3 0 p res)
    (k1 : ∀ p' s, res = .inr (p', s) → ∀ a' h1, sk t L a' = sk t L p' → RT t L a' 0 [] (s.map Prod.snd) h1 → QF h h1 → K 0 h1)
    (k0 : ∀ f, res = .inl f → ∀ h1, YB t L h1 f.1 f.2 → QF h h1 → K 0 h1) : C_X12_qTest w h K := by
  have H := G (tSM w K t L) tm_ul (by omega)
  have tp : tbT [] := fun V y e => by simp at e
  refine c_X12_qTest ?_
  have hb : ([] : List Int).length + ([] ++ [] : List Int).length + 1 ≤ a := by simpa using hc
  rcases res with f | ⟨p', s⟩
  · exact H a [] [] [] h R hb sa ⟨rfl, tp⟩ (fun h2 B2 S2 => k0 f rfl h2 B2 S2)
  · obtain ⟨N, H⟩ := H
    refine H a [] [] [] h R hb sa ⟨rfl, tp⟩ (fun a' q' C' h' R' b' s' e' eq S' => ?_)
    have l' := R'.le
    dsimp only at s' N eq
    rw [List.nil_append] at R' b'
    have n25 : 25 ∉ q' := fun m => by have := qT.n e' 25 m; omega
    refine tq_tail R' (by omega) (by rw [s']; exact N.1) (by rw [s']; exact N.2) (fun _ => n25) (fun _ h2 R2 S2 _ => ⟨fun _ => l_X12_qTest_2 ⟨⟨by decide, by decide⟩, fun _ => ?_, fun c => absurd rfl c⟩, fun c => absurd rfl c⟩) (fun m => absurd m n25)
    refine tq_110 _ rfl R2 (by omega) (fun h3 R3 S3 => ?_)
    rw [List.reverse_nil, List.append_nil, List.nil_append] at eq
    rw [eq] at R3
    exact k1 p' s rfl (sk t L a') h3 (by rw [sk_sk]; exact s') R3 (S'.tr (S2.tr S3)).f
theorem yc_end {x : Int × List (Int × Int)} {v : Int} {res : PRes (Int × List (Int × Int))} (Y : YS t L h a) (sa : sk t L a = sk t L p) (D : pEd t L x p res) (k1 : ∀ p', res = .inr (p', x) → ∀ h1, Fr h h1 tyL [] → YS t L h1 p' → L_X12_ask_128 w v h1 K) (k0 : ∀ f, res = .inl f → ∀ h1, Fr h h1 tyL [] → YB t L h1 f.1 f.2 → L_X12_ask_128 w v h1 K) : L_X12_ask_104 w v h K := by
  refine l_X12_ask_104 ⟨Y.z.1, fun c => absurd Y.z.2 c, fun _ => Y.look (fun h3 F3' Y3 => ?_)⟩
  have F3 : Fr h h3 tyL [] := F3'.into (by decide)
  have b := byL_q Y3.1 (sk t L a)
  rw [sa] at b Y3 ⊢
  refine ⟨⟨by omega, by omega⟩, fun c => ?_, fun c => ?_⟩
  · rcases D with ⟨-, e⟩ | ⟨n, -⟩
    · exact k1 _ e h3 F3 Y3
    · exact absurd c n
  · rcases D with ⟨n, -⟩ | ⟨-, e⟩
    · exact absurd n c
    · rw [Y3.2.1]
      exact Y3.fail ⟨by decide, by decide⟩ (fun h6 F6 B6 => k0 _ e h6 (ty2 F3 F6) B6)
theorem dd_104 {kd pl v : Int} (B : YB t L h kd pl) (k : L_X12_ask_128 w v h K) : L_X12_ask_104 w v h K := l_X12_ask_104 ⟨B.nz.1, fun _ => k, fun c => absurd B.nz.2 c⟩
theorem yc_question {res : PRes (Int × List (Int × Int))} (R : RT t L 0 0 [] [] h) (D : quP t L 0 res)
    (k1 : ∀ p' k s, res = .inr (p', (k, s)) → 0 ≤ k ∧ k ≤ 5 → ∀ h1, YS t L h1 p' → h1 68 87 = s.length → Lst (h1 133) (s.map Prod.snd) → QF h h1 → L_X12_ask_128 w k h1 K)
    (k0 : ∀ f, res = .inl f → ∀ v h1, YB t L h1 f.1 f.2 → QF h h1 → L_X12_ask_128 w v h1 K) : C_X12_qKind w h (fun r22 h23 => (inR (h23 68 5)) ∧ ((((h23 68 5) ≠ 0) → (L_X12_ask_93 w r22 h23 K)) ∧ (¬ ((h23 68 5) ≠ 0) → ((inR r22) ∧ (((r22 ≥ 3) → (L_X12_ask_93 w r22 h23 K)) ∧ (¬ (r22 ≥ 3) → (C_X12_qTest w h23 (fun _ h28 => L_X12_ask_104 w r22 h28 K)))))))) := by
  rcases D with ⟨f, D1, e⟩ | ⟨p1, k, D1, D⟩
  · refine yc_kind R.1 D1 (fun _ _ e' => nomatch e') (fun f' e' h3 F3 B3 => ?_)
    have e' := Sum.inl.inj e'
    subst e'
    exact ⟨B3.nz.1, fun _ => l_X12_ask_93 ⟨B3.nz.1, fun _ => dd_104 B3 (k0 f e 5 h3 B3 (QF.ty F3)), fun c => absurd B3.nz.2 c⟩, fun c => absurd B3.nz.2 c⟩
  · refine yc_kind R.1 D1 (fun p' k' e' kb lp h3 F3 Y3 => ?_) (fun _ e' => nomatch e')
    have ee := Sum.inr.inj e'
    have ep : p1 = p' := congrArg Prod.fst ee
    have ek : k = k' := congrArg Prod.snd ee
    subst ep; subst ek
    have R3 := R.ty F3 Y3
    have F23 := F3
    refine ⟨Y3.z.1, fun c => absurd Y3.z.2 c, fun _ => ⟨⟨by omega, by omega⟩, fun c => ?_, fun c => ?_⟩⟩
    · refine l_X12_ask_93 ⟨Y3.z.1, fun c => absurd Y3.z.2 c, fun _ => ?_⟩
      rcases D with ⟨f, D2, e⟩ | ⟨p2, s, D2, D3⟩
      · rcases D2 with ⟨n, -⟩ | ⟨-, rs, G, er⟩
        · omega
        rcases rs with f' | y
        · have ef : f = f' := Sum.inl.inj er
          subst ef
          refine yq_sums R3 (by omega) 0 (by show 0 + 0 + 0 + 1 ≤ p1; omega) rfl G (fun _ _ e' => nomatch e') (fun kd pl e' h4 B4 S4 => ?_)
          have e' := Sum.inl.inj e'
          subst e'
          exact dd_104 B4 (k0 _ e k h4 B4 ((QF.ty F23).tr S4.f))
        · exact nomatch er
      · rcases D2 with ⟨n, -⟩ | ⟨-, rs, G, er⟩
        · omega
        rcases rs with f' | ⟨p3, s3⟩
        · exact nomatch er
        have er := Sum.inr.inj er
        have ep : p2 = p3 := congrArg Prod.fst er
        have es : s = tk s3 := congrArg Prod.snd er
        subst ep; subst es
        refine yq_sums R3 (by omega) 0 (by show 0 + 0 + 0 + 1 ≤ p1; omega) rfl G (fun p' s' e' h4 R4 l4 S4 => ?_) (fun _ _ e' => nomatch e')
        have e' := Sum.inr.inj e'
        have ep : p2 = p' := congrArg Prod.fst e'
        have es : s3 = s' := congrArg Prod.snd e'
        subst ep; subst es
        have S := (QF.ty F23).tr S4.f
        rw [List.nil_append] at R4
        refine yc_end R4.1 (sk_sk t L p2) D3 (fun p' e h5 F5 Y5 => ?_) (fun f e h5 F5 B5 => k0 f e k h5 B5 (S.tr (QF.ty F5)))
        have R5 := R4.ty F5 Y5
        exact k1 p' k (tk s3) e kb h5 Y5 (by rw [R5.2.2.2.2.1, List.length_map, tk_len]) (by rw [tk_snd]; exact R5.2.2.2.2.2.2.1) (S.tr (QF.ty F5))
    · rcases D with ⟨f, D2, e⟩ | ⟨p2, s, D2, D3⟩
      · rcases D2 with ⟨-, G⟩ | ⟨n, -⟩
        · refine yc_test R3 (by omega) rfl G (fun _ _ e' => nomatch e') (fun f' e' h4 B4 S4 => ?_)
          have e' := Sum.inl.inj e'
          subst e'
          exact dd_104 B4 (k0 f e k h4 B4 ((QF.ty F23).tr S4))
        · omega
      · rcases D2 with ⟨-, G⟩ | ⟨n, -⟩
        · refine yc_test R3 (by omega) rfl G (fun p' s' e' a' h4 s4 R4 S4 => ?_) (fun _ e' => nomatch e')
          have e' := Sum.inr.inj e'
          have ep : p2 = p' := congrArg Prod.fst e'
          have es : s = s' := congrArg Prod.snd e'
          subst ep; subst es
          have S := (QF.ty F23).tr S4
          refine yc_end R4.1 s4 D3 (fun p' e h5 F5 Y5 => ?_) (fun f e h5 F5 B5 => k0 f e k h5 B5 (S.tr (QF.ty F5)))
          have R5 := R4.ty F5 Y5
          exact k1 p' k s e kb h5 Y5 (by rw [R5.2.2.2.2.1, List.length_map]) R5.2.2.2.2.2.2.1 (S.tr (QF.ty F5))
        · omega
end L5K
