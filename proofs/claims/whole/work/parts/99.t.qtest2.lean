/-! the reference's machine for tests: behind a fact; it does what the grammar tells -/
def qB (q : List Int) : Prop := q = [] ∨ q = [10]
def qT (q : List Int) : Prop := ∃ u v, q = u ++ v ∧ (u = [] ∨ u = [11]) ∧ qB v
def tbB (U : List Int) : Prop := ∀ V y, U = V ++ [y] → y ≠ 10 ∧ y ≠ 12
def tbT (U : List Int) : Prop := ∀ V y, U = V ++ [y] → y ≠ 10 ∧ y ≠ 11 ∧ y ≠ 12
theorem qB.t {q : List Int} (h : qB q) : qT q := ⟨[], q, rfl, Or.inl rfl, h⟩
theorem tbT.b {U : List Int} (h : tbT U) : tbB U := fun V y e => ⟨(h V y e).1, (h V y e).2.2⟩
theorem qT.n {q : List Int} (h : qT q) : ∀ x ∈ q, x = 10 ∨ x = 11 := by
  obtain ⟨u, v, rfl, hu, hv⟩ := h
  intro x hx
  rcases List.mem_append.mp hx with hx | hx
  · rcases hu with rfl | rfl
    · exact absurd hx List.not_mem_nil
    · exact Or.inr (List.mem_singleton.mp hx)
  · rcases hv with rfl | rfl
    · exact absurd hx List.not_mem_nil
    · exact Or.inl (List.mem_singleton.mp hx)
theorem qB.n {q : List Int} (h : qB q) : ∀ x ∈ q, x = 10 ∨ x = 11 := h.t.n
theorem tk_snd (s : List Int) : (tk s).map Prod.snd = s.map cdQ := by
  unfold tk; rw [List.map_map]; rfl
def QF (h h' : Hp) : Prop := ∀ o i : Int, o ≠ 134 → ¬ (o = 68 ∧ (i = 2 ∨ i = 4 ∨ i = 5 ∨ i = 6 ∨ i = 87 ∨ i = 89 ∨ i = 90)) → o ≠ 133 → h' o i = h o i
section L5H
variable {w : Wd} {h h0 h1 h2 : Hp} {K : Int → Hp → Prop} {t : Int → Int} {L p a a1 o : Nat} {U W C q : List Int} {z : Int}
theorem QQ.f (a : QQ h h1) : QF h h1 := a.1
theorem QQ.ft (a : QQ h h1) (b : QF h1 h2) : QF h h2 := fun o i a1 a2 a3 => (b o i a1 a2 a3).trans (a.1 o i a1 a2 a3)
theorem tq_codeB {kd pl v : Int} {n : Nat} (B : YB t L h kd pl) (e : h 68 87 = n) (hc : n < 1700) (k : ∀ h1, YB t L h1 kd pl → QF h h1 → K 0 h1) : C_X12_qCode w v h K := by
  refine c_X12_qCode ?_
  rw [e]
  refine ⟨⟨by omega, by omega⟩, fun h2 q2 h4 q4 => ?_⟩
  have e68 : ∀ i : Int, i ≠ 87 → h4 68 i = h 68 i := fun i n => by rw [q4, hu_if, if_neg n, hu_row q2 (by decide)]
  have er : ∀ o : Int, o ≠ 68 → o ≠ 133 → h4 o = h o := fun o n1 n2 => (hu_row q4 n1).trans (hu_row q2 n2)
  obtain ⟨T, b1, b2, b3, b4, b5, b6⟩ := B
  refine k h4 ⟨?_, by rw [e68 _ (by decide)]; exact b1, by rw [e68 _ (by decide)]; exact b2, b3, b4, by rw [e68 _ (by decide)]; exact b5, by rw [e68 _ (by decide)]; exact b6⟩ (fun o i m1 m2 m3 => ?_)
  · unfold TQ at T ⊢
    rw [e68 _ (by decide), e68 _ (by decide), e68 _ (by decide), er 69 (by decide) (by decide)]; exact T
  · by_cases d : o = 68
    · subst d
      exact e68 i (fun q => m2 ⟨rfl, by omega⟩)
    · rw [er o d m3]
theorem tq_hasSq (R : RT t L a o U C h) (hw : U.length < 1700) (k1 : 25 ∈ U → K 1 h) (k0 : 25 ∉ U → K 0 h) : C_X12_qHasSquare w h K := by
  obtain ⟨Y, e90, e89, e91, e87, A, B, u⟩ := R
  refine c_X12_qHasSquare ?_
  suffices ∀ j n : Nat, n + j = U.length → (∀ i : Nat, i < n → U.getD i 0 ≠ 25) → L_X12_qHasSquare_2 w n h K from this U.length 0 (by omega) (fun i hi => absurd hi (Nat.not_lt_zero _))
  intro j
  induction j with
  | zero =>
    intro n e V
    refine l_X12_qHasSquare_2 ?_
    rw [e89]
    refine ⟨⟨by omega, by omega⟩, ⟨by omega, by omega⟩, fun _ => k0 (fun m => ?_), fun c => absurd (by omega) c⟩
    obtain ⟨i, hi, ei⟩ := List.getElem_of_mem m
    exact V i (by omega) (by rw [List.getD_eq_getElem?_getD, List.getElem?_eq_getElem hi]; exact ei)
  | succ j ih =>
    intro n e V
    have v := A n (by omega)
    have hn : n < U.length := by omega
    have em : U.getD n 0 = U[n] := by rw [List.getD_eq_getElem?_getD, List.getElem?_eq_getElem hn]; rfl
    have bm := u (U.getD n 0) (by rw [em]; exact List.getElem_mem ..)
    refine l_X12_qHasSquare_2 ?_
    rw [e89, v]
    refine ⟨⟨by omega, by omega⟩, ⟨by omega, by omega⟩, fun c => absurd c (by omega), fun _ => ⟨⟨by omega, by omega⟩, ⟨by omega, by omega⟩, fun c => ?_, fun c => k1 ?_⟩⟩
    · exact ih (n + 1) (by omega) (fun i hi => by
        by_cases d : i = n
        · rw [d]; exact c
        · exact V i (by omega))
    · rw [← Decidable.not_not.mp c, em]; exact List.getElem_mem ..
/-- not a closing bracket -/
theorem tq_head0 (R : RT t L a o U C h) (nb : byL t L (sk t L a) ≠ 93) (k : ∀ h1, RT t L (sk t L a) o U C h1 → QQ h h1 → L_X12_qGoesOnTest_76 w h1 (tKG w K)) : tAF w K h := by
  refine l_X12_qGoesOnTest_0 ⟨R.1.z.1, fun c => absurd R.1.z.2 c, fun _ => R.1.look (fun h3 F3' Y3 => ?_)⟩
  have F3 : Fr h h3 tyL [] := F3'.into (by decide)
  have b := byL_q Y3.1 (sk t L a)
  exact ⟨⟨by omega, by omega⟩, fun _ => k h3 (R.ty F3 Y3) (QQ.ty F3), fun c => absurd nb c⟩
/-- no word goes on -/
theorem tq_tail (R : RT t L a o U C h) (hw : U.length < 1700) (na : ¬ wI t L (sk t L a) 1034) (no : ¬ wI t L (sk t L a) 1035) (nc : byL t L (sk t L a) = 93 → 25 ∉ U)
    (k0 : 25 ∉ U → ∀ h1, RT t L (sk t L a) o U C h1 → QQ h h1 → tKG w K 0 h1) (kf : 25 ∈ U → ∀ h1, YB t L h1 1 (sk t L a) → QQ h h1 → tKG w K 0 h1) : tAF w K h := by
  have ss := sk_sk t L a
  have rest : ∀ h1, RT t L (sk t L a) o U C h1 → QQ h h1 → L_X12_qGoesOnTest_76 w h1 (tKG w K) := fun h1 R1 S1 => by
    refine l_X12_qGoesOnTest_76 (yw_step wq_34 ss R1.1 (fun W => absurd W na) (fun _ h2 F2 Y2 => yw_step wq_35 ss Y2 (fun W => absurd W no) (fun _ h3 F3 Y3 => ?_)))
    have R3 := (R1.ty F2 Y2).ty F3 Y3
    have S3 := (S1.tr (QQ.ty F2)).tr (QQ.ty F3)
    refine ⟨R3.1.z.1, fun c => absurd R3.1.z.2 c, fun _ => tq_hasSq R3 hw (fun m _ => ⟨fun c => absurd c (by decide), fun _ => ?_⟩) (fun m _ => ⟨fun _ => l_X12_qGoesOnTest_208 (k0 m h3 R3 S3), fun c => absurd rfl c⟩)⟩
    rw [R3.1.2.1]
    exact R3.1.fail ⟨by decide, by decide⟩ (fun h6 F6 B6 => l_X12_qGoesOnTest_208 (kf m h6 B6 (S3.tr (QQ.ty F6))))
  refine l_X12_qGoesOnTest_0 ⟨R.1.z.1, fun c => absurd R.1.z.2 c, fun _ => R.1.look (fun h3 F3' Y3 => ?_)⟩
  have F3 : Fr h h3 tyL [] := F3'.into (by decide)
  have b := byL_q Y3.1 (sk t L a)
  have R3 := R.ty F3 Y3
  refine ⟨⟨by omega, by omega⟩, fun _ => rest h3 R3 (QQ.ty F3), fun c => ?_⟩
  have n25 := nc (Decidable.not_not.mp c)
  exact tq_hasSq R3 hw (fun m => absurd m n25) (fun _ _ => ⟨fun _ => rest h3 R3 (QQ.ty F3), fun c => absurd rfl c⟩)
theorem tq_33 : ∀ n : Nat, ∀ {q C : List Int} {h : Hp} {J : Int → Hp → Prop}, q.length = n → RT t L a (o + 1) (U ++ [25] ++ q) C h → C.length + (U ++ [25] ++ q).length < 1600 → (∀ x ∈ q, x = 10 ∨ x = 11) → (∀ h1, RT t L a o U (C ++ q.reverse) h1 → QQ h h1 → C_X12_qDropsNots w h1 (fun _ h22 => L_X12_qGoesOnTest_0 w h22 J)) → L_X12_qGoesOnTest_33 w h J := by
  intro n
  induction n with
  | zero =>
    intro q C h J hq R hb nm k
    obtain rfl := List.eq_nil_of_length_eq_zero hq
    rw [List.append_nil] at R hb
    rw [List.reverse_nil, List.append_nil] at k
    rw [List.length_append, List.length_singleton] at hb
    refine l_X12_qGoesOnTest_33 (tq_isOn R ⟨by decide, by decide⟩ (by rw [List.length_append, List.length_singleton]; omega) (fun V e _ => ⟨fun _ h17 q17 h19 q19 => ?_, fun c => absurd (by decide) c⟩) (fun ne => absurd rfl (ne U)))
    obtain ⟨R17, S17, -, -⟩ := R.rq.cut q17
    have F : Fr h17 h19 [(68, 90)] [] := by rw [q19]; exact Fr.cel
    have e : ∀ o i : Int, ¬ (o = 68 ∧ i = 90) → h19 o i = h17 o i := fun o i n => F o i List.not_mem_nil (fun q => by simp at q; omega)
    have er : ∀ o : Int, o ≠ 68 → h19 o = h17 o := fun o n => by funext i; exact e o i (fun q => n q.1)
    obtain ⟨Y, e1, e2, e3, e4, A, B, -, -⟩ := R17
    have R19 : RT t L a o U C h19 := ⟨Y.fr F (by decide), by rw [q19, hu_if, if_pos rfl, e1]; omega, by rw [e _ _ (by decide)]; exact e2, by rw [e _ _ (by decide)]; exact e3, by rw [e _ _ (by decide)]; exact e4, by rw [er 134 (by decide)]; exact A, by rw [er 133 (by decide)]; exact B, R.u.l⟩
    exact k h19 R19 (S17.tr (QQ.of (fun o i m1 m2 m3 => e o i (fun q => m2 ⟨q.1, by omega⟩)) (e _ _ (by decide))))
  | succ n ih =>
    intro q C h J hq R hb nm k
    rcases List.eq_nil_or_concat q with rfl | ⟨q', x, rfl⟩
    · exact absurd hq (by simp)
    rw [List.concat_eq_append] at *
    have hB : C.length + (U ++ [25] ++ q').length + 1 < 1600 ∧ (U ++ [25] ++ q' ++ [x]).length < 1700 := by
      simp only [List.length_append, List.length_singleton] at hb ⊢; omega
    rw [← List.append_assoc] at R
    have nx := nm x (List.mem_append_right _ (List.mem_singleton.mpr rfl))
    rw [List.length_append, List.length_singleton] at hq
    refine l_X12_qGoesOnTest_33 (tq_isOn R ⟨by decide, by decide⟩ hB.2 (fun V e => by have := snoc_in e; omega) (fun _ _ => ⟨fun c => absurd rfl c, fun _ => ?_⟩))
    exact tq_drops R (by omega) (by omega) (fun h1 R1 S1 => ih (by omega) R1 (by rw [List.length_append (as := C), List.length_singleton]; omega) (fun y hy => nm y (List.mem_append_left _ hy)) (fun h2 R2 S2 => k h2 (by rw [List.reverse_append, List.reverse_singleton, ← List.append_assoc]; exact R2) (S1.tr S2)))
/-- a square bracket closes -/
theorem tq_close (R : RT t L a (o + 1) (U ++ [25] ++ q) C h) (hb : C.length + (U ++ [25] ++ q).length < 1600) (nm : ∀ x ∈ q, x = 10 ∨ x = 11) (b : byL t L (sk t L a) = 93) (k : ∀ h1, RT t L (sk t L a + 1) o U (C ++ q.reverse) h1 → QQ h h1 → tEP w K t L h1) : tAF w K h := by
  refine l_X12_qGoesOnTest_0 ⟨R.1.z.1, fun c => absurd R.1.z.2 c, fun _ => R.1.look (fun h3 F3' Y3 => ?_)⟩
  have F3 : Fr h h3 tyL [] := F3'.into (by decide)
  have R3 := R.ty F3 Y3
  have bb := byL_q Y3.1 (sk t L a)
  refine ⟨⟨by omega, by omega⟩, fun c => absurd b c, fun _ => tq_hasSq R3 (by omega) (fun _ _ => ⟨fun c => absurd c (by decide), fun _ h9 q9 => ?_⟩) (fun n => absurd (List.mem_append_left _ (List.mem_append_right _ (List.mem_singleton.mpr rfl))) n)⟩
  obtain ⟨R9, F9⟩ := R3.rq.step b (by decide) ⟨by decide, by decide⟩ q9
  exact tq_33 _ rfl (R9.rt R.u) hb nm (fun h1 R1 S1 => (k h1 R1 (((QQ.ty F3).tr (QQ.ty F9)).tr S1)).af)
theorem tq_push {x : Int} {J : Int → Hp → Prop} (R : RT t L a o U C h) (hw : U.length < 1699) (hx : 10 ≤ x ∧ x ≤ 25 ∧ ¬ (20 ≤ x ∧ x ≤ 24)) (k : ∀ h1, RT t L a o (U ++ [x]) C h1 → QQ h h1 → J 1 h1) : (0 ≤ (h 68 89) ∧ (h 68 89) < 1700) ∧ (∀ h49 : Hp, h49 = hu h 134 (h 68 89) x → ∀ h51 : Hp, h51 = hu h49 68 89 ((h49 68 89) + 1) → J 1 h51) := by
  refine ⟨by rw [R.2.2.1]; exact ⟨by omega, by omega⟩, fun h1 q1 h2 q2 => ?_⟩
  obtain ⟨R2, S2⟩ := R.rq.add ⟨by omega, by omega⟩ q1 q2
  exact k h2 (R2.rt (R.u.snoc hx)) S2
theorem tq_and (R : RT t L a o (U ++ q) C h) (hb : C.length + (U ++ q).length + 1 < 1600) (hq : qB q) (tb : tbB U) (W : wI t L (sk t L a) 1034) (k : ∀ h1, RT t L (sk t L a + 3) o (U ++ [10]) (C ++ q.reverse) h1 → QQ h h1 → tBG w K h1) : tAF w K h := by
  have l34 : (slen 1034).toNat = 3 := by decide +kernel
  have lt := W.lt (wdt_ok 1034 (by decide))
  have hB : C.length + U.length + 1 < 1600 := by rw [List.length_append] at hb; omega
  refine tq_head0 R (by omega) (fun h1 R1 S1 => ?_)
  refine l_X12_qGoesOnTest_76 (yw_step wq_34 (sk_sk t L a) R1.1 (fun _ h2 F2 Y2 => ?_) (fun n => absurd W n))
  rw [l34] at Y2
  have R2 := R1.ty F2 Y2
  have S2 := S1.tr (QQ.ty F2)
  have base : ∀ {C : List Int} {h : Hp}, RT t L (sk t L a + 3) o U C h → (∀ h1, RT t L (sk t L a + 3) o (U ++ [10]) C h1 → QQ h h1 → tBG w K h1) → L_X12_qGoesOnTest_87 w h (tKG w K) := fun {C h} R k =>
    l_X12_qGoesOnTest_87 (tq_isOn R ⟨by decide, by decide⟩ (by omega) (fun V e => absurd rfl (tb V 10 e).1) (fun _ _ => ⟨fun _ => tq_push R (by omega) (by decide) (fun h1 R1 S1 => tBG.of (k h1 R1 S1)), fun c => absurd rfl c⟩))
  rcases hq with rfl | rfl
  · rw [List.append_nil] at R2
    rw [List.reverse_nil, List.append_nil] at k
    exact base R2 (fun h3 R3 S3 => k h3 R3 (S2.tr S3))
  · refine l_X12_qGoesOnTest_87 (tq_isOn R2 ⟨by decide, by decide⟩ (by omega) (fun V e _ => ⟨fun c => absurd c (by decide), fun _ => ?_⟩) (fun n => absurd rfl (n U)))
    exact tq_drops R2 (by omega) (by omega) (fun h3 R3 S3 => base R3 (fun h4 R4 S4 => k h4 R4 (S2.tr (S3.tr S4))))
theorem tq_137 (tb : tbT U) {J : Int → Hp → Prop} : ∀ n : Nat, ∀ {q C : List Int} {h : Hp}, q.length = n → RT t L a o (U ++ q) C h → C.length + (U ++ q).length + 1 < 1600 → (∀ x ∈ q, x = 10 ∨ x = 11) → (∀ h1, RT t L a o (U ++ [11]) (C ++ q.reverse) h1 → QQ h h1 → J 1 h1) → L_X12_qGoesOnTest_137 w h J := by
  intro n
  induction n with
  | zero =>
    intro q C h hq R hb nm k
    obtain rfl := List.eq_nil_of_length_eq_zero hq
    rw [List.append_nil] at R hb
    rw [List.reverse_nil, List.append_nil] at k
    exact l_X12_qGoesOnTest_137 (tq_isOn R ⟨by decide, by decide⟩ (by omega) (fun V e => absurd rfl (tb V 10 e).1) (fun _ _ => ⟨fun c => absurd rfl c, fun _ => tq_isOn R ⟨by decide, by decide⟩ (by omega) (fun V e => absurd rfl (tb V 11 e).2.1) (fun _ _ => ⟨fun _ => tq_push R (by omega) (by decide) k, fun c => absurd rfl c⟩)⟩))
  | succ n ih =>
    intro q C h hq R hb nm k
    rcases List.eq_nil_or_concat q with rfl | ⟨q', x, rfl⟩
    · exact absurd hq (by simp)
    rw [List.concat_eq_append] at *
    have hB : C.length + (U ++ q').length + 2 < 1600 ∧ (U ++ q' ++ [x]).length < 1700 := by
      simp only [List.length_append, List.length_singleton] at hb ⊢; omega
    rw [← List.append_assoc] at R
    have nx := nm x (List.mem_append_right _ (List.mem_singleton.mpr rfl))
    rw [List.length_append, List.length_singleton] at hq
    have go : L_X12_qGoesOnTest_155 w h J := l_X12_qGoesOnTest_155 (tq_drops R (by omega) (by omega) (fun h1 R1 S1 => ih (by omega) R1 (by rw [List.length_append (as := C), List.length_singleton]; omega) (fun y hy => nm y (List.mem_append_left _ hy)) (fun h2 R2 S2 => k h2 (by rw [List.reverse_append, List.reverse_singleton, ← List.append_assoc]; exact R2) (S1.tr S2))))
    refine l_X12_qGoesOnTest_137 (tq_isOn R ⟨by decide, by decide⟩ hB.2 (fun _ _ _ => ⟨fun _ => go, fun c => absurd (by decide) c⟩) (fun n0 _ => ⟨fun c => absurd rfl c, fun _ => tq_isOn R ⟨by decide, by decide⟩ hB.2 (fun _ _ _ => ⟨fun c => absurd c (by decide), fun _ => go⟩) (fun n1 => ?_)⟩))
    exfalso
    rcases nx with rfl | rfl
    · exact n0 _ rfl
    · exact n1 _ rfl
theorem tq_or (R : RT t L a o (U ++ q) C h) (hb : C.length + (U ++ q).length + 1 < 1600) (nm : ∀ x ∈ q, x = 10 ∨ x = 11) (tb : tbT U) (W : wI t L (sk t L a) 1035) (k : ∀ h1, RT t L (sk t L a + 2) o (U ++ [11]) (C ++ q.reverse) h1 → QQ h h1 → tBG w K h1) : tAF w K h := by
  have l35 : (slen 1035).toNat = 2 := by decide +kernel
  have lt := W.lt (wdt_ok 1035 (by decide))
  refine tq_head0 R (by omega) (fun h1 R1 S1 => ?_)
  refine l_X12_qGoesOnTest_76 (yw_step wq_34 (sk_sk t L a) R1.1 (fun W2 => absurd (W.eqt W2 (by decide) (by decide)) (by decide)) (fun _ h2 F2 Y2 => yw_step wq_35 (sk_sk t L a) Y2 (fun _ h3 F3 Y3 => ?_) (fun n => absurd W n)))
  rw [l35] at Y3
  have R3 := (R1.ty F2 Y2).ty F3 Y3
  exact tq_137 tb _ rfl R3 hb nm (fun h4 R4 S4 => tBG.of (k h4 R4 (((S1.tr (QQ.ty F2)).tr (QQ.ty F3)).tr S4)))
end L5H
section L5I
variable (w : Wd) (K : Int → Hp → Prop) (t : Int → Int) (L : Nat)
def tqS : Nat → List Int → List Int → Prop
  | 0, _, q => q = []
  | 1, U, q => q = [] ∧ tbB U
  | 2, U, q => qB q ∧ tbB U
  | 3, U, q => q = [] ∧ tbT U
  | _, U, q => qT q ∧ tbT U
def tqE : Nat → List Int → Prop
  | 0, q => q = []
  | 1, q => qB q
  | 2, q => qB q
  | _, q => qT q
def tnop : Nat → Nat → Nat → Prop
  | 0, _, _ => True
  | 1, _, p' => ¬ wI t L (sk t L p') 1034
  | 2, _, p' => ¬ wI t L (sk t L p') 1034
  | 3, _, p' => ¬ wI t L (sk t L p') 1034 ∧ ¬ wI t L (sk t L p') 1035
  | _, p, p' => ¬ wI t L (sk t L p') 1035 ∧ (¬ wI t L (sk t L p) 1034 → ¬ wI t L (sk t L p') 1034)
def tST : Nat → Hp → Prop
  | 2, h => tAF w K h
  | 4, h => tAF w K h
  | _, h => tBG w K h
def tFN : Nat → Hp → Prop
  | 0, h => tEP w K t L h
  | _, h => tAF w K h
def tSI (m o p : Nat) (f : Int × Int) : Prop := ∀ (a : Nat) (U C q : List Int) (h : Hp), RT t L a o (U ++ q) C h → C.length + (U ++ q).length + 1 ≤ a → sk t L a = sk t L p → tqS m U q → (∀ h', YB t L h' f.1 f.2 → QF h h' → K 0 h') → tST w K m h
def tSO (m o p : Nat) (r : Nat × List (Int × Int)) : Prop := tnop t L m p r.1 ∧ ∀ (a : Nat) (U C q : List Int) (h : Hp), RT t L a o (U ++ q) C h → C.length + (U ++ q).length + 1 ≤ a → sk t L a = sk t L p → tqS m U q → (∀ (a' : Nat) (q' C' : List Int) (h' : Hp), RT t L a' o (U ++ q') C' h' → C'.length + (U ++ q').length + 1 ≤ a' → sk t L a' = sk t L r.1 → tqE m q' → C' ++ q'.reverse = C ++ q.reverse ++ r.2.map Prod.snd → QQ h h' → tFN w K t L m h') → tST w K m h
def tSM (m o p : Nat) (res : RL) : Prop := o ≤ 6 → Sum.elim (tSI w K t L m o p) (tSO w K t L m o p) res
variable {w K t L}
theorem tm_F : TuF t L (tSM w K t L) := by
  refine ⟨fun o p W o6 ho a U C q h R b s e k => ?_, fun o p f W lo H ho a U C q h R b s e k => ?_, fun o p p1 s1 W lo H ho => ⟨trivial, fun a U C q h R b s e k => ?_⟩⟩
  all_goals
    obtain rfl : q = [] := e
    rw [List.append_nil] at R b
    have l := R.le
    show tBG w K h
    rw [← s] at W
    have b1 : C.length + (U ++ [12] ++ []).length + 1 ≤ sk t L a + 3 := by
      simp only [List.length_append, List.length_singleton, List.length_nil]; omega
  · exact tq_not R ho (by omega) W (fun lo => absurd lo (by omega)) (fun _ h1 B1 S1 => k h1 (by rw [← s]; exact B1) S1.f)
  · refine tq_not R ho (by omega) W (fun _ h1 R1 S1 => ?_) (fun c => absurd lo (by omega))
    exact H (by omega) (sk t L a + 3) (U ++ [12]) C [] h1 (by rw [List.append_nil]; exact R1) b1 (by rw [s]) rfl (fun h2 B2 S2 => k h2 B2 (S1.ft S2))
  · refine tq_not R ho (by omega) W (fun _ h1 R1 S1 => ?_) (fun c => absurd lo (by omega))
    refine (H (by omega)).2 (sk t L a + 3) (U ++ [12]) C [] h1 (by rw [List.append_nil]; exact R1) b1 (by rw [s]) rfl (fun a2 q2 C2 h2 R2 b2 s2' e2 eq2 S2 => ?_)
    obtain rfl : q2 = [] := e2
    have l2 := R2.le
    rw [List.append_nil] at R2 b2
    rw [List.length_append, List.length_singleton] at b2
    show tEP w K t L h2
    refine tEP.of R2 (by omega) (by omega) (fun h3 R3 S3 => k a2 [] _ h3 (by rw [List.append_nil]; exact R3) (by simp only [List.length_append, List.length_singleton, List.length_nil]; omega) s2' rfl ?_ (S1.tr (S2.tr S3)))
    rw [List.reverse_nil, List.append_nil, List.append_nil] at eq2
    rw [eq2]; simp
theorem tm_B : TuB t L (tSM w K t L) := by
  have tp : ∀ (U : List Int), tbT (U ++ [25]) := fun U V y e => by rw [← snoc_in e]; decide
  refine ⟨fun o p b4 o6 ho a U C q h R b s e k => ?_, fun o p f b4 lo H ho a U C q h R b s e k => ?_, fun o p p1 s1 b4 lo H nb ho a U C q h R b s e k => ?_, fun o p p1 s1 b4 lo H b5 ho => ⟨trivial, fun a U C q h R b s e k => ?_⟩⟩
  all_goals
    obtain rfl : q = [] := e
    rw [List.append_nil] at R b
    have l := R.le
    show tBG w K h
    rw [← s] at b4
    have b1 : C.length + (U ++ [25] ++ []).length + 1 ≤ sk t L a + 1 := by
      simp only [List.length_append, List.length_singleton, List.length_nil]; omega
  · exact tq_square R ho (by omega) b4 (fun lo => absurd lo (by omega)) (fun _ h1 B1 S1 => k h1 (by rw [← s]; exact B1) S1.f)
  · refine tq_square R ho (by omega) b4 (fun _ h1 R1 S1 => ?_) (fun c => absurd lo (by omega))
    exact H (by omega) (sk t L a + 1) (U ++ [25]) C [] h1 (by rw [List.append_nil]; exact R1) b1 (by rw [s]) ⟨rfl, tp U⟩ (fun h2 B2 S2 => k h2 B2 (S1.ft S2))
  · refine tq_square R ho (by omega) b4 (fun _ h1 R1 S1 => ?_) (fun c => absurd lo (by omega))
    refine (H (by omega)).2 (sk t L a + 1) (U ++ [25]) C [] h1 (by rw [List.append_nil]; exact R1) b1 (by rw [s]) ⟨rfl, tp U⟩ (fun a2 q2 C2 h2 R2 b2 s2' e2 eq2 S2 => ?_)
    have N := (H (by omega)).1
    have l2 := R2.le
    dsimp only at s2' N
    rw [← s2'] at nb k
    exact tq_tail R2 (by omega) (by rw [s2']; exact N.1) (by rw [s2']; exact N.2) (fun c => absurd c nb) (fun n => absurd (List.mem_append_left _ (List.mem_append_right _ (List.mem_singleton.mpr rfl))) n) (fun _ h3 B3 S3 => dt_KG B3 (k h3 B3 (S1.tr (S2.tr S3)).f))
  · refine tq_square R ho (by omega) b4 (fun _ h1 R1 S1 => ?_) (fun c => absurd lo (by omega))
    refine (H (by omega)).2 (sk t L a + 1) (U ++ [25]) C [] h1 (by rw [List.append_nil]; exact R1) b1 (by rw [s]) ⟨rfl, tp U⟩ (fun a2 q2 C2 h2 R2 b2 s2' e2 eq2 S2 => ?_)
    have l2 := R2.le
    dsimp only at s2'
    rw [← s2'] at b5
    refine tq_close R2 (by omega) (qT.n e2) b5 (fun h3 R3 S3 => k _ [] _ h3 (by rw [List.append_nil]; exact R3) ?_ (by rw [s2']) rfl ?_ (S1.tr (S2.tr S3)))
    · simp only [List.length_append, List.length_singleton, List.length_nil, List.length_reverse] at b2 ⊢
      omega
    · rw [List.reverse_nil, List.append_nil] at eq2
      rw [eq2]; simp
theorem tm_S : TuS t L (tSM w K t L) := by
  refine ⟨fun o p W ho => ⟨trivial, fun a U C q h R b s e k => ?_⟩, fun o p f nb G ho a U C q h R b s e k => ?_, fun o p p1 s1 nb G nn ho a U C q h R b s e k => ?_, fun o p p1 s1 x f nb G hx bx G2 ho a U C q h R b s e k => ?_, fun o p p1 s1 x p2 s2 nb G hx bx G2 ho => ⟨trivial, fun a U C q h R b s e k => ?_⟩⟩
  all_goals
    obtain rfl : q = [] := e
    rw [List.append_nil] at R b
    have l := R.le
    have ss := sk_sk t L a
    show tBG w K h
  · rw [← s] at W
    have lt := W.lt (wdt_ok 1033 (by decide))
    refine tq_bgn R (fun c => absurd c (by omega)) (fun _ W2 => absurd (W.eqt W2 (by decide) (by decide)) (by decide)) (fun _ _ h1 R1 S1 => ?_)
    refine tq_all R1 ss W (by omega) (fun h2 R2 S2 => tEP.kd (k _ [] _ h2 (by rw [List.append_nil]; exact R2) (by simp only [List.length_append, List.length_singleton, List.length_nil]; omega) (by rw [s]) rfl (by simp) (S1.tr S2)))
  all_goals
    obtain ⟨nb1, nb2, nb3⟩ := nb
    rw [← s] at nb1 nb2 nb3
    refine tq_bgn R (fun c => absurd c nb2) (fun _ W2 => absurd W2 nb1) (fun _ _ h1 R1 S1 => ?_)
    have sa : sk t L (sk t L a) = sk t L (sk t L p) := by rw [ss, sk_sk, s]
  · exact tq_fact0 R1 ho ss nb3 (by omega) sa G (fun h2 B2 S2 => c_X12_qDropsNots (dt_EP B2 (dt_KD B2 (k h2 B2 (S1.tr S2).f))))
  · exact tq_fact1 R1 ho ss nb3 (by omega) sa G (fun _ h2 B2 S2 => c_X12_qDropsNots (dt_EP B2 (dt_KD B2 (k h2 B2 (S1.tr S2).f)))) (fun x hx bx => absurd bx (nn x hx))
  · have xo : ∀ y ∈ cmW, byL t L (sk t L p1) = y.1 → y = x := fun y hy by' => by
      have : ∀ u ∈ cmW, ∀ v ∈ cmW, u.1 = v.1 → u = v := by decide
      exact this y hy x hx (by rw [← by', ← bx])
    refine tq_fact1 R1 ho ss nb3 (by omega) sa G (fun nn => absurd bx (nn x hx)) (fun y hy by' h2 R2 S2 l2 => ?_)
    have ey := xo y hy by'
    subst ey
    refine yq_sums R2 ho 1 (by rw [List.length_append, List.length_map]; omega) rfl G2 (fun _ _ e => nomatch e) (fun kd pl e h3 B3 S3 => ?_)
    have e := Sum.inl.inj e
    subst e
    have l3 := R2.le
    have b3 := R2.b (by rw [List.length_append, List.length_map]; omega) S3
    exact tq_codeB (n := (h3 68 87).toNat) B3 (by omega) (by omega) (fun h4 B4 S4 => c_X12_qDropsNots (dt_EP B4 (dt_KD B4 (k h4 B4 ((S1.tr (S2.tr S3)).ft S4)))))
  · have xo : ∀ y ∈ cmW, byL t L (sk t L p1) = y.1 → y = x := fun y hy by' => by
      have : ∀ u ∈ cmW, ∀ v ∈ cmW, u.1 = v.1 → u = v := by decide
      exact this y hy x hx (by rw [← by', ← bx])
    refine tq_fact1 R1 ho ss nb3 (by omega) sa G (fun nn => absurd bx (nn x hx)) (fun y hy by' h2 R2 S2 l2 => ?_)
    have ey := xo y hy by'
    subst ey
    refine yq_sums R2 ho 1 (by rw [List.length_append, List.length_map]; omega) rfl G2 (fun p3 s3 e h3 R3 l3 S3 => ?_) (fun _ _ e => nomatch e)
    have e := Sum.inr.inj e
    have ep : p2 = p3 := congrArg Prod.fst e
    have es : s2 = s3 := congrArg Prod.snd e
    subst ep; subst es
    have l4 := R3.le
    rw [List.length_append, List.length_map] at l3
    refine tq_code R3 (by simp only [List.length_append, List.length_map]; omega) (fun h4 R4 S4 => tEP.kd (k _ [] _ h4 (by rw [List.append_nil]; exact R4) (by simp only [List.length_append, List.length_map, List.length_singleton, List.length_nil]; omega) (sk_sk ..) rfl ?_ (S1.tr (S2.tr (S3.tr S4)))))
    rw [List.reverse_nil, List.append_nil, List.append_nil, List.map_append, List.map_append, tk_snd, tk_snd]
    simp
theorem ttopE {a o : Nat} {U C q : List Int} {h : Hp} (e1 : q = []) (R : RT t L a o (U ++ q) C h) (b : C.length + (U ++ q).length + 1 ≤ a) (tp : ∀ V, U ≠ V ++ [12]) (k : tAF w K h) : tEP w K t L h := by
  have l := R.le
  subst e1
  rw [List.append_nil] at R b
  exact tEP.top R (by omega) tp k
theorem tm_J1 : TuJ t L (tSM w K t L) 0 1 2 1034 (-10, 10) := by
  have l34 : (slen 1034).toNat = 3 := by decide +kernel
  have tpx : ∀ (U V : List Int), U ++ [10] ≠ V ++ [12] := fun U V e => absurd (snoc_in e) (by decide)
  have tpb : ∀ {U : List Int}, tbB U → ∀ V, U ≠ V ++ [12] := fun tb V e => (tb V 12 e).2 rfl
  refine ⟨fun o p f H ho a U C q h R b s e k => H ho a U C q h R b s e.1 k, fun o p p1 s1 f H1 H2 ho a U C q h R b s e k => ?_, fun o p p1 s1 p2 s2 H1 H2 ho => ⟨(H2 ho).1, fun a U C q h R b s e k => ?_⟩, fun o p nx ho => ⟨?_, fun a U C q h R b s e k => ?_⟩, fun o p f W H ho a U C q h R b s e k => ?_, fun o p p1 s1 f W H1 H2 ho a U C q h R b s e k => ?_, fun o p p1 s1 p2 s2 W H1 H2 ho => ⟨(H2 ho).1, fun a U C q h R b s e k => ?_⟩⟩
  · exact (H1 ho).2 a U C q h R b s e.1 (fun a1 q1 C1 h1 R1 b1 s1' e1 eq1 S1 => ttopE e1 R1 b1 (tpb e.2) (H2 ho a1 U C1 q1 h1 R1 b1 s1' ⟨Or.inl e1, e.2⟩ (fun h2 B2 S2 => k h2 B2 (S1.ft S2))))
  · exact (H1 ho).2 a U C q h R b s e.1 (fun a1 q1 C1 h1 R1 b1 s1' e1 eq1 S1 => ttopE e1 R1 b1 (tpb e.2) ((H2 ho).2 a1 U C1 q1 h1 R1 b1 s1' ⟨Or.inl e1, e.2⟩ (fun a2 q2 C2 h2 R2 b2 s2' e2 eq2 S2 => k a2 q2 C2 h2 R2 b2 s2' e2 (by rw [eq2, eq1]; simp) (S1.tr S2))))
  · show ¬ wI t L (sk t L (sk t L p)) 1034
    rw [sk_sk]; exact nx
  · exact k a q C h R b (by dsimp only; rw [sk_sk]; exact s) e.1 (by simp) QQ.rf
  all_goals
    have l := R.le
    rw [← s] at W
    have lt := W.1
    rw [l34] at *
    show tAF w K h
    refine tq_and R (by omega) e.1 e.2 W (fun h1 R1 S1 => ?_)
    have b1 : (C ++ q.reverse).length + (U ++ [10] ++ []).length + 1 ≤ sk t L a + 3 := by
      simp only [List.length_append, List.length_singleton, List.length_nil, List.length_reverse] at b ⊢
      omega
  · exact H ho (sk t L a + 3) (U ++ [10]) _ [] h1 (by rw [List.append_nil]; exact R1) b1 (by rw [s]) rfl (fun h2 B2 S2 => k h2 B2 (S1.ft S2))
  · refine (H1 ho).2 (sk t L a + 3) (U ++ [10]) _ [] h1 (by rw [List.append_nil]; exact R1) b1 (by rw [s]) rfl (fun a2 q2 C2 h2 R2 b2 s2' e2 eq2 S2 => ?_)
    refine ttopE e2 R2 b2 (tpx U) ?_
    obtain rfl : q2 = [] := e2
    rw [List.append_nil] at R2 b2
    exact H2 ho a2 U C2 [10] h2 R2 b2 s2' ⟨Or.inr rfl, e.2⟩ (fun h3 B3 S3 => k h3 B3 (S1.ft (S2.ft S3)))
  · refine (H1 ho).2 (sk t L a + 3) (U ++ [10]) _ [] h1 (by rw [List.append_nil]; exact R1) b1 (by rw [s]) rfl (fun a2 q2 C2 h2 R2 b2 s2' e2 eq2 S2 => ?_)
    refine ttopE e2 R2 b2 (tpx U) ?_
    obtain rfl : q2 = [] := e2
    rw [List.append_nil] at R2 b2
    refine (H2 ho).2 a2 U C2 [10] h2 R2 b2 s2' ⟨Or.inr rfl, e.2⟩ (fun a3 q3 C3 h3 R3 b3 s3' e3 eq3 S3 => k a3 q3 C3 h3 R3 b3 s3' e3 ?_ (S1.tr (S2.tr S3)))
    rw [List.reverse_nil, List.append_nil, List.append_nil] at eq2
    rw [eq3, eq2]; simp
theorem tm_J2 : TuJ t L (tSM w K t L) 1 3 4 1035 (-11, 11) := by
  have l35 : (slen 1035).toNat = 2 := by decide +kernel
  have tp : ∀ (U : List Int), tbB (U ++ [11]) := fun U V y e => by rw [← snoc_in e]; decide
  have qx : ∀ {q1 : List Int}, qB q1 → qT ([11] ++ q1) := fun {q1} h1 => ⟨[11], q1, rfl, Or.inr rfl, h1⟩
  refine ⟨fun o p f H ho a U C q h R b s e k => H ho a U C q h R b s ⟨e.1, e.2.b⟩ k, fun o p p1 s1 f H1 H2 ho a U C q h R b s e k => ?_, fun o p p1 s1 p2 s2 H1 H2 ho => ⟨?_, fun a U C q h R b s e k => ?_⟩, fun o p nx ho => ⟨?_, fun a U C q h R b s e k => ?_⟩, fun o p f W H ho a U C q h R b s e k => ?_, fun o p p1 s1 f W H1 H2 ho a U C q h R b s e k => ?_, fun o p p1 s1 p2 s2 W H1 H2 ho => ⟨?_, fun a U C q h R b s e k => ?_⟩⟩
  · exact (H1 ho).2 a U C q h R b s ⟨e.1, e.2.b⟩ (fun a1 q1 C1 h1 R1 b1 s1' e1 eq1 S1 => H2 ho a1 U C1 q1 h1 R1 b1 s1' ⟨qB.t e1, e.2⟩ (fun h2 B2 S2 => k h2 B2 (S1.ft S2)))
  · have N1 := (H1 ho).1
    have N2 := (H2 ho).1
    exact ⟨N2.2 N1, N2.1⟩
  · exact (H1 ho).2 a U C q h R b s ⟨e.1, e.2.b⟩ (fun a1 q1 C1 h1 R1 b1 s1' e1 eq1 S1 => (H2 ho).2 a1 U C1 q1 h1 R1 b1 s1' ⟨qB.t e1, e.2⟩ (fun a2 q2 C2 h2 R2 b2 s2' e2 eq2 S2 => k a2 q2 C2 h2 R2 b2 s2' e2 (by rw [eq2, eq1]; simp) (S1.tr S2)))
  · show ¬ wI t L (sk t L (sk t L p)) 1035 ∧ (¬ wI t L (sk t L p) 1034 → ¬ wI t L (sk t L (sk t L p)) 1034)
    rw [sk_sk]; exact ⟨nx, fun c => c⟩
  · exact k a q C h R b (by dsimp only; rw [sk_sk]; exact s) e.1 (by simp) QQ.rf
  · have l := R.le
    rw [← s] at W
    have lt := W.1
    rw [l35] at *
    show tAF w K h
    refine tq_or R (by omega) e.1.n e.2 W (fun h1 R1 S1 => ?_)
    have b1 : (C ++ q.reverse).length + (U ++ [11] ++ []).length + 1 ≤ sk t L a + 2 := by
      simp only [List.length_append, List.length_singleton, List.length_nil, List.length_reverse] at b ⊢
      omega
    exact H ho (sk t L a + 2) (U ++ [11]) _ [] h1 (by rw [List.append_nil]; exact R1) b1 (by rw [s]) ⟨rfl, tp U⟩ (fun h2 B2 S2 => k h2 B2 (S1.ft S2))
  · have l := R.le
    rw [← s] at W
    have lt := W.1
    rw [l35] at *
    show tAF w K h
    refine tq_or R (by omega) e.1.n e.2 W (fun h1 R1 S1 => ?_)
    have b1 : (C ++ q.reverse).length + (U ++ [11] ++ []).length + 1 ≤ sk t L a + 2 := by
      simp only [List.length_append, List.length_singleton, List.length_nil, List.length_reverse] at b ⊢
      omega
    refine (H1 ho).2 (sk t L a + 2) (U ++ [11]) _ [] h1 (by rw [List.append_nil]; exact R1) b1 (by rw [s]) ⟨rfl, tp U⟩ (fun a2 q2 C2 h2 R2 b2 s2' e2 eq2 S2 => ?_)
    rw [List.append_assoc] at R2 b2
    exact H2 ho a2 U C2 ([11] ++ q2) h2 R2 b2 s2' ⟨qx e2, e.2⟩ (fun h3 B3 S3 => k h3 B3 (S1.ft (S2.ft S3)))
  · have N1 := (H1 ho).1
    have N2 := (H2 ho).1
    exact ⟨N2.1, fun _ => N2.2 N1⟩
  · have l := R.le
    rw [← s] at W
    have lt := W.1
    rw [l35] at *
    show tAF w K h
    refine tq_or R (by omega) e.1.n e.2 W (fun h1 R1 S1 => ?_)
    have b1 : (C ++ q.reverse).length + (U ++ [11] ++ []).length + 1 ≤ sk t L a + 2 := by
      simp only [List.length_append, List.length_singleton, List.length_nil, List.length_reverse] at b ⊢
      omega
    refine (H1 ho).2 (sk t L a + 2) (U ++ [11]) _ [] h1 (by rw [List.append_nil]; exact R1) b1 (by rw [s]) ⟨rfl, tp U⟩ (fun a2 q2 C2 h2 R2 b2 s2' e2 eq2 S2 => ?_)
    rw [List.append_assoc] at R2 b2
    refine (H2 ho).2 a2 U C2 ([11] ++ q2) h2 R2 b2 s2' ⟨qx e2, e.2⟩ (fun a3 q3 C3 h3 R3 b3 s3' e3 eq3 S3 => k a3 q3 C3 h3 R3 b3 s3' e3 ?_ (S1.tr (S2.tr S3)))
    rw [List.reverse_nil, List.append_nil] at eq2
    rw [eq3, List.reverse_append, List.reverse_singleton, ← List.append_assoc, eq2]; simp
theorem tm_ul : Tul t L (tSM w K t L) := ⟨tm_F, tm_B, tm_S, tm_J1, tm_J2⟩
end L5I
