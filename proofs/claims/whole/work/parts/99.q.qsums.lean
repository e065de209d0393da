/-! a sum of a question, from its outside; what waits of a test is U -/
def RT (t : Int → Int) (L a o : Nat) (U C : List Int) (h : Hp) : Prop := YS t L h a ∧ h 68 90 = o ∧ h 68 89 = U.length ∧ h 68 91 = 0 ∧ h 68 87 = C.length ∧ Lst (h 134) U ∧ Lst (h 133) C ∧ uOK U
section L5E
variable {w : Wd} {h h0 h1 h2 : Hp} {K : Int → Hp → Prop} {t : Int → Int} {L p a a1 o : Nat} {U W C q : List Int} {z : Int}
theorem QQ.cl {v : Int} (e91 : h 68 91 = 0) (q : h1 = hu h 68 91 v) (S : QQ h1 h2) : QQ h (hu h2 68 91 0) := ⟨fun o i m1 m2 m3 => by
  by_cases d : o = 68 ∧ i = 91
  · obtain ⟨rfl, rfl⟩ := d
    rw [hu_if, if_pos rfl, e91]
  · have F2 : Fr h2 (hu h2 68 91 0) [(68, 91)] [] := Fr.cel
    have F1 : Fr h h1 [(68, 91)] [] := by rw [q]; exact Fr.cel
    rw [F2 o i List.not_mem_nil (fun x => by simp at x; exact d x), S.1 o i m1 m2 m3, F1 o i List.not_mem_nil (fun x => by simp at x; exact d x)], fun b => by
  have F1 : Fr h h1 [(68, 91)] [] := by rw [q]; exact Fr.cel
  have F2 : Fr h2 (hu h2 68 91 0) [(68, 91)] [] := Fr.cel
  rw [F2 68 87 List.not_mem_nil (by decide)]
  exact S.2 (by rw [F1 68 87 List.not_mem_nil (by decide)]; exact b)⟩
theorem yq_53 : ∀ n : Nat, ∀ {q C : List Int} {h : Hp}, q.length = n → RQ t L U a o q C h → C.length + (U ++ q).length < 1600 → (∀ h1, RQ t L U a o [] (C ++ q.reverse) h1 → QQ h h1 → K 0 (hu h1 68 91 0)) → L_X12_qSums_53 w 0 h K := by
  intro n
  induction n with
  | zero =>
    intro q C h hq R hb k
    obtain rfl := List.eq_nil_of_length_eq_zero hq
    rw [List.reverse_nil, List.append_nil] at k
    rw [List.append_nil] at hb
    have e2 := R.2.2.1
    rw [List.append_nil] at e2
    have e3 := R.2.2.2.1
    refine l_X12_qSums_53 ⟨R.1.z.1, fun c => absurd R.1.z.2 c, fun _ => ?_⟩
    rw [e2, e3]
    exact ⟨⟨by omega, by omega⟩, ⟨by omega, by omega⟩, fun _ h2 q2 => by subst q2; exact k h R QQ.rf, fun c => absurd (by omega) c⟩
  | succ n ih =>
    intro q C h hq R hb k
    rcases List.eq_nil_or_concat q with rfl | ⟨q', y, rfl⟩
    · exact absurd hq (by simp)
    rw [List.concat_eq_append] at *
    have hB : C.length + (U ++ q').length + 1 < 1600 ∧ (U ++ (q' ++ [y])).length = U.length + q'.length + 1 ∧ (U ++ q').length = U.length + q'.length := by
      rw [List.length_append, List.length_append, List.length_singleton] at hb
      refine ⟨by rw [List.length_append]; omega, by rw [List.length_append, List.length_append, List.length_singleton]; omega, List.length_append ..⟩
    have e2 := R.2.2.1
    have e3 := R.2.2.2.1
    rw [List.length_append, List.length_singleton] at hq
    refine l_X12_qSums_53 ⟨R.1.z.1, fun c => absurd R.1.z.2 c, fun _ => ?_⟩
    rw [e2, e3]
    exact ⟨⟨by omega, by omega⟩, ⟨by omega, by omega⟩, fun c => absurd c (by omega), fun _ => yq_drops R (by omega) (by omega) (fun h1 R1 S1 => ih (by omega) R1 (by rw [List.length_append, List.length_singleton]; omega) (fun h2 R2 S2 => k h2 (by rw [List.reverse_append, List.reverse_singleton, ← List.append_assoc]; exact R2) (S1.tr S2)))⟩
theorem yq_sums {res : RS} (R : RT t L a o U C h) (ho : o ≤ 6) (sl : Nat) (hc : C.length + U.length + sl + 1 ≤ a) (sa : sk t L a = sk t L p) (G : Gr t L 1 3 o p res)
    (k1 : ∀ p' s, res = .inr (p', s) → ∀ h1, RT t L (sk t L p') o U (C ++ s.map cdQ) h1 → C.length + s.length + U.length + sl + 1 ≤ sk t L p' → QQ h h1 → K 0 h1)
    (k0 : ∀ kd pl, res = .inl (kd, pl) → ∀ h1, YB t L h1 kd pl → QQ h h1 → K 0 h1) : C_X12_qSums w h K := by
  obtain ⟨Y, e90, e89, e91, e87, A, B, u⟩ := R
  have hL := Y.2.2.1
  have hL2 := Y.1.2.1
  refine c_X12_qSums (fun h1 q1 => ?_)
  rw [e89] at q1
  rw [e91]
  have F1 : Fr h h1 [(68, 91)] [] := by rw [q1]; exact Fr.cel
  have e : ∀ o i : Int, ¬ (o = 68 ∧ i = 91) → h1 o i = h o i := fun o i n => F1 o i List.not_mem_nil (fun x => by simp at x; exact n x)
  have er : ∀ o : Int, o ≠ 68 → h1 o = h o := fun o n => hu_row q1 n
  have R1 : RQ t L U a o ([] ++ []) C h1 := ⟨Y.fr F1 (by decide), by rw [e _ _ (by decide)]; exact e90, by rw [e _ _ (by decide), e89]; simp, by rw [q1, hu_if, if_pos rfl], by rw [e _ _ (by decide)]; exact e87, by rw [er 134 (by decide)]; simpa using A, by rw [er 133 (by decide)]; exact B, fun x hx => absurd hx List.not_mem_nil, u⟩
  have H := G (qSM w K t L U sl) qm_rul ho
  have tp : tqA [] := fun V y e => by simp at e
  have start : qBG w K h1 → L_X12_qSums_15 w 0 1 h1 K := fun b => l_X12_qSums_15 ⟨⟨by decide, by decide⟩, fun c => absurd c (by decide), fun _ => ⟨R1.1.z.1, fun c => absurd R1.1.z.2 c, fun _ => c_X12_qPartTold b⟩⟩
  refine start ?_
  have hb : C.length + (U ++ ([] ++ [])).length + sl + 1 ≤ a := by simpa using hc
  rcases res with ⟨kd, pl⟩ | ⟨p', s⟩
  · exact H a [] C [] h1 R1 hb sa ⟨rfl, tp⟩ (fun h2 B2 S2 => k0 kd pl rfl _ (B2.fr Fr.cel (by decide)) (S2.cl e91 q1))
  · obtain ⟨N, H⟩ := H
    refine H a [] C [] h1 R1 hb sa ⟨rfl, tp⟩ (fun a' q' C' h' R' b' s' e' eq S' => ?_)
    have l' := R'.le
    dsimp only at s' N eq
    refine yq_tail R' (by omega) (qAl.n e') (Or.inl ⟨rfl, rfl⟩) (by rw [s']; exact N) (fun _ x => by omega) (fun _ h2 R2 S2 _ => ⟨fun _ => l_X12_qSums_15 ⟨⟨by decide, by decide⟩, fun _ => ?_, fun c => absurd rfl c⟩, fun c => absurd rfl c⟩) (fun x => by omega) (fun c => absurd rfl c)
    rw [List.nil_append] at R2 b'
    refine yq_53 _ rfl R2 (by omega) (fun h3 R3 S3 => ?_)
    rw [List.reverse_nil, List.append_nil] at eq
    rw [eq] at R3
    have F4 : Fr h3 (hu h3 68 91 0) [(68, 91)] [] := Fr.cel
    have ln : C'.length + q'.length = C.length + s.length := by
      have := congrArg List.length eq
      simpa using this
    obtain ⟨y1, y2, y3, y4, y5, y6, y7, y8, y9⟩ := R3
    rw [List.append_nil] at y3 y6
    refine k1 p' s rfl _ ⟨by rw [← s']; exact y1.fr F4 (by decide), by rw [hu_if, if_neg (by decide)]; exact y2, by rw [hu_if, if_neg (by decide)]; exact y3, by rw [hu_if, if_pos rfl], by rw [hu_if, if_neg (by decide)]; exact y5, by rw [hu_row rfl (by decide)]; exact y6, by rw [hu_row rfl (by decide)]; exact y7, y9⟩ ?_ ((S'.tr (S2.tr S3)).cl e91 q1)
    rw [List.length_append] at b'
    rw [← s']
    omega
end L5E
