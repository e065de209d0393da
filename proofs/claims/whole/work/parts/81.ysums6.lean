/-! a sum of the reference, from its outside -/
section L3M
variable {w : Wd} {h h0 h1 h2 : Hp} {K : Int → Hp → Prop} {t : Int → Int} {L p c0 a a1 o : Nat} {W C q : List Int} {z : Int}
theorem YB.fr {kd pl : Int} {h' : Hp} {Lc : List (Int × Int)} {R : List Int} (B : YB t L h kd pl) (F : Fr h h' Lc R) (ok : okF Lc R [(68, 3), (68, 2), (68, 5), (68, 6)] [69] = true) : YB t L h' kd pl := by
  obtain ⟨c, q⟩ := F.cell ok
  have c1 := c (68, 3) (by decide)
  have c2 := c (68, 2) (by decide)
  have c3 := c (68, 5) (by decide)
  have c4 := c (68, 6) (by decide)
  dsimp only at c1 c2 c3 c4
  unfold YB TQ at B ⊢
  rw [c1, c2, c3, c4, q 69 (by decide)]
  exact B
theorem y_53 : ∀ n : Nat, ∀ {q C : List Int} {h : Hp}, q.length = n → RC t L c0 a o q C h → c0 + C.length + q.length < 1600 → (∀ h1, RC t L c0 a o [] (C ++ q.reverse) h1 → SQ c0 h h1 → K 0 (hu h1 68 48 0)) → L_X12_sumsTold_53 w 0 h K := by
  intro n
  induction n with
  | zero =>
    intro q C h hq R hb k
    obtain rfl := List.eq_nil_of_length_eq_zero hq
    rw [List.reverse_nil, List.append_nil] at k
    have e46 := R.2.2.1
    have e48 := R.2.2.2.1
    refine l_X12_sumsTold_53 ⟨R.1.z.1, fun c => absurd R.1.z.2 c, fun _ => ?_⟩
    rw [e46, e48]
    exact ⟨⟨by simp, by simp⟩, ⟨by decide, by decide⟩, fun _ h2 q2 => by subst q2; exact k h R SQ.rf, fun c => absurd (by simp) c⟩
  | succ n ih =>
    intro q C h hq R hb k
    rcases List.eq_nil_or_concat q with rfl | ⟨q', y, rfl⟩
    · exact absurd hq (by simp)
    rw [List.concat_eq_append] at *
    have e46 := R.2.2.1
    have e48 := R.2.2.2.1
    rw [List.length_append, List.length_singleton] at hb hq e46
    refine l_X12_sumsTold_53 ⟨R.1.z.1, fun c => absurd R.1.z.2 c, fun _ => ?_⟩
    rw [e46, e48]
    exact ⟨⟨by omega, by omega⟩, ⟨by decide, by decide⟩, fun c => absurd c (by omega), fun _ => y_drops R (by omega) (by omega) (fun h1 R1 S1 => ih (by omega) R1 (by rw [List.length_append, List.length_singleton]; omega) (fun h2 R2 S2 => k h2 (by rw [List.reverse_append, List.reverse_singleton, ← List.append_assoc]; exact R2) (S1.tr S2)))⟩
theorem SQ.cl (e48 : h 68 48 = 0) (q : h1 = hu h 68 48 0) (S : SQ c0 h1 h2) : SQ c0 h (hu h2 68 48 0) := fun o i m1 m2 m3 => by
  by_cases d : o = 68 ∧ i = 48
  · obtain ⟨rfl, rfl⟩ := d
    rw [hu_if, if_pos rfl, e48]
  · have F2 : Fr h2 (hu h2 68 48 0) [(68, 48)] [] := Fr.cel
    have F1 : Fr h h1 [(68, 48)] [] := by rw [q]; exact Fr.cel
    rw [F2 o i List.not_mem_nil (fun x => by simp at x; exact d x), S o i m1 m2 m3, F1 o i List.not_mem_nil (fun x => by simp at x; exact d x)]
theorem y_sums {res : RS} (Y : YS t L h a) (e47 : h 68 47 = 0) (e46 : h 68 46 = 0) (e48 : h 68 48 = 0) (e44 : h 68 44 = c0) (hc : c0 + 1 ≤ a) (sa : sk t L a = sk t L p) (G : Gr t L 0 3 0 p res)
    (k1 : ∀ p' s, res = .inr (p', s) → ∀ h1, YS t L h1 (sk t L p') → h1 68 44 = (c0 + s.length : Nat) → (∀ i : Nat, i < s.length → h1 100 (c0 + i : Nat) = cdI (s.getD i 0)) → c0 + s.length + 1 ≤ sk t L p' → SQ c0 h h1 → K 0 h1)
    (k0 : ∀ kd pl, res = .inl (kd, pl) → ∀ h1, YB t L h1 kd pl → SQ c0 h h1 → K 0 h1) : C_X12_sumsTold w h K := by
  refine c_X12_sumsTold (fun h1 q1 => ?_)
  rw [e46] at q1
  rw [e48]
  have F1 : Fr h h1 [(68, 48)] [] := by rw [q1]; exact Fr.cel
  have e : ∀ o i : Int, ¬ (o = 68 ∧ i = 48) → h1 o i = h o i := fun o i n => F1 o i List.not_mem_nil (fun x => by simp at x; exact n x)
  have R1 : RC t L c0 a 0 ([] ++ []) [] h1 := ⟨Y.fr F1 (by decide), by rw [e _ _ (by decide)]; exact e47, by rw [e _ _ (by decide)]; exact e46, by rw [q1, hu_if, if_pos rfl], by rw [e _ _ (by decide)]; exact e44, fun k hk => absurd hk (Nat.not_lt_zero _), fun k hk => absurd hk (Nat.not_lt_zero _), fun x hx => absurd hx List.not_mem_nil⟩
  have H := G (SM w K t L c0) sm_rul (by omega)
  have tp : tpA [] := fun V y e => by simp at e
  have start : BG w K h1 → L_X12_sumsTold_15 w 0 1 h1 K := fun b => l_X12_sumsTold_15 ⟨⟨by decide, by decide⟩, fun c => absurd c (by decide), fun _ => ⟨R1.1.z.1, fun c => absurd R1.1.z.2 c, fun _ => c_X12_onePart b⟩⟩
  refine start ?_
  rcases res with ⟨kd, pl⟩ | ⟨p', s⟩
  · refine H a [] [] [] h1 R1 (by simpa using hc) sa ⟨rfl, tp⟩ (fun h2 B2 S2 => k0 kd pl rfl _ (B2.fr Fr.cel (by decide)) (S2.cl e48 q1))
  · obtain ⟨N, H⟩ := H
    refine H a [] [] [] h1 R1 (by simpa using hc) sa ⟨rfl, tp⟩ (fun a' q' C' h' R' b' s' e' eq S' => ?_)
    have l' := R'.le
    rw [List.nil_append] at b'
    dsimp only at s' N eq
    refine y_tail R' (by rw [List.nil_append]; omega) (qAl.n e') (Or.inl ⟨rfl, rfl⟩) (by rw [s']; exact N) (fun _ x => by omega) (fun _ h2 R2 S2 _ => ⟨fun _ => l_X12_sumsTold_15 ⟨⟨by decide, by decide⟩, fun _ => ?_, fun c => absurd rfl c⟩, fun c => absurd rfl c⟩) (fun x => by omega) (fun c => absurd rfl c)
    rw [List.nil_append] at R2
    refine y_53 _ rfl R2 (by omega) (fun h3 R3 S3 => ?_)
    rw [List.reverse_nil, List.append_nil, List.nil_append] at eq
    rw [eq] at R3
    have F4 : Fr h3 (hu h3 68 48 0) [(68, 48)] [] := Fr.cel
    have ln : C'.length + q'.length = s.length := by
      have := congrArg List.length eq
      rw [List.length_append, List.length_reverse, List.length_map] at this
      exact this
    refine k1 p' s rfl _ (by rw [← s']; exact R3.1.fr F4 (by decide)) ?_ (fun i hi => ?_) (by rw [← s']; omega) ((S'.tr (S2.tr S3)).cl e48 q1)
    · rw [hu_if, if_neg (by decide), R3.2.2.2.2.1, List.length_map]
    · have A := R3.2.2.2.2.2.2.1 i (by rw [List.length_map]; exact hi)
      rw [hu_row rfl (by decide), show ((c0 + i : Nat) : Int) = (c0 : Int) + i by omega]
      refine A.trans ?_
      simp [List.getElem?_eq_getElem hi]
end L3M
