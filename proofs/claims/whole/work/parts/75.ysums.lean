/-! the reference's machine for sums: what waits, what is told -/
theorem Lst.pop {f : Int → Int} {l : List Int} {x : Int} (A : Lst f (l ++ [x])) : Lst f l ∧ f (l.length : Nat) = x := by
  refine ⟨fun k hk => ?_, ?_⟩
  · rw [A k (by rw [List.length_append]; omega)]
    simp [List.getElem?_append_left (show k < l.length by omega)]
  · rw [A l.length (by rw [List.length_append, List.length_singleton]; omega)]
    simp
theorem Lst.cg {f f' : Int → Int} {l : List Int} (A : Lst f l) (e : ∀ k : Nat, k < l.length → f' k = f k) : Lst f' l := fun k hk => (e k hk).trans (A k hk)
def RC (t : Int → Int) (L c0 a o : Nat) (W C : List Int) (h : Hp) : Prop := YS t L h a ∧ h 68 47 = o ∧ h 68 46 = W.length ∧ h 68 48 = 0 ∧ h 68 44 = (c0 + C.length : Nat) ∧ Lst (h 101) W ∧ Lst (fun i => h 100 (c0 + i)) C ∧ ∀ x ∈ W, 1 ≤ x ∧ x ≤ 24
def SQ (c0 : Nat) (h h' : Hp) : Prop := ∀ o i : Int, o ≠ 101 → ¬ (o = 68 ∧ (i = 2 ∨ i = 4 ∨ i = 5 ∨ i = 6 ∨ i = 44 ∨ i = 46 ∨ i = 47)) → ¬ (o = 100 ∧ c0 ≤ i ∧ i < 1600) → h' o i = h o i
theorem SQ.rf {c0 : Nat} {h : Hp} : SQ c0 h h := fun _ _ _ _ _ => rfl
theorem SQ.tr {c0 : Nat} {h h1 h2 : Hp} (a : SQ c0 h h1) (b : SQ c0 h1 h2) : SQ c0 h h2 := fun o i a1 a2 a3 => (b o i a1 a2 a3).trans (a o i a1 a2 a3)
theorem SQ.ty {c0 : Nat} {h h1 : Hp} (F : Fr h h1 tyL []) : SQ c0 h h1 := fun o i a1 a2 a3 => F o i List.not_mem_nil (fun q => by simp at q; omega)
section L3F
variable {w : Wd} {h h0 h1 h2 : Hp} {K : Int → Hp → Prop} {t : Int → Int} {L p c0 a a1 o : Nat} {W C : List Int}
theorem RC.ty (R : RC t L c0 a o W C h) (F : Fr h h1 tyL []) (Y : YS t L h1 a1) : RC t L c0 a1 o W C h1 := by
  obtain ⟨-, e1, e2, e3, e4, A, B, b⟩ := R
  have e : ∀ o i : Int, (o = 68 → i ≠ 2 ∧ i ≠ 4 ∧ i ≠ 5 ∧ i ≠ 6) → h1 o i = h o i := fun o i n => F o i List.not_mem_nil (fun q => by simp at q; omega)
  have r : ∀ o : Int, o ≠ 68 → h1 o = h o := fun o n => by funext i; exact e o i (fun q => absurd q n)
  exact ⟨Y, by rw [e _ _ (by decide)]; exact e1, by rw [e _ _ (by decide)]; exact e2, by rw [e _ _ (by decide)]; exact e3, by rw [e _ _ (by decide)]; exact e4, by rw [r 101 (by decide)]; exact A, by rw [r 100 (by decide)]; exact B, b⟩
/-- one code is told -/
theorem y_code {v : Int} (R : RC t L c0 a o W C h) (hb : c0 + C.length < 1600) (k : ∀ h1, RC t L c0 a o W (C ++ [v]) h1 → SQ c0 h h1 → K 0 h1) : C_X12_code w v h K := by
  obtain ⟨Y, e1, e2, e3, e4, A, B, b⟩ := R
  refine c_X12_code ?_
  rw [e4]
  refine ⟨⟨by omega, by omega⟩, fun h2 q2 h4 q4 => ?_⟩
  have e68 : ∀ i : Int, h4 68 i = if i = 44 then ((c0 + C.length + 1 : Nat) : Int) else h 68 i := fun i => by
    rw [q4, hu_if, q2, hu_row rfl (by decide), e4]
    split <;> first | omega | (rw [hu_row rfl (by decide)])
  have e100 : ∀ i : Int, h4 100 i = if i = (c0 + C.length : Nat) then v else h 100 i := fun i => by
    rw [q4, hu_row rfl (by decide), q2, hu_if]
    by_cases d : i = (c0 + C.length : Nat)
    · rw [if_pos (by omega), if_pos d]
    · rw [if_neg (by omega), if_neg d]
  have er : ∀ o : Int, o ≠ 68 → o ≠ 100 → h4 o = h o := fun o n1 n2 => (hu_row q4 n1).trans (hu_row q2 n2)
  refine k h4 ⟨Y.fr (h' := h4) (Lc := [(68, 44)]) (R := [100]) (fun o i m1 m2 => ?_) (by decide), by rw [e68, if_neg (by decide)]; exact e1, by rw [e68, if_neg (by decide)]; exact e2, by rw [e68, if_neg (by decide)]; exact e3, by rw [e68, if_pos rfl, List.length_append, List.length_singleton]; omega, by rw [er 101 (by decide) (by decide)]; exact A, B.push ?_ (fun i n => ?_), b⟩ (fun o i m1 m2 m3 => ?_)
  · by_cases d : o = 68
    · subst d
      rw [e68, if_neg (fun q => m2 (by rw [q]; exact List.mem_singleton.mpr rfl))]
    · rw [er o d (fun q => m1 (by rw [q]; exact List.mem_singleton.mpr rfl))]
  · rw [e100, if_pos (by omega)]
  · rw [e100, if_neg (by omega)]
  · by_cases d : o = 68
    · subst d
      rw [e68, if_neg (fun q => m2 ⟨rfl, by omega⟩)]
    · by_cases d2 : o = 100
      · subst d2
        rw [e100, if_neg (fun q => m3 ⟨rfl, by omega, by omega⟩)]
      · rw [er o d d2]
theorem RC.cut {x : Int} (R : RC t L c0 a o (W ++ [x]) C h) (q : h1 = hu h 68 46 ((h 68 46) - 1)) : RC t L c0 a o W C h1 ∧ SQ c0 h h1 ∧ h1 68 46 = W.length ∧ h1 101 (W.length : Nat) = x := by
  obtain ⟨Y, e1, e2, e3, e4, A, B, b⟩ := R
  have P := A.pop
  rw [e2] at q
  have F : Fr h h1 [(68, 46)] [] := by rw [q]; exact Fr.cel
  have e68 : ∀ i : Int, h1 68 i = if i = 46 then (W.length : Int) else h 68 i := fun i => by
    rw [q, hu_if, List.length_append, List.length_singleton]
    split <;> omega
  have er : ∀ o : Int, o ≠ 68 → h1 o = h o := fun o n1 => hu_row q n1
  refine ⟨⟨Y.fr F (by decide), by rw [e68, if_neg (by decide)]; exact e1, by rw [e68, if_pos rfl], by rw [e68, if_neg (by decide)]; exact e3, by rw [e68, if_neg (by decide)]; exact e4, by rw [er 101 (by decide)]; exact P.1, by rw [er 100 (by decide)]; exact B, fun y hy => b y (List.mem_append_left _ hy)⟩, fun o i m1 m2 m3 => F o i List.not_mem_nil (fun q => by simp at q; exact m2 ⟨q.1, by omega⟩), by rw [e68, if_pos rfl], by rw [er 101 (by decide)]; exact P.2⟩
theorem RC.add {x : Int} (R : RC t L c0 a o W C h) (hx : 1 ≤ x ∧ x ≤ 24) (q : h1 = hu h 101 (h 68 46) x) (q2 : h2 = hu h1 68 46 ((h1 68 46) + 1)) : RC t L c0 a o (W ++ [x]) C h2 ∧ SQ c0 h h2 := by
  obtain ⟨Y, e1, e2, e3, e4, A, B, b⟩ := R
  rw [e2] at q
  rw [q, hu_row rfl (by decide), e2, ← q] at q2
  have F : Fr h h2 [(68, 46)] [101] := by
    have F1 : Fr h h1 [] [101] := by rw [q]; exact Fr.row
    have F2 : Fr h1 h2 [(68, 46)] [] := by rw [q2]; exact Fr.cel
    exact (F1.trans F2).into (by decide)
  have e68 : ∀ i : Int, h2 68 i = if i = 46 then (W.length : Int) + 1 else h 68 i := fun i => by
    rw [q2, hu_if, hu_row q (by decide)]
  have e101 : ∀ i : Int, h2 101 i = if i = (W.length : Nat) then x else h 101 i := fun i => by rw [hu_row q2 (by decide), q, hu_if]
  have er : ∀ o : Int, o ≠ 68 → o ≠ 101 → h2 o = h o := fun o n1 n2 => (hu_row q2 n1).trans (hu_row q n2)
  refine ⟨⟨Y.fr F (by decide), by rw [e68, if_neg (by decide)]; exact e1, by rw [e68, if_pos rfl, List.length_append, List.length_singleton]; omega, by rw [e68, if_neg (by decide)]; exact e3, by rw [e68, if_neg (by decide)]; exact e4, A.push (by rw [e101, if_pos rfl]) (fun i n => by rw [e101, if_neg n]), by rw [er 100 (by decide) (by decide)]; exact B, fun y hy => ?_⟩, fun o i m1 m2 m3 => F o i (by simpa using m1) (fun q => by simp at q; exact m2 ⟨q.1, by omega⟩)⟩
  rcases List.mem_append.mp hy with hy | hy
  · exact b y hy
  · rw [List.mem_singleton.mp hy]; exact hx
theorem y_drops {x : Int} (R : RC t L c0 a o (W ++ [x]) C h) (hb : c0 + C.length < 1600) (hw : W.length < 1700) (k : ∀ h1, RC t L c0 a o W (C ++ [x]) h1 → SQ c0 h h1 → K 0 h1) : C_X12_drops w h K := by
  refine c_X12_drops (fun h1 q1 => ?_)
  obtain ⟨R1, S1, e, ex⟩ := R.cut q1
  rw [e]
  refine ⟨⟨by omega, by omega⟩, ?_⟩
  rw [ex]
  exact y_code R1 hb (fun h2 R2 S2 => k h2 R2 (S1.tr S2))
theorem y_isOn {v : Int} (R : RC t L c0 a o W C h) (hv : inR v) (hw : W.length < 1700) (k1 : ∀ V, W = V ++ [v] → K 1 h) (k0 : (∀ V, W ≠ V ++ [v]) → K 0 h) : C_X12_isOn w v h K := by
  have R' := R
  obtain ⟨Y, e1, e2, e3, e4, A, B, b⟩ := R'
  refine c_X12_isOn ?_
  rw [e2]
  rcases List.eq_nil_or_concat W with rfl | ⟨V, x, rfl⟩
  · exact ⟨⟨by simp, by simp⟩, fun _ => k0 (fun V q => by simp at q), fun c => absurd (by simp) c⟩
  · rw [List.concat_eq_append] at *
    have P := A.pop
    have bx := b x (List.mem_append_right _ (List.mem_singleton.mpr rfl))
    rw [List.length_append, List.length_singleton] at hw ⊢
    rw [show (((V.length + 1 : Nat) : Int) - 1) = (V.length : Nat) by omega, P.2]
    refine ⟨⟨by omega, by omega⟩, fun c => absurd c (by omega), fun _ => ⟨⟨by omega, by omega⟩, ⟨by omega, by omega⟩, hv, fun c => k0 (fun V' q => c ?_), fun c => k1 V ?_⟩⟩
    · have := List.append_inj_right' q rfl
      exact List.head_eq_of_cons_eq this
    · rw [show x = v from Decidable.not_not.mp c]
def nMk (q : List Int) : Prop := ∀ x ∈ q, 1 ≤ x ∧ x ≤ 4
theorem y_waits {q : List Int} (R : RC t L c0 a o (W ++ q) C h) (hw : (W ++ q).length < 1700) (n : nMk q) (k0 : W = [] → K (-1) h) (k1 : ∀ V m, W = V ++ [m] → 20 ≤ m → K m h) (hm : ∀ V m, W = V ++ [m] → 20 ≤ m) : C_X12_waitsLast w h K := by
  obtain ⟨Y, e1, e2, e3, e4, A, B, b⟩ := R
  refine c_X12_waitsLast ?_
  rw [e2]
  have ev : ∀ j : Nat, j < (W ++ q).length → h 101 j = (W ++ q).getD j 0 := A
  rw [List.length_append] at hw
  suffices ∀ j : Nat, j ≤ q.length → L_X12_waitsLast_7 w (((W.length + j : Nat) : Int) - 1) h K by
    have := this q.length (Nat.le_refl _)
    rw [List.length_append]; exact this
  intro j
  induction j with
  | zero =>
    intro _
    rcases List.eq_nil_or_concat W with rfl | ⟨V, m, rfl⟩
    · refine l_X12_waitsLast_7 ?_
      rw [e3]
      exact ⟨⟨by simp, by simp⟩, ⟨by omega, by omega⟩, fun _ => ⟨⟨by simp, by simp⟩, ⟨by omega, by omega⟩, fun _ => k0 rfl, fun c => absurd (by simp) c⟩, fun c => absurd (by simp) c⟩
    · rw [List.concat_eq_append] at *
      have m20 := hm V m rfl
      have bm := b m (List.mem_append_left _ (List.mem_append_right _ (List.mem_singleton.mpr rfl)))
      have e : h 101 (V.length : Nat) = m := by
        rw [ev V.length (by simp)]
        simp
      rw [List.length_append, List.length_singleton] at hw ⊢
      rw [show (((V.length + 1 + 0 : Nat) : Int) - 1) = (V.length : Nat) by omega]
      refine l_X12_waitsLast_7 ?_
      rw [e3, e]
      refine ⟨⟨by omega, by omega⟩, ⟨by omega, by omega⟩, fun c => absurd c (by omega), fun _ => ⟨⟨by omega, by omega⟩, c_X12_isMark ⟨⟨by omega, by omega⟩, fun c => absurd c (by omega), fun _ => ⟨⟨by omega, by omega⟩, fun c => absurd c (by omega), fun _ _ => ⟨fun _ => ?_, fun c => absurd (by decide) c⟩⟩⟩⟩⟩
      rw [e3, e]
      exact ⟨⟨by omega, by omega⟩, ⟨by omega, by omega⟩, fun c => absurd c (by omega), fun _ => ⟨⟨by omega, by omega⟩, k1 V m rfl m20⟩⟩
  | succ j ih =>
    intro hj
    have i := ih (by omega)
    have e : h 101 (W.length + j : Nat) = q.getD j 0 := by
      rw [ev (W.length + j) (by rw [List.length_append]; omega)]
      simp [List.getElem?_append_right (show W.length ≤ W.length + j by omega)]
    have nx : 1 ≤ q.getD j 0 ∧ q.getD j 0 ≤ 4 := by
      have : q.getD j 0 = q[j] := by simp [List.getElem?_eq_getElem (show j < q.length by omega)]
      rw [this]
      exact n _ (List.getElem_mem ..)
    rw [show (((W.length + (j + 1) : Nat) : Int) - 1) = (W.length + j : Nat) by omega]
    refine l_X12_waitsLast_7 ?_
    rw [e3, e]
    refine ⟨⟨by omega, by omega⟩, ⟨by omega, by omega⟩, fun c => absurd c (by omega), fun _ => ⟨⟨by omega, by omega⟩, c_X12_isMark ⟨⟨by omega, by omega⟩, fun _ _ => ⟨fun c => absurd rfl c, fun _ => ?_⟩, fun c => absurd (by omega) c⟩⟩⟩
    rw [show ((W.length + j : Nat) : Int) + (-1) = ((W.length + j : Nat) : Int) - 1 by omega]
    exact i
theorem y_dropsToMark : ∀ {q : List Int} {C : List Int} {h : Hp} {K : Int → Hp → Prop}, RC t L c0 a o (W ++ q) C h → c0 + C.length + (W ++ q).length < 1600 → nMk q → (∀ V m, W = V ++ [m] → 20 ≤ m) → (∀ h1, RC t L c0 a o W (C ++ q.reverse) h1 → SQ c0 h h1 → K 0 h1) → L_X12_dropsToMark_0 w h K := by
  suffices ∀ n : Nat, ∀ {q : List Int} {C : List Int} {h : Hp} {K : Int → Hp → Prop}, q.length = n → RC t L c0 a o (W ++ q) C h → c0 + C.length + (W ++ q).length < 1600 → nMk q → (∀ V m, W = V ++ [m] → 20 ≤ m) → (∀ h1, RC t L c0 a o W (C ++ q.reverse) h1 → SQ c0 h h1 → K 0 h1) → L_X12_dropsToMark_0 w h K from fun {q C h K} R hb n hm k => this q.length rfl R hb n hm k
  intro n
  induction n with
  | zero =>
    intro q C h K hq R hb nm hm k
    obtain rfl := List.eq_nil_of_length_eq_zero hq
    rw [List.append_nil] at R hb
    rw [List.reverse_nil, List.append_nil] at k
    have kk := k h R SQ.rf
    obtain ⟨Y, e1, e2, e3, e4, A, B, b⟩ := R
    refine l_X12_dropsToMark_0 ?_
    rw [e2, e3]
    rcases List.eq_nil_or_concat W with rfl | ⟨V, m, rfl⟩
    · exact ⟨⟨by simp, by simp⟩, ⟨by omega, by omega⟩, fun _ => kk, fun c => absurd (by simp) c⟩
    · rw [List.concat_eq_append] at *
      have P := A.pop
      have m20 := hm V m rfl
      have bm := b m (List.mem_append_right _ (List.mem_singleton.mpr rfl))
      rw [List.length_append, List.length_singleton] at hb ⊢
      rw [show (((V.length + 1 : Nat) : Int) - 1) = (V.length : Nat) by omega, P.2]
      exact ⟨⟨by omega, by omega⟩, ⟨by omega, by omega⟩, fun c => absurd c (by omega), fun _ => ⟨⟨by omega, by omega⟩, c_X12_isMark ⟨⟨by omega, by omega⟩, fun c => absurd c (by omega), fun _ => ⟨⟨by omega, by omega⟩, fun c => absurd c (by omega), fun _ _ => ⟨fun _ => kk, fun c => absurd (by decide) c⟩⟩⟩⟩⟩
  | succ n ih =>
    intro q C h K hq R hb nm hm k
    rcases List.eq_nil_or_concat q with rfl | ⟨q', x, rfl⟩
    · exact absurd hq (by simp)
    rw [List.concat_eq_append] at *
    rw [← List.append_assoc] at R hb
    have R' := R
    obtain ⟨Y, e1, e2, e3, e4, A, B, b⟩ := R'
    have P := A.pop
    have nx := nm x (List.mem_append_right _ (List.mem_singleton.mpr rfl))
    rw [List.length_append, List.length_singleton] at hb hq
    refine l_X12_dropsToMark_0 ?_
    rw [e2, e3, List.length_append, List.length_singleton, show ((((W ++ q').length + 1 : Nat) : Int) - 1) = ((W ++ q').length : Nat) by omega, P.2]
    refine ⟨⟨by omega, by omega⟩, ⟨by omega, by omega⟩, fun c => absurd c (by omega), fun _ => ⟨⟨by omega, by omega⟩, c_X12_isMark ⟨⟨by omega, by omega⟩, fun _ _ => ⟨fun c => absurd rfl c, fun _ => ?_⟩, fun c => absurd (by omega) c⟩⟩⟩
    refine y_drops R (by omega) (by omega) (fun h1 R1 S1 => ?_)
    refine ih (q := q') (by omega) R1 (by rw [List.length_append, List.length_singleton]; omega) (fun y hy => nm y (List.mem_append_left _ hy)) hm (fun h2 R2 S2 => k h2 ?_ (S1.tr S2))
    rw [List.reverse_append, List.reverse_singleton, ← List.append_assoc]
    exact R2
theorem y_opens {mk a2 : Int} {q : Nat} (R : RC t L c0 a o W C h) (ho : o ≤ 6) (hm : 1 ≤ mk ∧ mk ≤ 24) (hw : W.length < 1700) (e : a2 = q) (k1 : o < 6 → ∀ h1, RC t L c0 a (o + 1) (W ++ [mk]) C h1 → SQ c0 h h1 → K 0 h1) (k0 : 6 ≤ o → ∀ h1, YB t L h1 4 q → h1 68 2 = a → SQ c0 h h1 → K 0 h1) : C_X12_opens w mk a2 h K := by
  have R' := R
  obtain ⟨Y, e1, e2, e3, e4, A, B, b⟩ := R'
  subst e
  refine c_X12_opens ?_
  rw [e1]
  refine ⟨⟨by omega, by omega⟩, fun c h2 q2 => ?_, fun c => ?_⟩
  · have F : Fr h h2 [(68, 47)] [] := by rw [q2]; exact Fr.cel
    have e : ∀ o i : Int, ¬ (o = 68 ∧ i = 47) → h2 o i = h o i := fun o i n => F o i List.not_mem_nil (fun q => by simp at q; omega)
    have er : ∀ o : Int, o ≠ 68 → h2 o = h o := fun o n => by funext i; exact e o i (fun q => n q.1)
    have R2 : RC t L c0 a (o + 1) W C h2 := ⟨Y.fr F (by decide), by rw [q2, hu_if, if_pos rfl]; rfl, by rw [e _ _ (by decide)]; exact e2, by rw [e _ _ (by decide)]; exact e3, by rw [e _ _ (by decide)]; exact e4, by rw [er 101 (by decide)]; exact A, by rw [er 100 (by decide)]; exact B, b⟩
    refine ⟨by rw [R2.2.2.1]; exact ⟨by omega, by omega⟩, fun h5 q5 h7 q7 => ?_⟩
    obtain ⟨R7, S7⟩ := R2.add hm q5 q7
    exact k1 (by omega) h7 R7 (SQ.tr (fun o i m1 m2 m3 => e o i (fun q => m2 ⟨q.1, by omega⟩)) S7)
  · refine y_fail Y.1 Y.2.2.2.1 ⟨by rw [Y.2.1]; omega, by rw [Y.2.1]; have := Y.2.2.1; omega⟩ ⟨by decide, by decide⟩ (fun h1 F1 B1 => k0 (by omega) h1 B1 ?_ (SQ.ty (F1.into (by decide))))
    rw [F1 68 2 List.not_mem_nil (by decide)]; exact Y.2.1
end L3F
