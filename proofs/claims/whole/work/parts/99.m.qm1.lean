/-! the reference's machine for the sums of a question; U: what waits below the sum -/
def uOK (U : List Int) : Prop := ∀ x ∈ U, 10 ≤ x ∧ x ≤ 25 ∧ ¬ (20 ≤ x ∧ x ≤ 24)
def RQ (t : Int → Int) (L : Nat) (U : List Int) (a o : Nat) (W C : List Int) (h : Hp) : Prop := YS t L h a ∧ h 68 90 = o ∧ h 68 89 = (U ++ W).length ∧ h 68 91 = U.length ∧ h 68 87 = C.length ∧ Lst (h 134) (U ++ W) ∧ Lst (h 133) C ∧ (∀ x ∈ W, 1 ≤ x ∧ x ≤ 61) ∧ uOK U
def QQ (h h' : Hp) : Prop := (∀ o i : Int, o ≠ 134 → ¬ (o = 68 ∧ (i = 2 ∨ i = 4 ∨ i = 5 ∨ i = 6 ∨ i = 87 ∨ i = 89 ∨ i = 90)) → o ≠ 133 → h' o i = h o i) ∧ (0 ≤ h 68 87 ∧ h 68 87 ≤ 1600 → 0 ≤ h' 68 87 ∧ h' 68 87 ≤ 1600)
theorem QQ.rf {h : Hp} : QQ h h := ⟨fun _ _ _ _ _ => rfl, fun b => b⟩
theorem QQ.tr {h h1 h2 : Hp} (a : QQ h h1) (b : QQ h1 h2) : QQ h h2 := ⟨fun o i a1 a2 a3 => (b.1 o i a1 a2 a3).trans (a.1 o i a1 a2 a3), fun c => b.2 (a.2 c)⟩
theorem QQ.of {h h1 : Hp} (a : ∀ o i : Int, o ≠ 134 → ¬ (o = 68 ∧ (i = 2 ∨ i = 4 ∨ i = 5 ∨ i = 6 ∨ i = 87 ∨ i = 89 ∨ i = 90)) → o ≠ 133 → h1 o i = h o i) (e : h1 68 87 = h 68 87) : QQ h h1 := ⟨a, fun b => by rw [e]; exact b⟩
theorem QQ.ty {h h1 : Hp} (F : Fr h h1 tyL []) : QQ h h1 := QQ.of (fun o i a1 a2 a3 => F o i List.not_mem_nil (fun q => by simp at q; omega)) (F 68 87 List.not_mem_nil (by decide))
section L5A
variable {w : Wd} {h h0 h1 h2 : Hp} {K : Int → Hp → Prop} {t : Int → Int} {L p a a1 o : Nat} {U W C : List Int}
theorem RQ.ty (R : RQ t L U a o W C h) (F : Fr h h1 tyL []) (Y : YS t L h1 a1) : RQ t L U a1 o W C h1 := by
  obtain ⟨-, e1, e2, e3, e4, A, B, b, u⟩ := R
  have e : ∀ o i : Int, (o = 68 → i ≠ 2 ∧ i ≠ 4 ∧ i ≠ 5 ∧ i ≠ 6) → h1 o i = h o i := fun o i n => F o i List.not_mem_nil (fun q => by simp at q; omega)
  have r : ∀ o : Int, o ≠ 68 → h1 o = h o := fun o n => by funext i; exact e o i (fun q => absurd q n)
  exact ⟨Y, by rw [e _ _ (by decide)]; exact e1, by rw [e _ _ (by decide)]; exact e2, by rw [e _ _ (by decide)]; exact e3, by rw [e _ _ (by decide)]; exact e4, by rw [r 134 (by decide)]; exact A, by rw [r 133 (by decide)]; exact B, b, u⟩
theorem RQ.le (R : RQ t L U a o W C h) : a ≤ L ∧ L ≤ 1600 ∧ a ≤ sk t L a := ⟨R.1.2.2.1, R.1.1.2.1, sk_ge t L a⟩
theorem yq_code {v : Int} (R : RQ t L U a o W C h) (hb : C.length < 1600) (k : ∀ h1, RQ t L U a o W (C ++ [v]) h1 → QQ h h1 → K 0 h1) : C_X12_qCode w v h K := by
  obtain ⟨Y, e1, e2, e3, e4, A, B, b, u⟩ := R
  refine c_X12_qCode ?_
  rw [e4]
  refine ⟨⟨by omega, by omega⟩, fun h2 q2 h4 q4 => ?_⟩
  have e68 : ∀ i : Int, h4 68 i = if i = 87 then ((C.length + 1 : Nat) : Int) else h 68 i := fun i => by
    rw [q4, hu_if, q2, hu_row rfl (by decide), e4]
    split <;> first | omega | (rw [hu_row rfl (by decide)])
  have e133 : ∀ i : Int, h4 133 i = if i = (C.length : Nat) then v else h 133 i := fun i => by
    rw [q4, hu_row rfl (by decide), q2, hu_if]
  have er : ∀ o : Int, o ≠ 68 → o ≠ 133 → h4 o = h o := fun o n1 n2 => (hu_row q4 n1).trans (hu_row q2 n2)
  refine k h4 ⟨Y.fr (h' := h4) (Lc := [(68, 87)]) (R := [133]) (fun o i m1 m2 => ?_) (by decide), by rw [e68, if_neg (by decide)]; exact e1, by rw [e68, if_neg (by decide)]; exact e2, by rw [e68, if_neg (by decide)]; exact e3, by rw [e68, if_pos rfl, List.length_append, List.length_singleton], by rw [er 134 (by decide) (by decide)]; exact A, B.push ?_ (fun i n => ?_), b, u⟩ ⟨fun o i m1 m2 m3 => ?_, fun _ => by rw [e68, if_pos rfl]; omega⟩
  · by_cases d : o = 68
    · subst d
      rw [e68, if_neg (fun q => m2 (by rw [q]; exact List.mem_singleton.mpr rfl))]
    · rw [er o d (fun q => m1 (by rw [q]; exact List.mem_singleton.mpr rfl))]
  · rw [e133, if_pos rfl]
  · rw [e133, if_neg n]
  · by_cases d : o = 68
    · subst d
      rw [e68, if_neg (fun q => m2 ⟨rfl, by omega⟩)]
    · rw [er o d m3]
theorem RQ.cut {x : Int} (R : RQ t L U a o (W ++ [x]) C h) (q : h1 = hu h 68 89 ((h 68 89) - 1)) : RQ t L U a o W C h1 ∧ QQ h h1 ∧ h1 68 89 = (U ++ W).length ∧ h1 134 ((U ++ W).length : Nat) = x := by
  obtain ⟨Y, e1, e2, e3, e4, A, B, b, u⟩ := R
  rw [← List.append_assoc] at A e2
  have P := A.pop
  rw [e2] at q
  have F : Fr h h1 [(68, 89)] [] := by rw [q]; exact Fr.cel
  have e68 : ∀ i : Int, h1 68 i = if i = 89 then ((U ++ W).length : Int) else h 68 i := fun i => by
    rw [q, hu_if, List.length_append (as := U ++ W), List.length_singleton]
    split <;> omega
  have er : ∀ o : Int, o ≠ 68 → h1 o = h o := fun o n1 => hu_row q n1
  refine ⟨⟨Y.fr F (by decide), by rw [e68, if_neg (by decide)]; exact e1, by rw [e68, if_pos rfl], by rw [e68, if_neg (by decide)]; exact e3, by rw [e68, if_neg (by decide)]; exact e4, by rw [er 134 (by decide)]; exact P.1, by rw [er 133 (by decide)]; exact B, fun y hy => b y (List.mem_append_left _ hy), u⟩, QQ.of (fun o i m1 m2 m3 => F o i List.not_mem_nil (fun q => by simp at q; exact m2 ⟨q.1, by omega⟩)) (by rw [e68, if_neg (by decide)]), by rw [e68, if_pos rfl], by rw [er 134 (by decide)]; exact P.2⟩
theorem RQ.add {x : Int} (R : RQ t L U a o W C h) (hx : 1 ≤ x ∧ x ≤ 61) (q : h1 = hu h 134 (h 68 89) x) (q2 : h2 = hu h1 68 89 ((h1 68 89) + 1)) : RQ t L U a o (W ++ [x]) C h2 ∧ QQ h h2 := by
  obtain ⟨Y, e1, e2, e3, e4, A, B, b, u⟩ := R
  rw [e2] at q
  rw [q, hu_row rfl (by decide), e2, ← q] at q2
  have F : Fr h h2 [(68, 89)] [134] := by
    have F1 : Fr h h1 [] [134] := by rw [q]; exact Fr.row
    have F2 : Fr h1 h2 [(68, 89)] [] := by rw [q2]; exact Fr.cel
    exact (F1.trans F2).into (by decide)
  have e68 : ∀ i : Int, h2 68 i = if i = 89 then ((U ++ W).length : Int) + 1 else h 68 i := fun i => by
    rw [q2, hu_if, hu_row q (by decide)]
  have e134 : ∀ i : Int, h2 134 i = if i = ((U ++ W).length : Nat) then x else h 134 i := fun i => by rw [hu_row q2 (by decide), q, hu_if]
  have er : ∀ o : Int, o ≠ 68 → o ≠ 134 → h2 o = h o := fun o n1 n2 => (hu_row q2 n1).trans (hu_row q n2)
  refine ⟨⟨Y.fr F (by decide), by rw [e68, if_neg (by decide)]; exact e1, by rw [e68, if_pos rfl, ← List.append_assoc, List.length_append (as := U ++ W), List.length_singleton]; omega, by rw [e68, if_neg (by decide)]; exact e3, by rw [e68, if_neg (by decide)]; exact e4, by rw [← List.append_assoc]; exact A.push (by rw [e134, if_pos rfl]) (fun i n => by rw [e134, if_neg n]), by rw [er 133 (by decide) (by decide)]; exact B, fun y hy => ?_, u⟩, QQ.of (fun o i m1 m2 m3 => F o i (by simpa using m1) (fun q => by simp at q; exact m2 ⟨q.1, by omega⟩)) (by rw [e68, if_neg (by decide)])⟩
  rcases List.mem_append.mp hy with hy | hy
  · exact b y hy
  · rw [List.mem_singleton.mp hy]; exact hx
theorem yq_drops {x : Int} (R : RQ t L U a o (W ++ [x]) C h) (hb : C.length < 1600) (hw : (U ++ W).length < 1700) (k : ∀ h1, RQ t L U a o W (C ++ [x]) h1 → QQ h h1 → K 0 h1) : C_X12_qDrops w h K := by
  refine c_X12_qDrops (fun h1 q1 => ?_)
  obtain ⟨R1, S1, e, ex⟩ := R.cut q1
  rw [e]
  refine ⟨⟨by omega, by omega⟩, ?_⟩
  rw [ex]
  exact yq_code R1 hb (fun h2 R2 S2 => k h2 R2 (S1.tr S2))
/-- the top of the whole stack -/
theorem qtop {l : List Int} {v : Int} (e2 : h 68 89 = l.length) (A : Lst (h 134) l) (hl : l.length < 1700) (hr : ∀ x ∈ l, inR x) (hv : inR v) (k1 : ∀ V, l = V ++ [v] → K 1 h) (k0 : (∀ V, l ≠ V ++ [v]) → K 0 h) : C_X12_qIsOn w v h K := by
  refine c_X12_qIsOn ?_
  rw [e2]
  rcases List.eq_nil_or_concat l with rfl | ⟨V, x, rfl⟩
  · exact ⟨⟨by simp, by simp⟩, fun _ => k0 (fun V q => by simp at q), fun c => absurd (by simp) c⟩
  · rw [List.concat_eq_append] at *
    have P := A.pop
    have bx := hr x (List.mem_append_right _ (List.mem_singleton.mpr rfl))
    rw [List.length_append, List.length_singleton] at hl ⊢
    rw [show (((V.length + 1 : Nat) : Int) - 1) = (V.length : Nat) by omega, P.2]
    refine ⟨⟨by omega, by omega⟩, fun c => absurd c (by omega), fun _ => ⟨⟨by omega, by omega⟩, bx, hv, fun c => k0 (fun V' q => c ?_), fun c => k1 V ?_⟩⟩
    · have := List.append_inj_right' q rfl
      exact List.head_eq_of_cons_eq this
    · rw [show x = v from Decidable.not_not.mp c]
theorem RQ.inr (R : RQ t L U a o W C h) : ∀ x ∈ U ++ W, inR x := fun x hx => by
  rcases List.mem_append.mp hx with hx | hx
  · have := R.2.2.2.2.2.2.2.2 x hx; exact ⟨by omega, by omega⟩
  · have := R.2.2.2.2.2.2.2.1 x hx; exact ⟨by omega, by omega⟩
theorem yq_isOn {v : Int} (R : RQ t L U a o W C h) (hv : 1 ≤ v ∧ v ≤ 4) (hw : (U ++ W).length < 1700) (k1 : ∀ V, W = V ++ [v] → K 1 h) (k0 : (∀ V, W ≠ V ++ [v]) → K 0 h) : C_X12_qIsOn w v h K := by
  refine qtop R.2.2.1 R.2.2.2.2.2.1 hw R.inr ⟨by omega, by omega⟩ (fun V e => ?_) (fun n => k0 (fun V e => n (U ++ V) (by rw [e, List.append_assoc])))
  rcases List.eq_nil_or_concat W with rfl | ⟨V', x, rfl⟩
  · rw [List.append_nil] at e
    have := R.2.2.2.2.2.2.2.2 v (by rw [e]; exact List.mem_append_right _ (List.mem_singleton.mpr rfl))
    omega
  · rw [List.concat_eq_append] at *
    rw [← List.append_assoc] at e
    have : x = v := List.head_eq_of_cons_eq (List.append_inj_right' e rfl)
    exact k1 V' (by rw [this])
theorem yq_waits {q : List Int} (R : RQ t L U a o (W ++ q) C h) (hw : (U ++ (W ++ q)).length < 1700) (n : nMk q) (k0 : W = [] → K (-1) h) (k1 : ∀ V m, W = V ++ [m] → 20 ≤ m → K m h) (hm : ∀ V m, W = V ++ [m] → 20 ≤ m ∧ m ≤ 24) : C_X12_qBracket w h K := by
  obtain ⟨Y, e1, e2, e3, e4, A, B, b, u⟩ := R
  refine c_X12_qBracket ?_
  rw [e2]
  have ev : ∀ j : Nat, j < (U ++ (W ++ q)).length → h 134 j = (U ++ (W ++ q)).getD j 0 := A
  have hl : (U ++ (W ++ q)).length = U.length + W.length + q.length := by rw [List.length_append, List.length_append]; omega
  rw [hl] at hw ev
  suffices ∀ j : Nat, j ≤ q.length → L_X12_qBracket_7 w (((U.length + W.length + j : Nat) : Int) - 1) h K by
    have := this q.length (Nat.le_refl _)
    rw [hl]; exact this
  intro j
  induction j with
  | zero =>
    intro _
    rcases List.eq_nil_or_concat W with rfl | ⟨V, m, rfl⟩
    · refine l_X12_qBracket_7 ?_
      rw [e3]
      have hU : U.length < 1700 := by omega
      exact ⟨⟨by simp; omega, by simp; omega⟩, ⟨by omega, by omega⟩, fun _ => ⟨⟨by simp; omega, by simp; omega⟩, ⟨by omega, by omega⟩, fun _ => k0 rfl, fun c => absurd (by simp; omega) c⟩, fun c => absurd (by simp; omega) c⟩
    · rw [List.concat_eq_append] at *
      have m20 := hm V m rfl
      have e : h 134 (U.length + V.length : Nat) = m := by
        rw [ev (U.length + V.length) (by rw [List.length_append, List.length_singleton]; omega)]
        simp [List.getElem?_append_right (show U.length ≤ U.length + V.length by omega)]
      rw [List.length_append, List.length_singleton] at hw ⊢
      rw [show (((U.length + (V.length + 1) + 0 : Nat) : Int) - 1) = (U.length + V.length : Nat) by omega]
      refine l_X12_qBracket_7 ?_
      rw [e3, e]
      refine ⟨⟨by omega, by omega⟩, ⟨by omega, by omega⟩, fun c => absurd c (by omega), fun _ => ⟨⟨by omega, by omega⟩, c_X12_qIsBracket ⟨⟨by omega, by omega⟩, fun c => absurd c (by omega), fun _ => ⟨⟨by omega, by omega⟩, fun c => absurd c (by omega), fun _ _ => ⟨fun _ => ?_, fun c => absurd (by decide) c⟩⟩⟩⟩⟩
      rw [e3, e]
      exact ⟨⟨by omega, by omega⟩, ⟨by omega, by omega⟩, fun c => absurd c (by omega), fun _ => ⟨⟨by omega, by omega⟩, k1 V m rfl m20.1⟩⟩
  | succ j ih =>
    intro hj
    have i := ih (by omega)
    have e : h 134 (U.length + W.length + j : Nat) = q.getD j 0 := by
      rw [ev (U.length + W.length + j) (by omega)]
      rw [List.getD_eq_getElem?_getD, List.getElem?_append_right (by omega), List.getElem?_append_right (by omega), List.getD_eq_getElem?_getD, show U.length + W.length + j - U.length - W.length = j by omega]
    have nx : 1 ≤ q.getD j 0 ∧ q.getD j 0 ≤ 4 := by
      have : q.getD j 0 = q[j] := by simp [List.getElem?_eq_getElem (show j < q.length by omega)]
      rw [this]
      exact n _ (List.getElem_mem ..)
    rw [show (((U.length + W.length + (j + 1) : Nat) : Int) - 1) = (U.length + W.length + j : Nat) by omega]
    refine l_X12_qBracket_7 ?_
    rw [e3, e]
    refine ⟨⟨by omega, by omega⟩, ⟨by omega, by omega⟩, fun c => absurd c (by omega), fun _ => ⟨⟨by omega, by omega⟩, c_X12_qIsBracket ⟨⟨by omega, by omega⟩, fun _ _ => ⟨fun c => absurd rfl c, fun _ => ?_⟩, fun c => absurd (by omega) c⟩⟩⟩
    rw [show ((U.length + W.length + j : Nat) : Int) + (-1) = ((U.length + W.length + j : Nat) : Int) - 1 by omega]
    exact i
theorem yq_dropsTo : ∀ {q : List Int} {C : List Int} {h : Hp} {K : Int → Hp → Prop}, RQ t L U a o (W ++ q) C h → C.length + (U ++ (W ++ q)).length < 1600 → nMk q → (∀ V m, W = V ++ [m] → 20 ≤ m ∧ m ≤ 24) → (∀ h1, RQ t L U a o W (C ++ q.reverse) h1 → QQ h h1 → K 0 h1) → L_X12_qDropsToBracket_0 w h K := by
  suffices ∀ n : Nat, ∀ {q : List Int} {C : List Int} {h : Hp} {K : Int → Hp → Prop}, q.length = n → RQ t L U a o (W ++ q) C h → C.length + (U ++ (W ++ q)).length < 1600 → nMk q → (∀ V m, W = V ++ [m] → 20 ≤ m ∧ m ≤ 24) → (∀ h1, RQ t L U a o W (C ++ q.reverse) h1 → QQ h h1 → K 0 h1) → L_X12_qDropsToBracket_0 w h K from fun {q C h K} R hb n hm k => this q.length rfl R hb n hm k
  intro n
  induction n with
  | zero =>
    intro q C h K hq R hb nm hm k
    obtain rfl := List.eq_nil_of_length_eq_zero hq
    rw [List.append_nil] at R hb
    rw [List.reverse_nil, List.append_nil] at k
    have kk := k h R QQ.rf
    obtain ⟨Y, e1, e2, e3, e4, A, B, b, u⟩ := R
    refine l_X12_qDropsToBracket_0 ?_
    rw [e2, e3]
    rcases List.eq_nil_or_concat W with rfl | ⟨V, m, rfl⟩
    · rw [List.append_nil] at *
      exact ⟨⟨by omega, by omega⟩, ⟨by omega, by omega⟩, fun _ => kk, fun c => absurd (by omega) c⟩
    · rw [List.concat_eq_append] at *
      rw [← List.append_assoc] at A hb ⊢
      have P := A.pop
      have m20 := hm V m rfl
      rw [List.length_append, List.length_singleton] at hb ⊢
      have lU : U.length ≤ (U ++ V).length := by rw [List.length_append]; omega
      rw [show ((((U ++ V).length + 1 : Nat) : Int) - 1) = ((U ++ V).length : Nat) by omega, P.2]
      exact ⟨⟨by omega, by omega⟩, ⟨by omega, by omega⟩, fun c => absurd c (by omega), fun _ => ⟨⟨by omega, by omega⟩, c_X12_qIsBracket ⟨⟨by omega, by omega⟩, fun c => absurd c (by omega), fun _ => ⟨⟨by omega, by omega⟩, fun c => absurd c (by omega), fun _ _ => ⟨fun _ => kk, fun c => absurd (by decide) c⟩⟩⟩⟩⟩
  | succ n ih =>
    intro q C h K hq R hb nm hm k
    rcases List.eq_nil_or_concat q with rfl | ⟨q', x, rfl⟩
    · exact absurd hq (by simp)
    rw [List.concat_eq_append] at *
    have hb2 : C.length + (U ++ (W ++ q')).length + 1 < 1600 := by
      simp only [List.length_append, List.length_singleton] at hb ⊢; omega
    rw [← List.append_assoc] at R
    have R' := R
    obtain ⟨Y, e1, e2, e3, e4, A, B, b, u⟩ := R'
    rw [← List.append_assoc] at A e2
    have P := A.pop
    have nx := nm x (List.mem_append_right _ (List.mem_singleton.mpr rfl))
    have lU : U.length ≤ (U ++ (W ++ q')).length := by rw [List.length_append]; omega
    rw [List.length_append, List.length_singleton] at hq
    refine l_X12_qDropsToBracket_0 ?_
    rw [e2, e3, List.length_append, List.length_singleton, show ((((U ++ (W ++ q')).length + 1 : Nat) : Int) - 1) = ((U ++ (W ++ q')).length : Nat) by omega, P.2]
    refine ⟨⟨by omega, by omega⟩, ⟨by omega, by omega⟩, fun c => absurd c (by omega), fun _ => ⟨⟨by omega, by omega⟩, c_X12_qIsBracket ⟨⟨by omega, by omega⟩, fun _ _ => ⟨fun c => absurd rfl c, fun _ => ?_⟩, fun c => absurd (by omega) c⟩⟩⟩
    refine yq_drops R (by omega) (by omega) (fun h1 R1 S1 => ?_)
    refine ih (q := q') (by omega) R1 (by rw [List.length_append, List.length_singleton]; omega) (fun y hy => nm y (List.mem_append_left _ hy)) hm (fun h2 R2 S2 => k h2 ?_ (S1.tr S2))
    rw [List.reverse_append, List.reverse_singleton, ← List.append_assoc]
    exact R2
theorem yq_opens {mk a2 : Int} {q : Nat} (R : RQ t L U a o W C h) (ho : o ≤ 6) (hm : 1 ≤ mk ∧ mk ≤ 61) (hw : (U ++ W).length < 1700) (e : a2 = q) (k1 : o < 6 → ∀ h1, RQ t L U a (o + 1) (W ++ [mk]) C h1 → QQ h h1 → K 0 h1) (k0 : 6 ≤ o → ∀ h1, YB t L h1 4 q → h1 68 2 = a → QQ h h1 → K 0 h1) : C_X12_qOpens w mk a2 h K := by
  have R' := R
  obtain ⟨Y, e1, e2, e3, e4, A, B, b, u⟩ := R'
  subst e
  refine c_X12_qOpens ⟨Y.z.1, fun _ => ?_, fun c => absurd Y.z.2 c⟩
  rw [e1]
  refine ⟨⟨by omega, by omega⟩, fun c h2 q2 => ?_, fun c => ?_⟩
  · have F : Fr h h2 [(68, 90)] [] := by rw [q2]; exact Fr.cel
    have e : ∀ o i : Int, ¬ (o = 68 ∧ i = 90) → h2 o i = h o i := fun o i n => F o i List.not_mem_nil (fun q => by simp at q; omega)
    have er : ∀ o : Int, o ≠ 68 → h2 o = h o := fun o n => by funext i; exact e o i (fun q => n q.1)
    have R2 : RQ t L U a (o + 1) W C h2 := ⟨Y.fr F (by decide), by rw [q2, hu_if, if_pos rfl]; rfl, by rw [e _ _ (by decide)]; exact e2, by rw [e _ _ (by decide)]; exact e3, by rw [e _ _ (by decide)]; exact e4, by rw [er 134 (by decide)]; exact A, by rw [er 133 (by decide)]; exact B, b, u⟩
    refine ⟨by rw [R2.2.2.1]; exact ⟨by omega, by omega⟩, fun h5 q5 h7 q7 => ?_⟩
    obtain ⟨R7, S7⟩ := R2.add hm q5 q7
    exact k1 (by omega) h7 R7 (QQ.tr (QQ.of (fun o i m1 m2 m3 => e o i (fun q => m2 ⟨q.1, by omega⟩)) (e _ _ (by decide))) S7)
  · refine y_fail Y.1 Y.2.2.2.1 ⟨by rw [Y.2.1]; omega, by rw [Y.2.1]; have := Y.2.2.1; omega⟩ ⟨by decide, by decide⟩ (fun h1 F1 B1 => k0 (by omega) h1 B1 ?_ (QQ.ty (F1.into (by decide))))
    rw [F1 68 2 List.not_mem_nil (by decide)]; exact Y.2.1
end L5A
