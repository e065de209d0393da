/-! the reference's machine for questions: after a part; signs, brackets, pairs, lies and holds -/
section L5C
variable {w : Wd} {h h0 h1 h2 : Hp} {K : Int → Hp → Prop} {t : Int → Int} {L p a a1 o : Nat} {U W C q : List Int} {z : Int}
/-- what waits last: a mark, or none -/
def qZt (W : List Int) (z : Int) : Prop := (W = [] ∧ z = -1) ∨ ∃ V, W = V ++ [z] ∧ 20 ≤ z ∧ z ≤ 24
theorem qZt.b (Z : qZt W z) : -1 ≤ z ∧ z ≤ 24 := by
  rcases Z with ⟨-, rfl⟩ | ⟨V, rfl, g⟩
  · decide
  · omega
theorem qZt.m (Z : qZt W z) : ∀ V m, W = V ++ [m] → 20 ≤ m ∧ m ≤ 24 := fun V m e => by
  rcases Z with ⟨rfl, rfl⟩ | ⟨V', rfl, g⟩
  · simp at e
  · rw [← snoc_in e]; exact g
theorem yq_wl (Z : qZt W z) (R : RQ t L U a o (W ++ q) C h) (hw : (U ++ (W ++ q)).length < 1700) (n : nMk q) (k : K z h) : C_X12_qBracket w h K := by
  refine yq_waits R hw n (fun e => ?_) (fun V m e g => ?_) Z.m
  · rcases Z with ⟨_, rfl⟩ | ⟨V', rfl, g⟩
    · exact k
    · simp at e
  · rcases Z with ⟨rfl, rfl⟩ | ⟨V', rfl, g'⟩
    · simp at e
    · rw [← snoc_in e]; exact k
/-- not a closing bracket -/
theorem yq_head0 (R : RQ t L U a o W C h) (nb : byL t L (sk t L a) ≠ 41) (k : ∀ h1, RQ t L U (sk t L a) o W C h1 → QQ h h1 → L_X12_qGoesOn_122 w h1 (qKG w K)) : qAF w K h := by
  refine l_X12_qGoesOn_0 ⟨R.1.z.1, fun c => absurd R.1.z.2 c, fun _ => R.1.look (fun h3 F3' Y3 => ?_)⟩
  have F3 : Fr h h3 tyL [] := F3'.into (by decide)
  have b := byL_q Y3.1 (sk t L a)
  exact ⟨⟨by omega, by omega⟩, fun _ => k h3 (R.ty F3 Y3) (QQ.ty F3), fun c => absurd nb c⟩
theorem yq_head (R : RQ t L U a o (W ++ q) C h) (hw : (U ++ (W ++ q)).length < 1700) (n : nMk q) (Z : qZt W z) (kc : byL t L (sk t L a) = 41 → (z = 20 ∨ z = 23 ∨ z = 24) → ∀ h1, RQ t L U (sk t L a) o (W ++ q) C h1 → QQ h h1 → L_X12_qGoesOn_43 w h1 (qKG w K))
    (k : (byL t L (sk t L a) = 41 → ¬ (z = 20 ∨ z = 23 ∨ z = 24)) → ∀ h1, RQ t L U (sk t L a) o (W ++ q) C h1 → QQ h h1 → L_X12_qGoesOn_122 w h1 (qKG w K)) : qAF w K h := by
  refine l_X12_qGoesOn_0 ⟨R.1.z.1, fun c => absurd R.1.z.2 c, fun _ => R.1.look (fun h3 F3' Y3 => ?_)⟩
  have F3 : Fr h h3 tyL [] := F3'.into (by decide)
  have b := byL_q Y3.1 (sk t L a)
  have R3 := R.ty F3 Y3
  have zb := Z.b
  have zi : inR z := ⟨by omega, by omega⟩
  refine ⟨⟨by omega, by omega⟩, fun c => k (fun x => absurd x c) h3 R3 (QQ.ty F3), fun c => ?_⟩
  have c := Decidable.not_not.mp c
  refine yq_wl Z R3 hw n ⟨zi, fun d => kc c (Or.inl d) h3 R3 (QQ.ty F3), fun d => yq_wl Z R3 hw n ⟨zi, fun d2 => kc c (Or.inr (Or.inl d2)) h3 R3 (QQ.ty F3), fun d2 => yq_wl Z R3 hw n ⟨zi, fun d3 => k (fun _ x => by omega) h3 R3 (QQ.ty F3), fun d3 => kc c (Or.inr (Or.inr (Decidable.not_not.mp d3))) h3 R3 (QQ.ty F3)⟩⟩⟩
/-- no sign goes on -/
theorem yq_tail (R : RQ t L U a o (W ++ q) C h) (hw : (U ++ (W ++ q)).length < 1700) (n : nMk q) (Z : qZt W z) (n4 : byL t L (sk t L a) ≠ 42 ∧ byL t L (sk t L a) ≠ 47 ∧ byL t L (sk t L a) ≠ 43 ∧ byL t L (sk t L a) ≠ 45) (nc : byL t L (sk t L a) = 41 → ¬ (z = 20 ∨ z = 23 ∨ z = 24))
    (k0 : z = -1 → ∀ h1, RQ t L U (sk t L a) o (W ++ q) C h1 → QQ h h1 → qKG w K 0 h1)
    (k2 : (z = 21 ∨ z = 22) → ∀ h1, RQ t L U (sk t L a) o (W ++ q) C h1 → QQ h h1 → L_X12_qGoesOn_326 w h1 (qKG w K))
    (kf : z ≠ -1 → z ≠ 21 → z ≠ 22 → ∀ h1, YB t L h1 1 (sk t L a) → QQ h h1 → qKG w K 0 h1) : qAF w K h := by
  have zb := Z.b
  have zi : inR z := ⟨by omega, by omega⟩
  refine yq_head R hw n Z (fun x y => absurd y (nc x)) (fun _ h1 R1 S1 => ?_)
  refine l_X12_qGoesOn_122 (y_takesSign R1.1 ⟨by decide, by decide⟩ ⟨by decide, by decide⟩ (fun b _ h2 F2 Y2 _ => absurd (by rw [sk_sk] at b; exact b) n4.1) (fun b h2 F2 Y2 _ => ⟨fun c => absurd rfl c, fun _ => ?_⟩))
  have R2 := R1.ty F2 Y2
  refine y_takesSign Y2 ⟨by decide, by decide⟩ ⟨by decide, by decide⟩ (fun b _ h3 F3 Y3 _ => absurd (by rw [sk_sk, sk_sk] at b; exact b) n4.2.1) (fun b h3 F3 Y3 _ => ⟨fun _ => ?_, fun c => absurd rfl c⟩)
  have R3 := R2.ty F3 Y3
  refine y_takesSign Y3 ⟨by decide, by decide⟩ ⟨by decide, by decide⟩ (fun b _ h4 F4 Y4 _ => absurd (by rw [sk_sk, sk_sk, sk_sk] at b; exact b) n4.2.2.1) (fun b h4 F4 Y4 _ => ⟨fun c => absurd rfl c, fun _ => ?_⟩)
  have R4 := R3.ty F4 Y4
  refine y_takesSign Y4 ⟨by decide, by decide⟩ ⟨by decide, by decide⟩ (fun b _ h5 F5 Y5 _ => absurd (by rw [sk_sk, sk_sk, sk_sk, sk_sk] at b; exact b) n4.2.2.2) (fun b h5 F5 Y5 _ => ⟨fun _ => ?_, fun c => absurd rfl c⟩)
  have R5 := R4.ty F5 Y5
  rw [sk_sk, sk_sk, sk_sk, sk_sk] at R5
  have S5 := S1.tr (((QQ.ty F2).tr (QQ.ty F3)).tr ((QQ.ty F4).tr (QQ.ty F5)))
  refine yq_wl Z R5 hw n ⟨zi, fun d => k2 (Or.inl d) h5 R5 S5, fun d => yq_wl Z R5 hw n ⟨zi, fun d2 => yq_wl Z R5 hw n ⟨zi, fun d3 => l_X12_qGoesOn_386 (k0 d3 h5 R5 S5), fun d3 => ⟨R5.1.z.1, fun c => absurd R5.1.z.2 c, fun _ => ?_⟩⟩, fun d2 => k2 (Or.inr (Decidable.not_not.mp d2)) h5 R5 S5⟩⟩
  rw [R5.1.2.1]
  exact R5.1.fail ⟨by decide, by decide⟩ (fun h6 F6 B6 => l_X12_qGoesOn_386 (kf d3 d d2 h6 B6 (S5.tr (QQ.ty F6))))
/-- a bracket closes -/
theorem yq_close {m : Int} (R : RQ t L U a (o + 1) (W ++ [m] ++ q) C h) (hb : C.length + (U ++ (W ++ [m] ++ q)).length < 1600) (n : nMk q) (b : byL t L (sk t L a) = 41) (hm : m = 20 ∨ m = 23 ∨ m = 24) (k : ∀ h1, RQ t L U (sk t L a + 1) o W (C ++ q.reverse ++ (if m = 20 then [] else if m = 23 then [5] else [6])) h1 → QQ h h1 → qEP w K t L h1) : qAF w K h := by
  refine yq_head R (by omega) n (Or.inr ⟨W, rfl, by omega⟩) (fun _ _ h1 R1 S1 => ?_) (fun x => absurd hm (x b))
  refine l_X12_qGoesOn_43 (fun h2 q2 => ?_)
  obtain ⟨R2, F2⟩ := R1.step b (by decide) ⟨by decide, by decide⟩ q2
  have S2 := S1.tr (QQ.ty F2)
  refine c_X12_qDropsToBracket (yq_dropsTo R2 hb n (fun V m' e => by rw [← snoc_in e]; omega) (fun h3 R3 S3 h4 q4 h5 q5 => ?_))
  obtain ⟨R4, S4, e4, x4⟩ := R3.cut q4
  have F5 : Fr h4 h5 [(68, 90)] [] := by rw [q5]; exact Fr.cel
  have e : ∀ o i : Int, ¬ (o = 68 ∧ i = 90) → h5 o i = h4 o i := fun o i n => F5 o i List.not_mem_nil (fun q => by simp at q; omega)
  have er : ∀ o : Int, o ≠ 68 → h5 o = h4 o := fun o n => by funext i; exact e o i (fun q => n q.1)
  have R5 : RQ t L U (sk t L a + 1) o W (C ++ q.reverse) h5 := by
    obtain ⟨Y, e1, e2, e3, e4', A, B, bb, uu⟩ := R4
    exact ⟨Y.fr F5 (by decide), by rw [q5, hu_if, if_pos rfl, e1]; omega, by rw [e _ _ (by decide)]; exact e2, by rw [e _ _ (by decide)]; exact e3, by rw [e _ _ (by decide)]; exact e4', by rw [er 134 (by decide)]; exact A, by rw [er 133 (by decide)]; exact B, bb, uu⟩
  have S5 : QQ h h5 := ((S2.tr S3).tr S4).tr (QQ.of (fun o i m1 m2 m3 => e o i (fun q => m2 ⟨q.1, by omega⟩)) (e _ _ (by decide)))
  have x5 : h5 134 (h5 68 89) = m := by rw [e 68 89 (by decide), e4, er 134 (by decide)]; exact x4
  have l5 : 0 ≤ h5 68 89 ∧ h5 68 89 < 1700 := by
    rw [e 68 89 (by decide), e4]
    simp only [List.length_append, List.length_singleton] at hb ⊢
    exact ⟨by omega, by omega⟩
  have hcode : (C ++ q.reverse).length < 1600 := by
    simp only [List.length_append, List.length_singleton, List.length_reverse] at hb ⊢
    omega
  rw [x5]
  refine ⟨l5, ⟨by omega, by omega⟩, fun c => ?_, fun c => ⟨l5, ⟨by omega, by omega⟩, fun c2 => ?_, fun c2 => ?_⟩⟩
  · rw [if_pos c, List.append_nil] at k
    exact l_X12_qGoesOn_115 (k h5 R5 S5).af
  · rw [if_neg c, if_neg c2] at k
    exact yq_code R5 hcode (fun h6 R6 S6 => l_X12_qGoesOn_115 (k h6 R6 (S5.tr S6)).af)
  · rw [if_neg c, if_pos (Decidable.not_not.mp c2)] at k
    exact yq_code R5 hcode (fun h6 R6 S6 => l_X12_qGoesOn_115 (k h6 R6 (S5.tr S6)).af)
/-- a bracket doesn't close -/
theorem yq_stuck {m : Int} (R : RQ t L U a o (W ++ [m] ++ q) C h) (hw : (U ++ (W ++ [m] ++ q)).length < 1700) (n : nMk q) (b : byL t L (sk t L a) ≠ 41) (n4 : byL t L (sk t L a) ≠ 42 ∧ byL t L (sk t L a) ≠ 47 ∧ byL t L (sk t L a) ≠ 43 ∧ byL t L (sk t L a) ≠ 45) (hm : m = 20 ∨ m = 23 ∨ m = 24) (k : ∀ h1, YB t L h1 1 (sk t L a) → QQ h h1 → K 0 (hu h1 68 91 0)) : qAF w K h :=
  yq_tail R hw n (Or.inr ⟨W, rfl, by omega⟩) n4 (fun x => absurd x b) (fun e => absurd e (by omega)) (fun e => absurd e (by omega)) (fun _ _ _ h1 B1 S1 => dq_KG B1 (k h1 B1 S1))
theorem RQ.mark {m : Int} (R : RQ t L U a o (W ++ [m]) C h) (hm : m + 2 ≤ 61) (q : h1 = hu h 134 ((h 68 89) - 1) ((h 134 ((h 68 89) - 1)) + 2)) : RQ t L U a o (W ++ [m + 2]) C h1 ∧ QQ h h1 := by
  obtain ⟨Y, e1, e2, e3, e4, A, B, b, u⟩ := R
  rw [← List.append_assoc] at A e2
  have P := A.pop
  have e2' := e2
  rw [List.length_append (as := U ++ W), List.length_singleton] at e2'
  rw [e2', show ((((U ++ W).length + 1 : Nat) : Int) - 1) = ((U ++ W).length : Nat) by omega, P.2] at q
  have F : Fr h h1 [] [134] := by rw [q]; exact Fr.row
  have er : ∀ o : Int, o ≠ 134 → h1 o = h o := fun o n => hu_row q n
  have e134 : ∀ i : Int, h1 134 i = if i = ((U ++ W).length : Nat) then m + 2 else h 134 i := fun i => by rw [q, hu_if]
  have bm := b m (List.mem_append_right _ (List.mem_singleton.mpr rfl))
  refine ⟨⟨Y.fr F (by decide), by rw [er 68 (by decide)]; exact e1, by rw [er 68 (by decide), e2', ← List.append_assoc, List.length_append (as := U ++ W), List.length_singleton], by rw [er 68 (by decide)]; exact e3, by rw [er 68 (by decide)]; exact e4, by rw [← List.append_assoc]; exact P.1.push (by rw [e134, if_pos rfl]) (fun i n => by rw [e134, if_neg n]), by rw [er 133 (by decide)]; exact B, fun y hy => ?_, u⟩, QQ.of (fun o i m1 m2 m3 => by rw [er o m1]) (by rw [er 68 (by decide)])⟩
  rcases List.mem_append.mp hy with hy | hy
  · exact b y (List.mem_append_left _ hy)
  · rw [List.mem_singleton.mp hy]; omega
/-- between the two of a pair -/
theorem yq_comma {m : Int} (R : RQ t L U a o (W ++ [m] ++ q) C h) (hb : C.length + (U ++ (W ++ [m] ++ q)).length < 1600) (n : nMk q) (n4 : byL t L (sk t L a) ≠ 42 ∧ byL t L (sk t L a) ≠ 47 ∧ byL t L (sk t L a) ≠ 43 ∧ byL t L (sk t L a) ≠ 45) (hm : m = 21 ∨ m = 22)
    (k1 : byL t L (sk t L a) = 44 → ∀ h1, RQ t L U (sk t L a + 1) o (W ++ [m + 2]) (C ++ q.reverse) h1 → QQ h h1 → qBG w K h1)
    (k0 : byL t L (sk t L a) ≠ 44 → ∀ h1, YB t L h1 1 (sk t L a) → QQ h h1 → K 0 (hu h1 68 91 0)) : qAF w K h := by
  refine yq_tail R (by omega) n (Or.inr ⟨W, rfl, by omega⟩) n4 (fun _ x => by omega) (fun e => absurd e (by omega)) (fun _ h1 R1 S1 => ?_) (fun _ c1 c2 => by omega)
  refine l_X12_qGoesOn_326 (y_asksSign R1.1 ⟨by decide, by decide⟩ ⟨by decide, by decide⟩ (fun b lt h2 F2 Y2 => ?_) (fun b h2 F2 B2 => ?_))
  · rw [sk_sk] at b Y2
    have R2 := R1.ty F2 Y2
    refine ⟨R2.1.z.1, fun _ => c_X12_qDropsToBracket (yq_dropsTo R2 hb n (fun V m' e => by rw [← snoc_in e]; omega) (fun h3 R3 S3 => ?_)), fun c => absurd R2.1.z.2 c⟩
    have l3 : 0 ≤ (h3 68 89) - 1 ∧ (h3 68 89) - 1 < 1700 := by
      have := R3.2.2.1
      simp only [List.length_append, List.length_singleton] at this hb
      exact ⟨by omega, by omega⟩
    refine ⟨l3, l3, fun h4 q4 => ?_⟩
    obtain ⟨R4, S4⟩ := R3.mark (by omega) q4
    exact qBG.of R4.1 (k1 b h4 R4 ((S1.tr (QQ.ty F2)).tr (S3.tr S4)))
  · rw [sk_sk] at b B2
    exact ⟨B2.nz.1, fun c => absurd c B2.nz.2, fun _ => dq_KG B2 (k0 b h2 B2 (S1.tr (QQ.ty F2)))⟩
/-- a sign of products: what waits of products is told, it waits -/
theorem yq_162 {x : Int} {J : Int → Hp → Prop} (R : RQ t L U a o (W ++ q) C h) (hb : C.length + (U ++ (W ++ q)).length + 1 < 1600) (hq : q = [] ∨ q = [3] ∨ q = [4]) (tp : ∀ V y, W = V ++ [y] → y ≠ 3 ∧ y ≠ 4) (hx : 1 ≤ x ∧ x ≤ 24) (k : ∀ h1, RQ t L U a o (W ++ [x]) (C ++ q.reverse) h1 → QQ h h1 → J 1 h1) : L_X12_qGoesOn_162 w x h J := by
  have base : ∀ {C : List Int} {h : Hp}, RQ t L U a o W C h → (U ++ W).length < 1700 → (∀ h1, RQ t L U a o (W ++ [x]) C h1 → QQ h h1 → J 1 h1) → L_X12_qGoesOn_162 w x h J := fun {C h} R hw k => by
    refine l_X12_qGoesOn_162 (yq_isOn R ⟨by decide, by decide⟩ hw (fun V e => absurd rfl (tp V 3 e).1) (fun _ _ => ⟨fun c => absurd rfl c, fun _ => yq_isOn R ⟨by decide, by decide⟩ hw (fun V e => absurd rfl (tp V 4 e).2) (fun _ _ => ⟨fun _ => ⟨?_, fun h1 q1 h2 q2 => ?_⟩, fun c => absurd rfl c⟩)⟩))
    · rw [R.2.2.1]; exact ⟨by omega, by omega⟩
    · obtain ⟨R2, S2⟩ := R.add ⟨hx.1, by omega⟩ q1 q2
      exact k h2 R2 S2
  have hB : C.length + (U.length + W.length) + 1 < 1600 ∧ (U ++ W).length = U.length + W.length := by
    refine ⟨?_, List.length_append ..⟩
    simp only [List.length_append] at hb; omega
  rcases hq with rfl | rfl | rfl
  · rw [List.append_nil] at R
    rw [List.reverse_nil, List.append_nil] at k
    exact base R (by omega) k
  · have hw : (U ++ (W ++ [3])).length < 1700 := by omega
    refine l_X12_qGoesOn_162 (yq_isOn R ⟨by decide, by decide⟩ hw (fun V e _ => ⟨fun _ => l_X12_qGoesOn_178 (yq_drops R (by omega) (by omega) (fun h1 R1 S1 => base R1 (by omega) (fun h2 R2 S2 => k h2 R2 (S1.tr S2)))), fun c => absurd (by decide) c⟩) (fun ne => absurd rfl (ne W)))
  · have hw : (U ++ (W ++ [4])).length < 1700 := by omega
    refine l_X12_qGoesOn_162 (yq_isOn R ⟨by decide, by decide⟩ hw (fun V e => absurd (snoc_in e) (by decide)) (fun _ _ => ⟨fun c => absurd rfl c, fun _ => yq_isOn R ⟨by decide, by decide⟩ hw (fun V e _ => ⟨fun c => absurd c (by decide), fun _ => l_X12_qGoesOn_178 (yq_drops R (by omega) (by omega) (fun h1 R1 S1 => base R1 (by omega) (fun h2 R2 S2 => k h2 R2 (S1.tr S2))))⟩) (fun ne => absurd rfl (ne W))⟩))
/-- a sign of sums: all that waits of this sum is told -/
theorem yq_247 {x : Int} {J : Int → Hp → Prop} (hx : 1 ≤ x ∧ x ≤ 24) (tp : ∀ V y, W = V ++ [y] → y ≠ 1 ∧ y ≠ 2 ∧ y ≠ 3 ∧ y ≠ 4) : ∀ n : Nat, ∀ {q C : List Int} {h : Hp}, q.length = n → RQ t L U a o (W ++ q) C h → C.length + (U ++ (W ++ q)).length + 1 < 1600 → nMk q → (∀ h1, RQ t L U a o (W ++ [x]) (C ++ q.reverse) h1 → QQ h h1 → J 1 h1) → L_X12_qGoesOn_247 w x h J := by
  intro n
  induction n with
  | zero =>
    intro q C h hq R hb nm k
    obtain rfl := List.eq_nil_of_length_eq_zero hq
    rw [List.append_nil] at R hb
    rw [List.reverse_nil, List.append_nil] at k
    have hw : (U ++ W).length < 1700 := by omega
    refine l_X12_qGoesOn_247 (yq_isOn R ⟨by decide, by decide⟩ hw (fun V e => absurd rfl (tp V 3 e).2.2.1) (fun _ _ => ⟨fun c => absurd rfl c, fun _ => yq_isOn R ⟨by decide, by decide⟩ hw (fun V e => absurd rfl (tp V 4 e).2.2.2) (fun _ _ => ⟨fun c => absurd rfl c, fun _ => yq_isOn R ⟨by decide, by decide⟩ hw (fun V e => absurd rfl (tp V 1 e).1) (fun _ _ => ⟨fun c => absurd rfl c, fun _ => yq_isOn R ⟨by decide, by decide⟩ hw (fun V e => absurd rfl (tp V 2 e).2.1) (fun _ _ => ⟨fun _ => ⟨?_, fun h1 q1 h2 q2 => ?_⟩, fun c => absurd rfl c⟩)⟩)⟩)⟩))
    · rw [R.2.2.1]; exact ⟨by omega, by omega⟩
    · obtain ⟨R2, S2⟩ := R.add ⟨hx.1, by omega⟩ q1 q2
      exact k h2 R2 S2
  | succ n ih =>
    intro q C h hq R hb nm k
    rcases List.eq_nil_or_concat q with rfl | ⟨q', y, rfl⟩
    · exact absurd hq (by simp)
    rw [List.concat_eq_append] at *
    have hB : C.length + (U ++ (W ++ q')).length + 2 < 1600 ∧ (U ++ (W ++ q' ++ [y])).length < 1700 := by
      simp only [List.length_append, List.length_singleton] at hb ⊢; omega
    rw [← List.append_assoc] at R
    have ny := nm y (List.mem_append_right _ (List.mem_singleton.mpr rfl))
    rw [List.length_append, List.length_singleton] at hq
    have hw := hB.2
    have go : L_X12_qGoesOn_279 w x h J := l_X12_qGoesOn_279 (yq_drops R (by omega) (by omega) (fun h1 R1 S1 => ih (by omega) R1 (by rw [List.length_append (as := C), List.length_singleton]; omega) (fun u hu => nm u (List.mem_append_left _ hu)) (fun h2 R2 S2 => k h2 (by rw [List.reverse_append, List.reverse_singleton, ← List.append_assoc]; exact R2) (S1.tr S2))))
    refine l_X12_qGoesOn_247 (yq_isOn R ⟨by decide, by decide⟩ hw (fun _ _ _ => ⟨fun _ => go, fun c => absurd (by decide) c⟩) (fun n3 _ => ⟨fun c => absurd rfl c, fun _ => yq_isOn R ⟨by decide, by decide⟩ hw (fun _ _ _ => ⟨fun _ => go, fun c => absurd (by decide) c⟩) (fun n4 _ => ⟨fun c => absurd rfl c, fun _ => yq_isOn R ⟨by decide, by decide⟩ hw (fun _ _ _ => ⟨fun _ => go, fun c => absurd (by decide) c⟩) (fun n1 _ => ⟨fun c => absurd rfl c, fun _ => yq_isOn R ⟨by decide, by decide⟩ hw (fun _ _ _ => ⟨fun c => absurd c (by decide), fun _ => go⟩) (fun n2 => ?_)⟩)⟩)⟩))
    exfalso
    have a1 : y ≠ 1 := fun e => n1 (W ++ q') (by rw [e])
    have a2 : y ≠ 2 := fun e => n2 (W ++ q') (by rw [e])
    have a3 : y ≠ 3 := fun e => n3 (W ++ q') (by rw [e])
    have a4 : y ≠ 4 := fun e => n4 (W ++ q') (by rw [e])
    omega
theorem yq_opM {x : Int × Int} (R : RQ t L U a o (W ++ q) C h) (hb : C.length + (U ++ (W ++ q)).length + 1 < 1600) (hq : q = [] ∨ q = [3] ∨ q = [4]) (tp : ∀ V y, W = V ++ [y] → y ≠ 3 ∧ y ≠ 4) (hx : x ∈ [((42 : Int), (-3 : Int)), (47, -4)]) (b : byL t L (sk t L a) = x.1) (k : ∀ h1, RQ t L U (sk t L a + 1) o (W ++ [cdQ x.2]) (C ++ q.reverse) h1 → QQ h h1 → qBG w K h1) : qAF w K h := by
  have go : ∀ h2, RQ t L U (sk t L a + 1) o (W ++ q) C h2 → sk t L a < L → QQ h h2 → L_X12_qGoesOn_140 w h2 (qKG w K) := fun h2 R2 lt S2 => by
    obtain ⟨l1, l2, l3⟩ := R2.1.last lt
    refine l_X12_qGoesOn_140 ⟨l1, l3, ?_⟩
    rw [l2, b]
    rcases List.mem_cons.mp hx with rfl | hx
    · exact ⟨fun c => absurd rfl c, fun _ => yq_162 R2 hb hq tp ⟨by decide, by decide⟩ (fun h3 R3 S3 => qBG.of R3.1 (k h3 R3 (S2.tr S3)))⟩
    · rw [List.mem_singleton.mp hx] at k ⊢
      exact ⟨fun _ => yq_162 R2 hb hq tp ⟨by decide, by decide⟩ (fun h3 R3 S3 => qBG.of R3.1 (k h3 R3 (S2.tr S3))), fun c => absurd (by decide) c⟩
  have b4 : byL t L (sk t L a) = 42 ∨ byL t L (sk t L a) = 47 := by
    rcases List.mem_cons.mp hx with rfl | hx
    · exact Or.inl b
    · rw [List.mem_singleton.mp hx] at b; exact Or.inr b
  refine yq_head0 R (by omega) (fun h1 R1 S1 => ?_)
  refine l_X12_qGoesOn_122 (y_takesSign R1.1 ⟨by decide, by decide⟩ ⟨by decide, by decide⟩ (fun c lt h2 F2 Y2 _ => ⟨fun _ => ?_, fun c => absurd (by decide) c⟩) (fun c h2 F2 Y2 _ => ⟨fun c => absurd rfl c, fun _ => ?_⟩))
  · rw [sk_sk] at lt Y2
    exact go h2 (R1.ty F2 Y2) lt (S1.tr (QQ.ty F2))
  · rw [sk_sk] at c Y2
    refine y_takesSign Y2 ⟨by decide, by decide⟩ ⟨by decide, by decide⟩ (fun c3 lt h3 F3 Y3 _ => ⟨fun c => absurd c (by decide), fun _ => ?_⟩) (fun c3 h3 F3 Y3 _ => ?_)
    · rw [sk_sk] at lt Y3
      exact go h3 ((R1.ty F2 Y2).ty F3 Y3) lt (S1.tr ((QQ.ty F2).tr (QQ.ty F3)))
    · rw [sk_sk] at c3
      exact absurd b4 (fun x => x.elim c c3)
theorem yq_opA {x : Int × Int} (R : RQ t L U a o (W ++ q) C h) (hb : C.length + (U ++ (W ++ q)).length + 1 < 1600) (nm : nMk q) (tp : ∀ V y, W = V ++ [y] → y ≠ 1 ∧ y ≠ 2 ∧ y ≠ 3 ∧ y ≠ 4) (hx : x ∈ [((43 : Int), (-1 : Int)), (45, -2)]) (b : byL t L (sk t L a) = x.1) (k : ∀ h1, RQ t L U (sk t L a + 1) o (W ++ [cdQ x.2]) (C ++ q.reverse) h1 → QQ h h1 → qBG w K h1) : qAF w K h := by
  have go : ∀ h2, RQ t L U (sk t L a + 1) o (W ++ q) C h2 → sk t L a < L → QQ h h2 → L_X12_qGoesOn_225 w h2 (qKG w K) := fun h2 R2 lt S2 => by
    obtain ⟨l1, l2, l3⟩ := R2.1.last lt
    refine l_X12_qGoesOn_225 ⟨l1, l3, ?_⟩
    rw [l2, b]
    rcases List.mem_cons.mp hx with rfl | hx
    · exact ⟨fun c => absurd rfl c, fun _ => yq_247 ⟨by decide, by decide⟩ tp _ rfl R2 hb nm (fun h3 R3 S3 => qBG.of R3.1 (k h3 R3 (S2.tr S3)))⟩
    · rw [List.mem_singleton.mp hx] at k ⊢
      exact ⟨fun _ => yq_247 ⟨by decide, by decide⟩ tp _ rfl R2 hb nm (fun h3 R3 S3 => qBG.of R3.1 (k h3 R3 (S2.tr S3))), fun c => absurd (by decide) c⟩
  have b4 : byL t L (sk t L a) = 43 ∨ byL t L (sk t L a) = 45 := by
    rcases List.mem_cons.mp hx with rfl | hx
    · exact Or.inl b
    · rw [List.mem_singleton.mp hx] at b; exact Or.inr b
  refine yq_head0 R (by omega) (fun h1 R1 S1 => ?_)
  refine l_X12_qGoesOn_122 (y_takesSign R1.1 ⟨by decide, by decide⟩ ⟨by decide, by decide⟩ (fun c lt h2 F2 Y2 _ => absurd c (by rw [sk_sk]; omega)) (fun c h2 F2 Y2 _ => ⟨fun c => absurd rfl c, fun _ => ?_⟩))
  rw [sk_sk] at Y2
  refine y_takesSign Y2 ⟨by decide, by decide⟩ ⟨by decide, by decide⟩ (fun c lt h3 F3 Y3 _ => absurd c (by rw [sk_sk]; omega)) (fun c3 h3 F3 Y3 _ => ⟨fun _ => ?_, fun c => absurd rfl c⟩)
  rw [sk_sk] at Y3
  have R3 := (R1.ty F2 Y2).ty F3 Y3
  have S3 := S1.tr ((QQ.ty F2).tr (QQ.ty F3))
  refine y_takesSign Y3 ⟨by decide, by decide⟩ ⟨by decide, by decide⟩ (fun c lt h4 F4 Y4 _ => ⟨fun _ => ?_, fun c => absurd (by decide) c⟩) (fun c4 h4 F4 Y4 _ => ⟨fun c => absurd rfl c, fun _ => ?_⟩)
  · rw [sk_sk] at lt Y4
    exact go h4 (R3.ty F4 Y4) lt (S3.tr (QQ.ty F4))
  · rw [sk_sk] at c4 Y4
    refine y_takesSign Y4 ⟨by decide, by decide⟩ ⟨by decide, by decide⟩ (fun c5 lt h5 F5 Y5 _ => ⟨fun c => absurd c (by decide), fun _ => ?_⟩) (fun c5 h5 F5 Y5 _ => ?_)
    · rw [sk_sk] at lt Y5
      exact go h5 ((R3.ty F4 Y4).ty F5 Y5) lt (S3.tr ((QQ.ty F4).tr (QQ.ty F5)))
    · rw [sk_sk] at c5
      exact absurd b4 (fun x => x.elim c4 c5)
theorem YB.qst {kd pl : Int} {s : Nat} (B : YB t L h kd pl) (e : h 68 2 = s) (lt : s < L) (q : h1 = hu h 68 2 ((h 68 2) + 1)) : YB t L h1 kd pl ∧ QQ h h1 := by
  have F : Fr h h1 [(68, 2)] [] := by rw [q]; exact Fr.cel
  exact ⟨(B.st (c0 := 0) e lt q).1, QQ.ty (F.into (by decide))⟩
theorem yq_paren (R : RQ t L U a o W C h) (ho : o ≤ 6) (hw : (U ++ W).length < 1700) (b : byL t L (sk t L a) = 40) (k1 : o < 6 → ∀ h1, RQ t L U (sk t L a + 1) (o + 1) (W ++ [20]) C h1 → QQ h h1 → qBG w K h1) (k0 : 6 ≤ o → ∀ h1, YB t L h1 4 (sk t L a) → QQ h h1 → K 0 (hu h1 68 91 0)) : qBG w K h := by
  have no : ∀ {x : Int}, wOK x → ¬ wI t L (sk t L a) x := fun ok W => by have := W.lt ok; omega
  refine yq_bgn R (fun _ h1 R1 S1 => ?_) (fun c => absurd b c) (fun c => absurd b c) (fun c => absurd b c)
  refine yq_opens R1 ho ⟨by decide, by decide⟩ hw R1.1.2.1 (fun lo h2 R2 S2 h3 q3 => ?_) (fun lo h2 B2 e2 S2 h3 q3 => ?_)
  · obtain ⟨R3, F3⟩ := R2.step b (by decide) ⟨by decide, by decide⟩ q3
    exact l_X12_qPartTold_180 (k1 lo h3 R3 ((S1.tr S2).tr (QQ.ty F3)))
  · obtain ⟨B3, S3⟩ := B2.qst e2 (byL_lt b (by decide)) q3
    exact dq_143 (Or.inr rfl) B3 (k0 lo h3 B3 ((S1.tr S2).tr S3))
/-- min or max: its bracket opens -/
theorem yq_pair0 {x : Int} (R : RQ t L U a o W C h) (ho : o ≤ 6) (hw : (U ++ W).length < 1700) (hx : x = 1011 ∨ x = 1012) (wx : wI t L (sk t L a) x)
    (k1 : byL t L (sk t L (sk t L a + 3)) = 40 → o < 6 → ∀ h1, RQ t L U (sk t L (sk t L a + 3) + 1) (o + 1) (W ++ [if x = 1011 then 21 else 22]) C h1 → QQ h h1 → qBG w K h1)
    (k4 : byL t L (sk t L (sk t L a + 3)) = 40 → 6 ≤ o → ∀ h1, YB t L h1 4 (sk t L (sk t L a + 3)) → QQ h h1 → K 0 (hu h1 68 91 0))
    (k0 : byL t L (sk t L (sk t L a + 3)) ≠ 40 → ∀ h1, YB t L h1 1 (sk t L (sk t L a + 3)) → QQ h h1 → K 0 (hu h1 68 91 0)) : qBG w K h := by
  have okx : wOK x := by rcases hx with rfl | rfl <;> decide +kernel
  have lt := wx.lt okx
  have l11 : (slen 1011).toNat = 3 := by decide +kernel
  have l12 : (slen 1012).toNat = 3 := by decide +kernel
  generalize hs : sk t L (sk t L a + 3) = s at k1 k4 k0
  have ss : sk t L s = s := by rw [← hs, sk_sk]
  have rest : ∀ v3 : Int, (v3 = 0 ∨ v3 = 1) → (v3 = 0 → x = 1012) → (v3 ≠ 0 → x = 1011) → ∀ h2, RQ t L U (sk t L a + 3) o W C h2 → QQ h h2 → L_X12_qPartTold_99 w 1 v3 h2 (qKP w K) := fun v3 hv z0 z1 h2 R2 S2 => by
    have opened : byL t L s = 40 → ∀ h4, RQ t L U s (o + 1) (W ++ [if x = 1011 then 21 else 22]) C h4 → o < 6 → QQ h h4 → L_X12_qPartTold_142 w 1 h4 (qKP w K) := fun b h4 R4 lo S4 => by
      refine l_X12_qPartTold_142 (y_asksSign R4.1 ⟨by decide, by decide⟩ ⟨by decide, by decide⟩ (fun c l5 h5 F5 Y5 => ?_) (fun c => absurd (by rw [ss]; exact b) c))
      rw [ss] at Y5
      exact l_X12_qPartTold_180 (k1 b lo h5 (R4.ty F5 Y5) (S4.tr (QQ.ty F5)))
    refine l_X12_qPartTold_99 (R2.1.look (fun h3 F3' Y3 => ?_))
    have F3 : Fr h2 h3 tyL [] := F3'.into (by decide)
    have b := byL_q Y3.1 (sk t L (sk t L a + 3))
    rw [hs] at b Y3 ⊢
    have R3 := R2.ty F3 Y3
    have S3 := S2.tr (QQ.ty F3)
    have e3 := Y3.2.1
    have l3 := Y3.2.2.1
    have l4 := Y3.1.2.1
    refine ⟨⟨by omega, by omega⟩, fun c => ?_, fun c => ⟨by rw [e3]; exact ⟨by omega, by omega⟩, fun c2 => absurd c2 (by omega), fun _ => ⟨by rcases hv with rfl | rfl <;> exact ⟨by decide, by decide⟩, fun v0 => ?_, fun v1 => ?_⟩⟩⟩
    · refine l_X12_qPartTold_142 (y_asksSign Y3 ⟨by decide, by decide⟩ ⟨by decide, by decide⟩ (fun c2 => absurd (by rw [ss] at c2; exact c2) c) (fun c2 h4 F4 B4 => ?_))
      rw [ss] at B4
      exact dq_143 (Or.inr rfl) B4 (k0 c h4 B4 (S3.tr (QQ.ty F4)))
    all_goals
      have c := Decidable.not_not.mp c
    · have zx := z0 v0
      refine yq_opens R3 ho ⟨by decide, by decide⟩ hw e3 (fun lo h4 R4 S4 => opened c h4 (by rw [zx, if_neg (by decide)]; exact R4) lo (S3.tr S4)) (fun lo h4 B4 e4 S4 => l_X12_qPartTold_142 (yb_asksSign B4 (dq_143 (Or.inr rfl) B4 (k4 c lo h4 B4 (S3.tr S4)))))
    · have zx := z1 v1
      refine yq_opens R3 ho ⟨by decide, by decide⟩ hw e3 (fun lo h4 R4 S4 => opened c h4 (by rw [zx, if_pos rfl]; exact R4) lo (S3.tr S4)) (fun lo h4 B4 e4 S4 => l_X12_qPartTold_142 (yb_asksSign B4 (dq_143 (Or.inr rfl) B4 (k4 c lo h4 B4 (S3.tr S4)))))
  refine yq_bgn R (fun b => absurd b (by omega)) (fun _ _ h1 R1 S1 => ?_) (fun _ r y hy Wy => absurd (wx.eqq Wy (by rcases hx with rfl | rfl <;> decide) ((by decide : ∀ z ∈ [((3 : Int), (1016 : Int)), (4, 1008)], z.2 ∈ wdq) (r, y) hy)) (by have := (by decide : ∀ z ∈ [((3 : Int), (1016 : Int)), (4, 1008)], z.2 = 1016 ∨ z.2 = 1008) (r, y) hy; dsimp only at this; omega)) (fun _ n1 n2 => absurd wx (by rcases hx with rfl | rfl <;> assumption))
  refine l_X12_qPartTold_76 (y_wd wq_11 R1.1 (fun w2 h2 F2 Y2 _ => ⟨fun _ => ?_, fun c => absurd (by decide) c⟩) (fun w2 h2 F2 Y2 _ => ⟨fun c => absurd rfl c, fun _ => ?_⟩))
  · rw [sk_sk] at w2 Y2
    rw [l11] at Y2
    have ex : x = 1011 := by
      rcases hx with rfl | rfl
      · rfl
      · exact wx.eqq w2 (by decide) (by decide)
    exact rest 1 (Or.inr rfl) (fun c => absurd c (by decide)) (fun _ => ex) h2 (R1.ty F2 Y2) (S1.tr (QQ.ty F2))
  · rw [sk_sk] at w2 Y2
    have ex : x = 1012 := by
      rcases hx with rfl | rfl
      · exact absurd wx w2
      · rfl
    refine y_wdAsks wq_12 Y2 (fun w3 h3 F3 Y3 => ?_) (fun w3 => absurd (by rw [sk_sk]; rw [ex] at wx; exact wx) w3)
    rw [sk_sk, l12] at Y3
    exact rest 0 (Or.inl rfl) (fun _ => ex) (fun c => absurd rfl c) h3 ((R1.ty F2 Y2).ty F3 Y3) (S1.tr ((QQ.ty F2).tr (QQ.ty F3)))
theorem ofW1 : ofW 1 = [(1016, -13), (1008, -14)] := rfl
theorem yb_asksWord {kd pl r : Int} (hr : inR r) (B : YB t L h kd pl) (k : K 0 h) : C_X12_qAsksWord w r h K :=
  c_X12_qAsksWord ⟨hr, fun _ => yb_asks wq_13.1 B k, fun _ => yb_asks wq_14.1 B k, fun _ => yb_asks wq_15.1 B k, fun _ => yb_asks wq_16.1 B k, fun _ => yb_asks wq_8.1 B k⟩
/-- lies or holds: of one part -/
theorem yq_of {x : Int × Int} (R : RQ t L U a o W C h) (ho : o ≤ 6) (hw : (U ++ W).length < 1700) (hx : x ∈ ofW 1) (wx : wI t L (sk t L a) x.1)
    (k1 : o < 6 → ∀ h1, RQ t L U (sk t L a + (slen x.1).toNat) (o + 1) (W ++ [cdQ x.2]) C h1 → QQ h h1 → qBG w K h1)
    (k0 : 6 ≤ o → ∀ h1, YB t L h1 4 (sk t L a) → QQ h h1 → K 0 (hu h1 68 91 0)) : qBG w K h := by
  rw [ofW1] at hx
  have xd : x.1 ∈ wdq ∧ x.1 ≠ 1011 ∧ x.1 ≠ 1012 ∧ (x.1 = 1016 ∨ x.1 = 1008) ∧ 60 ≤ cdQ x.2 ∧ cdQ x.2 ≤ 61 := (by decide : ∀ z ∈ [((1016 : Int), (-13 : Int)), (1008, -14)], z.1 ∈ wdq ∧ z.1 ≠ 1011 ∧ z.1 ≠ 1012 ∧ (z.1 = 1016 ∨ z.1 = 1008) ∧ 60 ≤ cdQ z.2 ∧ cdQ z.2 ≤ 61) x hx
  have lt := wx.lt (wdq_ok _ xd.1)
  refine yq_bgn R (fun b => absurd b (by omega)) (fun _ c => absurd c (fun y => y.elim (fun y => xd.2.1 (wx.eqq y xd.1 (by decide))) (fun y => xd.2.2.1 (wx.eqq y xd.1 (by decide))))) (fun _ r y hy Wy h1 R1 S1 => ?_) (fun _ _ _ n3 n4 => ?_)
  · have yd := (by decide : ∀ z ∈ [((3 : Int), (1016 : Int)), (4, 1008)], z.2 ∈ wdq) (r, y) hy
    have e : y = x.1 := Wy.eqq wx yd xd.1
    have er : (60 + r) - 3 = cdQ x.2 ∧ (r, y) ∈ [((0 : Int), (1013 : Int)), (1, 1014), (2, 1015), (3, 1016), (4, 1008)] ∧ inR r := by
      have := (by decide : ∀ z ∈ [((3 : Int), (1016 : Int)), (4, 1008)], ∀ v ∈ [((1016 : Int), (-13 : Int)), (1008, -14)], z.2 = v.1 → (60 + z.1) - 3 = cdQ v.2 ∧ z ∈ [((0 : Int), (1013 : Int)), (1, 1014), (2, 1015), (3, 1016), (4, 1008)] ∧ inR z.1) (r, y) hy x hx e
      exact this
    rw [er.1]
    refine yq_opens R1 ho ⟨by omega, by omega⟩ hw R1.1.2.1 (fun lo h2 R2 S2 => ?_) (fun lo h2 B2 e2 S2 => ?_)
    · refine yq_asksWord er.2.1 Wy (sk_sk ..) R2.1 (fun h3 F3 Y3 => ?_)
      rw [e] at Y3
      exact l_X12_qPartTold_180 (k1 lo h3 (R2.ty F3 Y3) ((S1.tr S2).tr (QQ.ty F3)))
    · exact yb_asksWord er.2.2 B2 (dq_143 (Or.inr rfl) B2 (k0 lo h2 B2 (S1.tr S2)))
  · rcases xd.2.2.2.1 with e | e
    · rw [e] at wx; exact absurd wx n3
    · rw [e] at wx; exact absurd wx n4
end L5C
