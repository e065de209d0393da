/-! the reference's machine: after a part -/
section L3H
variable {w : Wd} {h h0 h1 h2 : Hp} {K : Int → Hp → Prop} {t : Int → Int} {L p c0 a a1 o : Nat} {W C q : List Int} {z : Int}
/-- what waits last: a mark, or none -/
def Zt (W : List Int) (z : Int) : Prop := (W = [] ∧ z = -1) ∨ ∃ V, W = V ++ [z] ∧ 20 ≤ z
theorem snoc_in {V V' : List Int} {m m' : Int} (e : V ++ [m] = V' ++ [m']) : m = m' := List.head_eq_of_cons_eq (List.append_inj_right' e rfl)
theorem Zt.b (Z : Zt W z) (R : RC t L c0 a o (W ++ q) C h) : -1 ≤ z ∧ z ≤ 24 := by
  rcases Z with ⟨-, rfl⟩ | ⟨V, rfl, g⟩
  · decide
  · have := R.2.2.2.2.2.2.2 z (List.mem_append_left _ (List.mem_append_right _ (List.mem_singleton.mpr rfl)))
    omega
theorem Zt.m (Z : Zt W z) : ∀ V m, W = V ++ [m] → 20 ≤ m := fun V m e => by
  rcases Z with ⟨rfl, rfl⟩ | ⟨V', rfl, g⟩
  · simp at e
  · rw [← snoc_in e]; exact g
theorem y_wl (Z : Zt W z) (R : RC t L c0 a o (W ++ q) C h) (hw : (W ++ q).length < 1700) (n : nMk q) (k : K z h) : C_X12_waitsLast w h K := by
  refine y_waits R hw n (fun e => ?_) (fun V m e g => ?_) Z.m
  · rcases Z with ⟨_, rfl⟩ | ⟨V', rfl, g⟩
    · exact k
    · simp at e
  · rcases Z with ⟨rfl, rfl⟩ | ⟨V', rfl, g'⟩
    · simp at e
    · rw [← snoc_in e]; exact k
/-- not a closing bracket -/
theorem y_head0 (R : RC t L c0 a o W C h) (nb : byL t L (sk t L a) ≠ 41) (k : ∀ h1, RC t L c0 (sk t L a) o W C h1 → SQ c0 h h1 → L_X12_goesOn_118 w h1 (KG w K)) : AF w K h := by
  refine l_X12_goesOn_0 ⟨R.1.z.1, fun c => absurd R.1.z.2 c, fun _ => R.1.look (fun h3 F3' Y3 => ?_)⟩
  have F3 : Fr h h3 tyL [] := F3'.into (by decide)
  have b := byL_q Y3.1 (sk t L a)
  exact ⟨⟨by omega, by omega⟩, fun _ => k h3 (R.ty F3 Y3) (SQ.ty F3), fun c => absurd nb c⟩
theorem y_head (R : RC t L c0 a o (W ++ q) C h) (hw : (W ++ q).length < 1700) (n : nMk q) (Z : Zt W z) (kc : byL t L (sk t L a) = 41 → (z = 20 ∨ z = 23 ∨ z = 24) → ∀ h1, RC t L c0 (sk t L a) o (W ++ q) C h1 → SQ c0 h h1 → L_X12_goesOn_43 w h1 (KG w K))
    (k : (byL t L (sk t L a) = 41 → ¬ (z = 20 ∨ z = 23 ∨ z = 24)) → ∀ h1, RC t L c0 (sk t L a) o (W ++ q) C h1 → SQ c0 h h1 → L_X12_goesOn_118 w h1 (KG w K)) : AF w K h := by
  refine l_X12_goesOn_0 ⟨R.1.z.1, fun c => absurd R.1.z.2 c, fun _ => R.1.look (fun h3 F3' Y3 => ?_)⟩
  have F3 : Fr h h3 tyL [] := F3'.into (by decide)
  have b := byL_q Y3.1 (sk t L a)
  have R3 := R.ty F3 Y3
  have zb := Z.b R
  have zi : inR z := ⟨by omega, by omega⟩
  refine ⟨⟨by omega, by omega⟩, fun c => k (fun x => absurd x c) h3 R3 (SQ.ty F3), fun c => ?_⟩
  have c := Decidable.not_not.mp c
  refine y_wl Z R3 hw n ⟨zi, fun d => kc c (Or.inl d) h3 R3 (SQ.ty F3), fun d => y_wl Z R3 hw n ⟨zi, fun d2 => kc c (Or.inr (Or.inl d2)) h3 R3 (SQ.ty F3), fun d2 => y_wl Z R3 hw n ⟨zi, fun d3 => k (fun _ x => by omega) h3 R3 (SQ.ty F3), fun d3 => kc c (Or.inr (Or.inr (Decidable.not_not.mp d3))) h3 R3 (SQ.ty F3)⟩⟩⟩
/-- no sign goes on -/
theorem y_tail (R : RC t L c0 a o (W ++ q) C h) (hw : (W ++ q).length < 1700) (n : nMk q) (Z : Zt W z) (n4 : byL t L (sk t L a) ≠ 42 ∧ byL t L (sk t L a) ≠ 47 ∧ byL t L (sk t L a) ≠ 43 ∧ byL t L (sk t L a) ≠ 45) (nc : byL t L (sk t L a) = 41 → ¬ (z = 20 ∨ z = 23 ∨ z = 24))
    (k0 : z = -1 → ∀ h1, RC t L c0 (sk t L a) o (W ++ q) C h1 → SQ c0 h h1 → KG w K 0 h1)
    (k2 : (z = 21 ∨ z = 22) → ∀ h1, RC t L c0 (sk t L a) o (W ++ q) C h1 → SQ c0 h h1 → L_X12_goesOn_322 w h1 (KG w K))
    (kf : z ≠ -1 → z ≠ 21 → z ≠ 22 → ∀ h1, YB t L h1 1 (sk t L a) → SQ c0 h h1 → KG w K 0 h1) : AF w K h := by
  have zb := Z.b R
  have zi : inR z := ⟨by omega, by omega⟩
  refine y_head R hw n Z (fun x y => absurd y (nc x)) (fun _ h1 R1 S1 => ?_)
  refine l_X12_goesOn_118 (y_takesSign R1.1 ⟨by decide, by decide⟩ ⟨by decide, by decide⟩ (fun b _ h2 F2 Y2 _ => absurd (by rw [sk_sk] at b; exact b) n4.1) (fun b h2 F2 Y2 _ => ⟨fun c => absurd rfl c, fun _ => ?_⟩))
  have R2 := R1.ty F2 Y2
  refine y_takesSign Y2 ⟨by decide, by decide⟩ ⟨by decide, by decide⟩ (fun b _ h3 F3 Y3 _ => absurd (by rw [sk_sk, sk_sk] at b; exact b) n4.2.1) (fun b h3 F3 Y3 _ => ⟨fun _ => ?_, fun c => absurd rfl c⟩)
  have R3 := R2.ty F3 Y3
  refine y_takesSign Y3 ⟨by decide, by decide⟩ ⟨by decide, by decide⟩ (fun b _ h4 F4 Y4 _ => absurd (by rw [sk_sk, sk_sk, sk_sk] at b; exact b) n4.2.2.1) (fun b h4 F4 Y4 _ => ⟨fun c => absurd rfl c, fun _ => ?_⟩)
  have R4 := R3.ty F4 Y4
  refine y_takesSign Y4 ⟨by decide, by decide⟩ ⟨by decide, by decide⟩ (fun b _ h5 F5 Y5 _ => absurd (by rw [sk_sk, sk_sk, sk_sk, sk_sk] at b; exact b) n4.2.2.2) (fun b h5 F5 Y5 _ => ⟨fun _ => ?_, fun c => absurd rfl c⟩)
  have R5 := R4.ty F5 Y5
  rw [sk_sk, sk_sk, sk_sk, sk_sk] at R5
  have S5 := S1.tr (((SQ.ty F2).tr (SQ.ty F3)).tr ((SQ.ty F4).tr (SQ.ty F5)))
  refine y_wl Z R5 hw n ⟨zi, fun d => k2 (Or.inl d) h5 R5 S5, fun d => y_wl Z R5 hw n ⟨zi, fun d2 => y_wl Z R5 hw n ⟨zi, fun d3 => l_X12_goesOn_382 (k0 d3 h5 R5 S5), fun d3 => ⟨R5.1.z.1, fun c => absurd R5.1.z.2 c, fun _ => ?_⟩⟩, fun d2 => k2 (Or.inr (Decidable.not_not.mp d2)) h5 R5 S5⟩⟩
  rw [R5.1.2.1]
  exact R5.1.fail ⟨by decide, by decide⟩ (fun h6 F6 B6 => l_X12_goesOn_382 (kf d3 d d2 h6 B6 (S5.tr (SQ.ty F6))))
/-- a bracket closes -/
theorem y_close {m : Int} (R : RC t L c0 a (o + 1) (W ++ [m] ++ q) C h) (hb : c0 + C.length + (W ++ [m] ++ q).length < 1600) (n : nMk q) (b : byL t L (sk t L a) = 41) (hm : m = 20 ∨ m = 23 ∨ m = 24) (k : ∀ h1, RC t L c0 (sk t L a + 1) o W (C ++ q.reverse ++ (if m = 20 then [] else if m = 23 then [5] else [6])) h1 → SQ c0 h h1 → AF w K h1) : AF w K h := by
  refine y_head R (by omega) n (Or.inr ⟨W, rfl, by omega⟩) (fun _ _ h1 R1 S1 => ?_) (fun x => absurd hm (x b))
  refine l_X12_goesOn_43 (fun h2 q2 => ?_)
  obtain ⟨R2, F2⟩ := R1.step b (by decide) ⟨by decide, by decide⟩ q2
  have S2 := S1.tr (SQ.ty F2)
  refine c_X12_dropsToMark (y_dropsToMark R2 hb n (fun V m' e => by rw [← snoc_in e]; omega) (fun h3 R3 S3 h4 q4 h5 q5 => ?_))
  obtain ⟨R4, S4, e4, x4⟩ := R3.cut q4
  have F5 : Fr h4 h5 [(68, 47)] [] := by rw [q5]; exact Fr.cel
  have e : ∀ o i : Int, ¬ (o = 68 ∧ i = 47) → h5 o i = h4 o i := fun o i n => F5 o i List.not_mem_nil (fun q => by simp at q; omega)
  have er : ∀ o : Int, o ≠ 68 → h5 o = h4 o := fun o n => by funext i; exact e o i (fun q => n q.1)
  have R5 : RC t L c0 (sk t L a + 1) o W (C ++ q.reverse) h5 := by
    obtain ⟨Y, e1, e2, e3, e4', A, B, bb⟩ := R4
    exact ⟨Y.fr F5 (by decide), by rw [q5, hu_if, if_pos rfl, e1]; omega, by rw [e _ _ (by decide)]; exact e2, by rw [e _ _ (by decide)]; exact e3, by rw [e _ _ (by decide)]; exact e4', by rw [er 101 (by decide)]; exact A, by rw [er 100 (by decide)]; exact B, bb⟩
  have S5 : SQ c0 h h5 := ((S2.tr S3).tr S4).tr (fun o i m1 m2 m3 => e o i (fun q => m2 ⟨q.1, by omega⟩))
  have x5 : h5 101 (h5 68 46) = m := by rw [e 68 46 (by decide), e4, er 101 (by decide)]; exact x4
  have l5 : 0 ≤ h5 68 46 ∧ h5 68 46 < 1700 := by
    rw [e 68 46 (by decide), e4]
    rw [List.length_append, List.length_append, List.length_singleton] at hb
    exact ⟨by omega, by omega⟩
  have hcode : c0 + (C ++ q.reverse).length < 1600 := by
    rw [List.length_append, List.length_reverse]
    rw [List.length_append, List.length_append, List.length_singleton] at hb
    omega
  rw [x5]
  refine ⟨l5, ⟨by omega, by omega⟩, fun c => ?_, fun c => ⟨l5, ⟨by omega, by omega⟩, fun c2 => ?_, fun c2 => ?_⟩⟩
  · rw [if_pos c, List.append_nil] at k
    exact k h5 R5 S5
  · rw [if_neg c, if_neg c2] at k
    exact y_code R5 hcode (fun h6 R6 S6 => k h6 R6 (S5.tr S6))
  · rw [if_neg c, if_pos (Decidable.not_not.mp c2)] at k
    exact y_code R5 hcode (fun h6 R6 S6 => k h6 R6 (S5.tr S6))
/-- a bracket doesn't close -/
theorem y_stuck {m : Int} (R : RC t L c0 a o (W ++ [m] ++ q) C h) (hw : (W ++ [m] ++ q).length < 1700) (n : nMk q) (b : byL t L (sk t L a) ≠ 41) (n4 : byL t L (sk t L a) ≠ 42 ∧ byL t L (sk t L a) ≠ 47 ∧ byL t L (sk t L a) ≠ 43 ∧ byL t L (sk t L a) ≠ 45) (hm : m = 20 ∨ m = 23 ∨ m = 24) (k : ∀ h1, YB t L h1 1 (sk t L a) → SQ c0 h h1 → K 0 (hu h1 68 48 0)) : AF w K h :=
  y_tail R hw n (Or.inr ⟨W, rfl, by omega⟩) n4 (fun x => absurd x b) (fun e => absurd e (by omega)) (fun e => absurd e (by omega)) (fun _ _ _ h1 B1 S1 => dd_KG B1 (k h1 B1 S1))
theorem RC.mark {m : Int} (R : RC t L c0 a o (W ++ [m]) C h) (hm : m + 2 ≤ 24) (q : h1 = hu h 101 ((h 68 46) - 1) ((h 101 ((h 68 46) - 1)) + 2)) : RC t L c0 a o (W ++ [m + 2]) C h1 ∧ SQ c0 h h1 := by
  obtain ⟨Y, e1, e2, e3, e4, A, B, b⟩ := R
  have P := A.pop
  rw [e2, List.length_append, List.length_singleton, show (((W.length + 1 : Nat) : Int) - 1) = (W.length : Nat) by omega, P.2] at q
  have F : Fr h h1 [] [101] := by rw [q]; exact Fr.row
  have er : ∀ o : Int, o ≠ 101 → h1 o = h o := fun o n => hu_row q n
  have e101 : ∀ i : Int, h1 101 i = if i = (W.length : Nat) then m + 2 else h 101 i := fun i => by rw [q, hu_if]
  have bm := b m (List.mem_append_right _ (List.mem_singleton.mpr rfl))
  refine ⟨⟨Y.fr F (by decide), by rw [er 68 (by decide)]; exact e1, by rw [er 68 (by decide), e2, List.length_append, List.length_append]; rfl, by rw [er 68 (by decide)]; exact e3, by rw [er 68 (by decide)]; exact e4, P.1.push (by rw [e101, if_pos rfl]) (fun i n => by rw [e101, if_neg n]), by rw [er 100 (by decide)]; exact B, fun y hy => ?_⟩, fun o i m1 m2 m3 => by rw [er o m1]⟩
  rcases List.mem_append.mp hy with hy | hy
  · exact b y (List.mem_append_left _ hy)
  · rw [List.mem_singleton.mp hy]; omega
/-- between the two of a pair -/
theorem y_comma {m : Int} (R : RC t L c0 a o (W ++ [m] ++ q) C h) (hb : c0 + C.length + (W ++ [m] ++ q).length < 1600) (n : nMk q) (n4 : byL t L (sk t L a) ≠ 42 ∧ byL t L (sk t L a) ≠ 47 ∧ byL t L (sk t L a) ≠ 43 ∧ byL t L (sk t L a) ≠ 45) (hm : m = 21 ∨ m = 22)
    (k1 : byL t L (sk t L a) = 44 → ∀ h1, RC t L c0 (sk t L a + 1) o (W ++ [m + 2]) (C ++ q.reverse) h1 → SQ c0 h h1 → BG w K h1)
    (k0 : byL t L (sk t L a) ≠ 44 → ∀ h1, YB t L h1 1 (sk t L a) → SQ c0 h h1 → K 0 (hu h1 68 48 0)) : AF w K h := by
  refine y_tail R (by omega) n (Or.inr ⟨W, rfl, by omega⟩) n4 (fun _ x => by omega) (fun e => absurd e (by omega)) (fun _ h1 R1 S1 => ?_) (fun _ c1 c2 => by omega)
  refine l_X12_goesOn_322 (y_asksSign R1.1 ⟨by decide, by decide⟩ ⟨by decide, by decide⟩ (fun b lt h2 F2 Y2 => ?_) (fun b h2 F2 B2 => ?_))
  · rw [sk_sk] at b Y2
    have R2 := R1.ty F2 Y2
    refine ⟨R2.1.z.1, fun _ => c_X12_dropsToMark (y_dropsToMark R2 hb n (fun V m' e => by rw [← snoc_in e]; omega) (fun h3 R3 S3 => ?_)), fun c => absurd R2.1.z.2 c⟩
    have l3 : 0 ≤ (h3 68 46) - 1 ∧ (h3 68 46) - 1 < 1700 := by
      have := R3.2.2.1
      rw [List.length_append, List.length_singleton] at this
      rw [List.length_append, List.length_append, List.length_singleton] at hb
      exact ⟨by omega, by omega⟩
    refine ⟨l3, l3, fun h4 q4 => ?_⟩
    obtain ⟨R4, S4⟩ := R3.mark (by omega) q4
    exact BG.of R4.1 (k1 b h4 R4 ((S1.tr (SQ.ty F2)).tr (S3.tr S4)))
  · rw [sk_sk] at b B2
    exact ⟨B2.nz.1, fun c => absurd c B2.nz.2, fun _ => dd_KG B2 (k0 b h2 B2 (S1.tr (SQ.ty F2)))⟩
/-- a sign of products: what waits of products is told, it waits -/
theorem y_158 {x : Int} {J : Int → Hp → Prop} (R : RC t L c0 a o (W ++ q) C h) (hb : c0 + C.length + (W ++ q).length + 1 < 1600) (hq : q = [] ∨ q = [3] ∨ q = [4]) (tp : ∀ V y, W = V ++ [y] → y ≠ 3 ∧ y ≠ 4) (hx : 1 ≤ x ∧ x ≤ 24) (k : ∀ h1, RC t L c0 a o (W ++ [x]) (C ++ q.reverse) h1 → SQ c0 h h1 → J 1 h1) : L_X12_goesOn_158 w x h J := by
  have base : ∀ {C : List Int} {h : Hp}, RC t L c0 a o W C h → W.length < 1700 → (∀ h1, RC t L c0 a o (W ++ [x]) C h1 → SQ c0 h h1 → J 1 h1) → L_X12_goesOn_158 w x h J := fun {C h} R hw k => by
    refine l_X12_goesOn_158 (y_isOn R ⟨by decide, by decide⟩ hw (fun V e => absurd rfl (tp V 3 e).1) (fun _ _ => ⟨fun c => absurd rfl c, fun _ => y_isOn R ⟨by decide, by decide⟩ hw (fun V e => absurd rfl (tp V 4 e).2) (fun _ _ => ⟨fun _ => ⟨?_, fun h1 q1 h2 q2 => ?_⟩, fun c => absurd rfl c⟩)⟩))
    · rw [R.2.2.1]; exact ⟨by omega, by omega⟩
    · obtain ⟨R2, S2⟩ := R.add hx q1 q2
      exact k h2 R2 S2
  rw [List.length_append] at hb
  rcases hq with rfl | rfl | rfl
  · rw [List.append_nil] at R
    rw [List.reverse_nil, List.append_nil] at k
    exact base R (by omega) k
  · rw [List.length_singleton] at hb
    refine l_X12_goesOn_158 (y_isOn R ⟨by decide, by decide⟩ (by rw [List.length_append, List.length_singleton]; omega) (fun V e _ => ⟨fun _ => l_X12_goesOn_174 (y_drops R (by omega) (by omega) (fun h1 R1 S1 => base R1 (by omega) (fun h2 R2 S2 => k h2 R2 (S1.tr S2)))), fun c => absurd (by decide) c⟩) (fun ne => absurd rfl (ne W)))
  · rw [List.length_singleton] at hb
    refine l_X12_goesOn_158 (y_isOn R ⟨by decide, by decide⟩ (by rw [List.length_append, List.length_singleton]; omega) (fun V e => absurd (snoc_in e) (by decide)) (fun _ _ => ⟨fun c => absurd rfl c, fun _ => y_isOn R ⟨by decide, by decide⟩ (by rw [List.length_append, List.length_singleton]; omega) (fun V e _ => ⟨fun c => absurd c (by decide), fun _ => l_X12_goesOn_174 (y_drops R (by omega) (by omega) (fun h1 R1 S1 => base R1 (by omega) (fun h2 R2 S2 => k h2 R2 (S1.tr S2))))⟩) (fun ne => absurd rfl (ne W))⟩))
/-- a sign of sums: all that waits of this sum is told -/
theorem y_243 {x : Int} {J : Int → Hp → Prop} (hx : 1 ≤ x ∧ x ≤ 24) (tp : ∀ V y, W = V ++ [y] → y ≠ 1 ∧ y ≠ 2 ∧ y ≠ 3 ∧ y ≠ 4) : ∀ n : Nat, ∀ {q C : List Int} {h : Hp}, q.length = n → RC t L c0 a o (W ++ q) C h → c0 + C.length + (W ++ q).length + 1 < 1600 → nMk q → (∀ h1, RC t L c0 a o (W ++ [x]) (C ++ q.reverse) h1 → SQ c0 h h1 → J 1 h1) → L_X12_goesOn_243 w x h J := by
  intro n
  induction n with
  | zero =>
    intro q C h hq R hb nm k
    obtain rfl := List.eq_nil_of_length_eq_zero hq
    rw [List.append_nil] at R hb
    rw [List.reverse_nil, List.append_nil] at k
    have hw : W.length < 1700 := by omega
    refine l_X12_goesOn_243 (y_isOn R ⟨by decide, by decide⟩ hw (fun V e => absurd rfl (tp V 3 e).2.2.1) (fun _ _ => ⟨fun c => absurd rfl c, fun _ => y_isOn R ⟨by decide, by decide⟩ hw (fun V e => absurd rfl (tp V 4 e).2.2.2) (fun _ _ => ⟨fun c => absurd rfl c, fun _ => y_isOn R ⟨by decide, by decide⟩ hw (fun V e => absurd rfl (tp V 1 e).1) (fun _ _ => ⟨fun c => absurd rfl c, fun _ => y_isOn R ⟨by decide, by decide⟩ hw (fun V e => absurd rfl (tp V 2 e).2.1) (fun _ _ => ⟨fun _ => ⟨?_, fun h1 q1 h2 q2 => ?_⟩, fun c => absurd rfl c⟩)⟩)⟩)⟩))
    · rw [R.2.2.1]; exact ⟨by omega, by omega⟩
    · obtain ⟨R2, S2⟩ := R.add hx q1 q2
      exact k h2 R2 S2
  | succ n ih =>
    intro q C h hq R hb nm k
    rcases List.eq_nil_or_concat q with rfl | ⟨q', y, rfl⟩
    · exact absurd hq (by simp)
    rw [List.concat_eq_append] at *
    rw [← List.append_assoc] at R hb
    have ny := nm y (List.mem_append_right _ (List.mem_singleton.mpr rfl))
    rw [List.length_append, List.length_singleton] at hb hq
    have hw : (W ++ q' ++ [y]).length < 1700 := by rw [List.length_append, List.length_singleton]; omega
    have go : L_X12_goesOn_275 w x h J := l_X12_goesOn_275 (y_drops R (by omega) (by omega) (fun h1 R1 S1 => ih (by omega) R1 (by rw [List.length_append (as := C), List.length_singleton]; omega) (fun u hu => nm u (List.mem_append_left _ hu)) (fun h2 R2 S2 => k h2 (by rw [List.reverse_append, List.reverse_singleton, ← List.append_assoc]; exact R2) (S1.tr S2))))
    refine l_X12_goesOn_243 (y_isOn R ⟨by decide, by decide⟩ hw (fun _ _ _ => ⟨fun _ => go, fun c => absurd (by decide) c⟩) (fun n3 _ => ⟨fun c => absurd rfl c, fun _ => y_isOn R ⟨by decide, by decide⟩ hw (fun _ _ _ => ⟨fun _ => go, fun c => absurd (by decide) c⟩) (fun n4 _ => ⟨fun c => absurd rfl c, fun _ => y_isOn R ⟨by decide, by decide⟩ hw (fun _ _ _ => ⟨fun _ => go, fun c => absurd (by decide) c⟩) (fun n1 _ => ⟨fun c => absurd rfl c, fun _ => y_isOn R ⟨by decide, by decide⟩ hw (fun _ _ _ => ⟨fun c => absurd c (by decide), fun _ => go⟩) (fun n2 => ?_)⟩)⟩)⟩))
    exfalso
    have a1 : y ≠ 1 := fun e => n1 (W ++ q') (by rw [e])
    have a2 : y ≠ 2 := fun e => n2 (W ++ q') (by rw [e])
    have a3 : y ≠ 3 := fun e => n3 (W ++ q') (by rw [e])
    have a4 : y ≠ 4 := fun e => n4 (W ++ q') (by rw [e])
    omega
end L3H
