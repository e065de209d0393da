/-! what the class reckons of a formula is its worth -/
def knF (g : Int → Int) (m : Nat) (j : Int) : Int := if 0 ≤ j ∧ j < m then g j else 0
theorem knF_b {g : Int → Int} {m : Nat} (hb : ∀ j : Int, 0 ≤ j → j < m → -1000000 ≤ g j ∧ g j ≤ 1000000) (j : Int) : -1000000 ≤ knF g m j ∧ knF g m j ≤ 1000000 := by
  unfold knF
  by_cases c : 0 ≤ j ∧ j < m
  · rw [if_pos c]; exact hb j c.1 c.2
  · rw [if_neg c]; exact ⟨by omega, by omega⟩
theorem stp_j {kn ly ho : Int → Int} {s a b : Int} {q : List Int} (h1 : s < 0) (h2 : -20 < s) (h3 : s ≠ -12) (h4 : s ≠ -13) (h5 : s ≠ -14) : stp kn ly ho s (b :: a :: q) = jn s a b :: q := by
  unfold stp
  rw [if_neg (by omega), if_neg (by omega), if_neg h3, if_neg h4, if_neg h5]
  rfl
section L2I
variable {w : Wd} {h h0 : Hp} {K : Int → Hp → Prop}
theorem CS.keep {st : List Int} (S : CS h0 h st) {o : Int} (h1 : o ≠ 52) (h2 : o ≠ 53) : h o = h0 o := by
  funext i
  refine S.2.2 o i (fun q => h2 (List.mem_singleton.mp q)) (fun q => h1 ?_)
  have e := List.mem_singleton.mp q
  exact congrArg Prod.fst e
theorem x_reckon {o : Int} {n : Nat} {b : Bool} (ho : Ob 1 o) (hd : o < 50) (hn : h0 o 1 = n) (hn2 : n ≤ 1600) (W : wff (h0 (o + 1)) n b)
    (b4 : ∀ j : Int, 0 ≤ j → j < (9 : Nat) → -1000000 ≤ h0 54 j ∧ h0 54 j ≤ 1000000) (b5 : ∀ j : Int, 0 ≤ j → j < (8 : Nat) → -1000000 ≤ h0 55 j ∧ h0 55 j ≤ 1000000) (b6 : ∀ j : Int, 0 ≤ j → j < (10 : Nat) → -1000000 ≤ h0 56 j ∧ h0 56 j ≤ 1000000)
    (k : ∀ v h1, Fr h0 h1 [(52, 4)] [53] → VOK [b] [v] → v = (evl (knF (h0 54) 9) (knF (h0 55) 8) (knF (h0 56) 10) (h0 (o + 1)) n).headD 0 → K v h1) : C_X6_reckon w o h0 K := by
  obtain ⟨ts, t0, tn, T⟩ := W
  have B4 := knF_b b4
  have B5 := knF_b b5
  have B6 := knF_b b6
  have L : ∀ m i : Nat, i + m = n → ∀ h st, CS h0 h st → st = evl (knF (h0 54) 9) (knF (h0 55) 8) (knF (h0 56) 10) (h0 (o + 1)) i → VOK (ts i) st → L_X6_reckon_7 w o i h K := by
    intro m
    induction m with
    | zero =>
      intro i e h st S es V
      have e : i = n := e
      subst e
      have f1 : h o 1 = i := by rw [S.keep (by omega) (by omega)]; exact hn
      rw [tn] at V
      cases st with
      | nil => exact absurd V id
      | cons v q =>
        cases q with
        | cons _ _ => exact absurd V.2 id
        | nil => exact l_X6_reckon_7 ho ⟨⟨by omega, by omega⟩, ⟨by omega, by omega⟩, fun _ => x_pop S (by decide) (fun h1 S1 => k v h1 S1.2.2 V (by rw [← es]; rfl)), fun c => absurd (by omega) c⟩
    | succ m ih =>
      intro i e h st S es V
      have T1 := T i (by omega)
      have V' := stp_ok B4 B5 B6 T1.1 V
      have go : ∀ h1, CS h0 h1 (stp (knF (h0 54) 9) (knF (h0 55) 8) (knF (h0 56) 10) (h0 (o + 1) i) st) → L_X6_reckon_7 w o ((i : Int) + 1) h1 K := fun h1 S1 => ih (i + 1) (by omega) h1 _ S1 (by rw [es]; rfl) V'
      have lv : st.length ≤ 60 := by rw [V.len]; exact T1.2
      have f1 : h o 1 = n := by rw [S.keep (by omega) (by omega)]; exact hn
      have f2 : h (o + 1) = h0 (o + 1) := S.keep (by omega) (by omega)
      have f5 : ∀ h1 st1, CS h0 h1 st1 → h1 54 = h0 54 ∧ h1 55 = h0 55 ∧ h1 56 = h0 56 := fun h1 st1 S1 => ⟨S1.keep (by decide) (by decide), S1.keep (by decide) (by decide), S1.keep (by decide) (by decide)⟩
      refine l_X6_reckon_7 ho ⟨⟨by omega, by omega⟩, ⟨by omega, by omega⟩, fun c => absurd c (by omega), fun _ => ⟨⟨by omega, by omega⟩, fun c => absurd c (by omega), fun _ => ⟨⟨by omega, by omega⟩, ?_⟩⟩⟩
      rw [f2]
      have T2 := T1.1
      generalize h0 (o + 1) (i : Int) = s at go T2 ⊢
      have sr : inR s := by
        rcases T2 with ⟨h1, h2, _⟩ | ⟨h1, _⟩ | ⟨h1, h2, _⟩ | ⟨h1, r, e1, _⟩ | ⟨h1, r, e1, _⟩ | ⟨h1, h2, r, e1, _⟩ | ⟨h1, h2, r, e1, _⟩ | ⟨h1, h2, r, e1, _⟩ <;> exact ⟨by omega, by omega⟩
      refine ⟨sr, fun c => ⟨sr, fun c1 => ⟨sr, fun c2 => ⟨sr, fun c3 => ⟨sr, fun c4 => ?_, fun c4 => ?_⟩, fun c3 => ?_⟩, fun c2 => ?_⟩, fun c1 => ?_⟩, fun c => ?_⟩
      · rcases T2 with ⟨h1, h2, _⟩ | ⟨h1, _⟩ | ⟨h1, h2, _⟩ | ⟨h1, r, e1, _⟩ | ⟨h1, r, e1, _⟩ | ⟨h1, h2, r, e1, _⟩ | ⟨h1, h2, r, e1, _⟩ | ⟨h1, h2, r, e1, _⟩
        · omega
        · omega
        · omega
        · omega
        · omega
        · rw [e1] at V
          obtain ⟨y, q, rfl, hb, V⟩ := V.n1
          obtain ⟨x, q, rfl, ha, V⟩ := V.n1
          rw [List.length_cons, List.length_cons] at lv
          rw [stp_j c (by omega) c2 c3 c4] at go
          exact x_pop S (by rw [List.length_cons]; omega) (fun _ S2 => x_pop S2 (by omega) (fun _ S3 => x_join_num ⟨h1, h2⟩ ha hb (x_push S3 (by omega) go)))
        · rw [e1] at V
          obtain ⟨y, q, rfl, hb, V⟩ := V.n1
          obtain ⟨x, q, rfl, ha, V⟩ := V.n1
          rw [List.length_cons, List.length_cons] at lv
          rw [stp_j c (by omega) c2 c3 c4] at go
          exact x_pop S (by rw [List.length_cons]; omega) (fun _ S2 => x_pop S2 (by omega) (fun _ S3 => x_join_cmp ⟨h1, h2⟩ ha hb (x_push S3 (by omega) go)))
        · rw [e1] at V
          obtain ⟨y, q, rfl, hb, V⟩ := V.b1
          obtain ⟨x, q, rfl, ha, V⟩ := V.b1
          rw [List.length_cons, List.length_cons] at lv
          rw [stp_j c (by omega) c2 c3 c4] at go
          exact x_pop S (by rw [List.length_cons]; omega) (fun _ S2 => x_pop S2 (by omega) (fun _ S3 => x_join_log ⟨h1, h2⟩ ha hb (x_push S3 (by omega) go)))
      · have c4 : s = -14 := by omega
        subst c4
        rcases T2 with ⟨h1, h2, _⟩ | ⟨h1, _⟩ | ⟨h1, h2, _⟩ | ⟨h1, r, e1, _⟩ | ⟨h1, r, e1, _⟩ | ⟨h1, h2, r, e1, _⟩ | ⟨h1, h2, r, e1, _⟩ | ⟨h1, h2, r, e1, _⟩
        · omega
        · omega
        · omega
        · omega
        · rw [e1] at V
          obtain ⟨x, q, rfl, ha, V⟩ := V.n1
          rw [List.length_cons] at lv
          exact x_pop S (by omega) (fun h2 S2 => x_entry (n := 10) ⟨by decide, by decide⟩ ⟨by omega, by omega⟩ (x_push S2 (by omega) (fun h3 S3 => go h3 (by rw [(f5 h2 _ S2).2.2] at S3; exact S3))))
        · omega
        · omega
        · omega
      · have c3 : s = -13 := by omega
        subst c3
        rcases T2 with ⟨h1, h2, _⟩ | ⟨h1, _⟩ | ⟨h1, h2, _⟩ | ⟨h1, r, e1, _⟩ | ⟨h1, r, e1, _⟩ | ⟨h1, h2, r, e1, _⟩ | ⟨h1, h2, r, e1, _⟩ | ⟨h1, h2, r, e1, _⟩
        · omega
        · omega
        · omega
        · omega
        · rw [e1] at V
          obtain ⟨x, q, rfl, ha, V⟩ := V.n1
          rw [List.length_cons] at lv
          exact x_pop S (by omega) (fun h2 S2 => x_entry (n := 8) ⟨by decide, by decide⟩ ⟨by omega, by omega⟩ (x_push S2 (by omega) (fun h3 S3 => go h3 (by rw [(f5 h2 _ S2).2.1] at S3; exact S3))))
        · omega
        · omega
        · omega
      · have c2 : s = -12 := by omega
        subst c2
        rcases T2 with ⟨h1, h2, _⟩ | ⟨h1, _⟩ | ⟨h1, h2, _⟩ | ⟨h1, r, e1, _⟩ | ⟨h1, r, e1, _⟩ | ⟨h1, h2, r, e1, _⟩ | ⟨h1, h2, r, e1, _⟩ | ⟨h1, h2, r, e1, _⟩
        · omega
        · omega
        · omega
        · rw [e1] at V
          obtain ⟨x, q, rfl, ha, V⟩ := V.b1
          rw [List.length_cons] at lv
          exact x_pop S (by omega) (fun h2 S2 => x_push S2 (by omega) go)
        · omega
        · omega
        · omega
        · omega
      · have e2 : stp (knF (h0 54) 9) (knF (h0 55) 8) (knF (h0 56) 10) s st = knF (h0 54) 9 (-20 - s) :: st := by
          unfold stp
          rw [if_neg (by omega), if_pos (by omega)]
        rw [e2] at go
        exact x_entry (n := 9) ⟨by decide, by decide⟩ ⟨by omega, by omega⟩ (x_push S (by omega) (fun h3 S3 => go h3 (by rw [(f5 h _ S).1] at S3; exact S3)))
      · have e2 : stp (knF (h0 54) 9) (knF (h0 55) 8) (knF (h0 56) 10) s st = s :: st := by
          unfold stp
          rw [if_pos (by omega)]
        rw [e2] at go
        exact x_push S (by omega) go
  refine c_X6_reckon ho (fun h1 e1 => ?_)
  have F : Fr h0 h1 [(52, 4)] [53] := by rw [e1]; exact Fr.sub Fr.cel (fun p q => Or.inl q) (fun o q => absurd q List.not_mem_nil)
  exact L n 0 (by omega) h1 [] ⟨by rw [e1, hu_if, if_pos rfl]; rfl, trivial, F⟩ rfl (by rw [t0]; trivial)
end L2I
