/-! the reference's told: a river's formula, kept between nothing and a bound -/
def cdI (s : Int) : Int := if 0 ≤ s then s + 1000 else if s ≤ -20 then -13 - s else -s
section L2K
variable {w : Wd} {h h0 : Hp} {K : Int → Hp → Prop}
theorem y_told {a1 a2 fr : Int} {n : Nat} {kn ly ho f : Int → Int} (ha1 : 0 ≤ a1 ∧ a1 ≤ 1) (ha2 : inR a2) (W : wff f n false)
    (hf : ∀ i : Nat, i < n → 0 ≤ f i ∨ (-26 ≤ f i ∧ f i ≤ -20) ∨ (-6 ≤ f i ∧ f i ≤ -1))
    (hc : ∀ i : Nat, i < n → h0 100 (1600 + (fr + i)) = cdI (f i)) (h1 : h0 98 (2 + a1) = fr) (h2 : h0 99 (2 + a1) = fr + n) (h3 : 0 ≤ fr) (h4 : fr + n ≤ 1600)
    (B4 : ∀ j : Int, -1000000 ≤ kn j ∧ kn j ≤ 1000000) (B5 : ∀ j : Int, -1000000 ≤ ly j ∧ ly j ≤ 1000000) (B6 : ∀ j : Int, -1000000 ≤ ho j ∧ ho j ≤ 1000000)
    (hk : ∀ j : Int, 0 ≤ j → j < 7 → h0 103 j = kn j)
    (k : ∀ v h1, Fr h0 h1 [(68, 50)] [102] → -1000000 ≤ v ∧ v ≤ 1000000 → v = (evl kn ly ho f n).headD 0 → K (if v ≥ 0 then (if v ≤ a2 then v else a2) else 0) h1) : C_X12_told w a1 a2 h0 K := by
  obtain ⟨ts, t0, tn, T⟩ := W
  have L : ∀ m i : Nat, i + m = n → ∀ h st, MS h0 h st → st = evl kn ly ho f i → VOK (ts i) st → L_X12_told_14 w a1 a2 (fr + i) h K := by
    intro m
    induction m with
    | zero =>
      intro i e h st S es V
      have e : i = n := e
      subst e
      have f1 : h 99 (2 + a1) = fr + i := by rw [S.keep (by omega) (by omega)]; exact h2
      rw [tn] at V
      obtain ⟨v, q, rfl, hv, V⟩ := V.n1
      cases q with
      | cons _ _ => exact absurd V id
      | nil =>
        have e0 : h 102 0 = v := S.2.1.1
        have kk := k v h S.2.2 hv (by rw [← es]; rfl)
        refine l_X12_told_14 ⟨⟨by omega, by omega⟩, ⟨by omega, by omega⟩, ⟨by omega, by omega⟩, fun _ => ?_, fun c => absurd (by omega) c⟩
        rw [e0]
        refine ⟨⟨by omega, by omega⟩, fun c => ⟨ha2, ⟨by omega, by omega⟩, ⟨by omega, by omega⟩, fun c2 => ?_, fun c2 => ?_⟩, fun c => ?_⟩
        · rw [if_pos c, if_pos c2] at kk; exact kk
        · rw [if_pos c, if_neg c2] at kk; exact kk
        · rw [if_neg c] at kk; exact kk
    | succ m ih =>
      intro i e h st S es V
      have T1 := T i (by omega)
      have V' := stp_ok B4 B5 B6 T1.1 V
      have go : ∀ h1, MS h0 h1 (stp kn ly ho (f i) st) → L_X12_told_14 w a1 a2 (fr + (i : Int) + 1) h1 K := fun h1 S1 => by
        have := ih (i + 1) (by omega) h1 _ S1 (by rw [es]; rfl) V'
        rw [show fr + (i : Int) + 1 = fr + ((i + 1 : Nat) : Int) by omega]
        exact this
      have lv : st.length ≤ 60 := by rw [V.len]; exact T1.2
      have f1 : h 99 (2 + a1) = fr + n := by rw [S.keep (by omega) (by omega)]; exact h2
      have f2 : h 100 (1600 + (fr + i)) = cdI (f i) := by rw [S.keep (by omega) (by omega)]; exact hc i (by omega)
      have f3 : ∀ j : Int, 0 ≤ j → j < 7 → h 103 j = kn j := fun j q1 q2 => by rw [S.keep (by omega) (by omega)]; exact hk j q1 q2
      refine l_X12_told_14 ⟨⟨by omega, by omega⟩, ⟨by omega, by omega⟩, ⟨by omega, by omega⟩, fun c => absurd c (by omega), fun _ => ⟨⟨by omega, by omega⟩, ?_⟩⟩
      rw [f2]
      have T2 := T1.1
      have hr := hf i (by omega)
      generalize f (i : Int) = s at go T2 hr ⊢
      have sr : s ≤ 9999 := by
        rcases T2 with ⟨h1, h2, _⟩ | ⟨h1, _⟩ | ⟨h1, h2, _⟩ | ⟨h1, r, e1, _⟩ | ⟨h1, r, e1, _⟩ | ⟨h1, h2, r, e1, _⟩ | ⟨h1, h2, r, e1, _⟩ | ⟨h1, h2, r, e1, _⟩ <;> omega
      rcases hr with g | g | g
      · have ec : cdI s = s + 1000 := by unfold cdI; rw [if_pos g]
        rw [ec]
        have e2 : stp kn ly ho s st = s :: st := by unfold stp; rw [if_pos g]
        rw [e2] at go
        refine ⟨⟨by omega, by omega⟩, fun c => absurd c (by omega), fun _ => ⟨⟨by omega, by omega⟩, ?_⟩⟩
        rw [show s + 1000 - 1000 = s by omega]
        exact y_puts S (by omega) go
      · have ec : cdI s = -13 - s := by unfold cdI; rw [if_neg (by omega), if_pos g.2]
        rw [ec]
        have e2 : stp kn ly ho s st = kn (-20 - s) :: st := by unfold stp; rw [if_neg (by omega), if_pos g.2]
        rw [e2] at go
        have b := B4 (-20 - s)
        refine ⟨⟨by omega, by omega⟩, fun _ => ⟨⟨by omega, by omega⟩, ⟨by omega, by omega⟩, fun c => absurd c (by omega), fun _ => ⟨⟨by omega, by omega⟩, fun c => absurd c (by omega), fun _ => ?_⟩⟩, fun c => absurd (by omega) c⟩
        rw [show -13 - s - 7 = -20 - s by omega, f3 _ (by omega) (by omega)]
        exact ⟨⟨by omega, by omega⟩, ⟨by omega, by omega⟩, y_puts S (by omega) go⟩
      · have ec : cdI s = -s := by unfold cdI; rw [if_neg (by omega), if_neg (by omega)]
        rw [ec]
        refine ⟨⟨by omega, by omega⟩, fun _ => ⟨⟨by omega, by omega⟩, ⟨by omega, by omega⟩, fun _ => ?_, fun c => absurd (by omega) c⟩, fun c => absurd (by omega) c⟩
        rcases T2 with ⟨h1, h2, _⟩ | ⟨h1, _⟩ | ⟨h1, h2, _⟩ | ⟨h1, r, e1, _⟩ | ⟨h1, r, e1, _⟩ | ⟨h1, h2, r, e1, _⟩ | ⟨h1, h2, r, e1, _⟩ | ⟨h1, h2, r, e1, _⟩
        · omega
        · omega
        · omega
        · omega
        · omega
        · rw [e1] at V
          obtain ⟨y, q, rfl, hb, V⟩ := V.n1
          obtain ⟨x, q, rfl, ha, V⟩ := V.n1
          rw [List.length_cons, List.length_cons] at lv
          rw [stp_j (by omega) (by omega) (by omega) (by omega) (by omega)] at go
          exact y_joins ⟨by omega, by omega⟩ ha hb S (by omega) (fun h1 S1 => go h1 (by rw [Int.neg_neg] at S1; exact S1))
        · omega
        · omega
  refine c_X12_told (fun h1' e1 => ⟨⟨by omega, by omega⟩, ?_⟩)
  have F : Fr h0 h1' [(68, 50)] [102] := by rw [e1]; exact Fr.sub Fr.cel (fun p q => Or.inl q) (fun o q => absurd q List.not_mem_nil)
  have f1 : h1' 98 (2 + a1) = fr + (0 : Nat) := by rw [e1, hu_ne (by decide), h1]; omega
  rw [f1]
  exact L n 0 (by omega) h1' [] ⟨by rw [e1, hu_if, if_pos rfl]; rfl, trivial, F⟩ rfl (by rw [t0]; trivial)
end L2K
