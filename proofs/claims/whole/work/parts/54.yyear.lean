/-! the reference's year -/
section L2Z
variable {w : Wd} {h h0 : Hp} {K : Int → Hp → Prop} {r lv : Int} {st g : Int → Int}
theorem YV.fr {h' : Hp} {L : List (Int × Int)} {R : List Int} (V : YV h0 st lv g h) (F : Fr h h' L R) (ok : okF L R [] [106, 107, 109, 110, 111] = true) : YV h0 st lv g h' := by
  obtain ⟨-, q⟩ := F.cell ok
  unfold YV
  rw [q 106 (by decide), q 107 (by decide), q 109 (by decide), q 110 (by decide), q 111 (by decide)]
  exact V
theorem y_yearGoes (C : CX h0 r lv (sN g) g) (S : Sl h0 h) (hg : ∀ i : Int, 0 ≤ i → i < 109 → h 104 i = g i) (k : ∀ h1, Fr h h1 [(68, 50)] (104 :: 105 :: yfR) → Sl h0 h1 → (∀ i : Int, 0 ≤ i → i < 109 → h1 104 i = yrP h0 (sN g) lv g i) → K (saP h0 (sN g) lv g) h1) : C_X12_yearGoes w lv h K := by
  refine c_X12_yearGoes (y_wouldBe C S hg (fun h2 F2 A2 V2 => ?_))
  have s5 : h2 97 5 = h0 97 5 := A2.1.2.2.2.2.2.2.2.2.1 5 (by omega)
  -- the interest, cell by cell
  have L54 : ∀ j m : Nat, m + j = 80 → ∀ h', Fr h2 h' [] [104] → (∀ i : Int, 0 ≤ i → i < 109 → h' 104 i = if i < 9 then g i else if i < 19 then hdP h0 (sN g) lv g (i - 9) else if i < 29 then s2P h0 (sN g) lv g m (i - 19) else if i < 29 + m then lyP h0 (sN g) lv g ((i - 29) / 10) ((i - 29) % 10) - pdP h0 (sN g) lv g ((i - 29) / 10) ((i - 29) % 10) else g i) → L_X12_yearGoes_54 w m h' K := by
    intro j
    induction j with
    | zero =>
      intro m e h' F' V
      obtain rfl : m = 80 := e
      refine l_X12_yearGoes_54 ⟨⟨by omega, by omega⟩, fun _ => fun h16 e16 => ?_, fun c => absurd (by omega) c⟩
      have F16 : Fr h' h16 [] [104] := by rw [e16]; exact Fr.row
      have FF : Fr h2 h16 [] [104] := (F'.trans F16).into (by decide)
      have S16 : Sl h0 h16 := A2.1.tr (Sl.of (by rw [A2.1.1]; exact C.rr.2) FF (by decide))
      refine y_settledAll C S16 (V2.fr FF (by decide)) (k h16 ((F2.trans FF).into (by decide)) S16 (fun i i0 i1 => ?_))
      rw [e16, hu_if]
      unfold yrP
      by_cases c : i = 0
      · rw [if_pos c, if_pos c, V 0 (by omega) (by omega), if_pos (by omega)]
      · rw [if_neg c, if_neg c, V i i0 i1]
        by_cases c1 : i < 9
        · rw [if_pos c1, if_pos c1]
        · rw [if_neg c1, if_neg c1]
          by_cases c2 : i < 19
          · rw [if_pos c2, if_pos c2]
          · rw [if_neg c2, if_neg c2]
            by_cases c3 : i < 29
            · rw [if_pos c3, if_pos c3]
            · rw [if_neg c3, if_neg c3, if_pos (by omega)]
    | succ j ih =>
      intro m e h' F' V
      have l := ly_b C (x := (m : Int) / 10) (b := (m : Int) % 10) ⟨by omega, by omega⟩ ⟨by omega, by omega⟩
      have v1 : h' 104 (29 + m) = g (29 + m) := by
        rw [V (29 + m) (by omega) (by omega), if_neg (by omega), if_neg (by omega), if_neg (by omega), if_neg (by omega)]
      have v2 : h' 110 m = if (m : Int) / 10 < nrN h0 ∧ (m : Int) % 10 < nbN h0 then sdP h0 (sN g) lv g ((m : Int) % 10) ((m : Int) / 10).toNat else 0 := by
        rw [(F'.cell (C := []) (W := [110]) (by decide)).2 110 (by decide)]
        have := (V2.2 ((m : Int) / 10).toNat ((m : Int) % 10) (by omega) (by omega) (by omega)).1
        rw [show (((m : Int) / 10).toNat : Int) = (m : Int) / 10 by omega, show 10 * ((m : Int) / 10) + (m : Int) % 10 = m by omega] at this
        rw [this]
        by_cases c : (m : Int) / 10 < nrN h0 ∧ (m : Int) % 10 < nbN h0
        · rw [if_pos c, if_pos ⟨by omega, c.2⟩]
        · rw [if_neg c, if_neg (fun q => c ⟨by omega, q.2⟩)]
      have v3 : h' 104 (29 + m) + h' 110 m = lyP h0 (sN g) lv g ((m : Int) / 10) ((m : Int) % 10) := by
        rw [v1, v2]; unfold lyP
        rw [show 29 + 10 * ((m : Int) / 10) + (m : Int) % 10 = 29 + m by omega]
      have v5 : h' 97 5 = h0 97 5 := by rw [(F'.cell (C := []) (W := [97]) (by decide)).2 97 (by decide)]; exact s5
      refine l_X12_yearGoes_54 ?_
      rw [v3, v5]
      refine ⟨⟨by omega, by omega⟩, fun c => absurd c (by omega), fun _ => ⟨⟨by omega, by omega⟩, ⟨by omega, by omega⟩, ⟨l.2.2.2.2.1, l.2.2.2.2.2⟩, ⟨by omega, by omega⟩, fun h25 e25 => ⟨⟨by omega, by omega⟩, ⟨by omega, by omega⟩, ⟨by omega, by omega⟩, fun h30 e30 => ?_⟩⟩⟩
      have F25 : Fr h' h25 [] [104] := by rw [e25]; exact Fr.row
      have F30 : Fr h25 h30 [] [104] := by rw [e30]; exact Fr.row
      refine ih (m + 1) (by omega) h30 ((F'.trans (F25.trans F30)).into (by decide)) (fun i i0 i1 => ?_)
      have w25 : h25 104 (19 + (m : Int) % 10) = s2P h0 (sN g) lv g m ((m : Int) % 10) := by rw [e25, hu_if, if_neg (by omega), V _ (by omega) (by omega), if_neg (by omega), if_neg (by omega), if_pos (by omega), show 19 + (m : Int) % 10 - 19 = (m : Int) % 10 by omega]
      rw [e30, hu_if, w25, e25, hu_if, V i i0 i1]
      have ep : lyP h0 (sN g) lv g ((m : Int) / 10) ((m : Int) % 10) * h0 97 5 / 100 = pdK h0 (sN g) lv g m := rfl
      rw [ep]
      have es : ∀ b : Int, s2P h0 (sN g) lv g (m + 1) b = s2P h0 (sN g) lv g m b + (if (m : Int) % 10 = b then pdK h0 (sN g) lv g m else 0) := fun b => by
        unfold s2P
        exact (Int.add_assoc _ _ _).symm
      by_cases c1 : i < 9
      · rw [if_pos c1, if_neg (by omega), if_neg (by omega), if_pos c1]
      · rw [if_neg c1, if_neg c1]
        by_cases c2 : i < 19
        · rw [if_pos c2, if_pos c2, if_neg (by omega), if_neg (by omega)]
        · rw [if_neg c2, if_neg c2]
          by_cases c3 : i < 29
          · rw [if_pos c3, if_pos c3, es]
            by_cases c4 : i = 19 + (m : Int) % 10
            · rw [if_pos c4, show i - 19 = (m : Int) % 10 by omega, if_pos rfl]
            · rw [if_neg c4, if_neg (show ¬ i = 29 + (m : Int) by omega), if_neg (show ¬ (m : Int) % 10 = i - 19 by omega)]; omega
          · rw [if_neg c3, if_neg c3, if_neg (by omega)]
            by_cases c4 : i = 29 + m
            · rw [if_pos c4, if_pos (by omega), show (i - 29) / 10 = (m : Int) / 10 by omega, show (i - 29) % 10 = (m : Int) % 10 by omega]; rfl
            · rw [if_neg c4]
              by_cases c5 : i < 29 + m
              · rw [if_pos c5, if_pos (by omega)]
              · rw [if_neg c5, if_neg (by omega)]
  suffices ∀ j m : Nat, m + j = 10 → ∀ h', Fr h2 h' [] [104] → (∀ i : Int, 0 ≤ i → i < 109 → h' 104 i = if 9 ≤ i ∧ i < 9 + m then hdP h0 (sN g) lv g (i - 9) else if 19 ≤ i ∧ i < 19 + m then s1P h0 (sN g) lv g (i - 19) else g i) → L_X12_yearGoes_7 w m h' K from this 10 0 (by omega) h2 (Fr.into Fr.refl (by decide)) (fun i i0 i1 => by rw [if_neg (by omega), if_neg (by omega)]; exact A2.2.2 i i0 i1)
  intro j
  induction j with
  | zero =>
    intro m e h' F' V
    obtain rfl : m = 10 := e
    refine l_X12_yearGoes_7 ⟨⟨by omega, by omega⟩, fun _ => L54 80 0 (by omega) h' F' (fun i i0 i1 => ?_), fun c => absurd (by omega) c⟩
    rw [V i i0 i1]
    by_cases c1 : i < 9
    · rw [if_neg (by omega), if_neg (by omega), if_pos c1]
    · rw [if_neg c1]
      by_cases c2 : i < 19
      · rw [if_pos (by omega), if_pos c2]
      · rw [if_neg (by omega), if_neg c2]
        by_cases c3 : i < 29
        · rw [if_pos (by omega), if_pos c3]
          unfold s2P
          exact (Int.add_zero _).symm
        · rw [if_neg (by omega), if_neg c3, if_neg (by omega)]
  | succ j ih =>
    intro m e h' F' V
    have q := (F'.cell (C := []) (W := [106, 111]) (by decide)).2
    have v := V2.1 m (by omega) (by omega)
    have v1 : h' 106 m = hdP h0 (sN g) lv g m := by rw [q 106 (by decide)]; exact v.1
    refine l_X12_yearGoes_7 ⟨⟨by omega, by omega⟩, fun c => absurd c (by omega), fun _ => ⟨⟨by omega, by omega⟩, ⟨by omega, by omega⟩, fun h7 e7 => ⟨⟨by omega, by omega⟩, ⟨by omega, by omega⟩, ⟨by omega, by omega⟩, fun h12 e12 => ?_⟩⟩⟩
    have F7 : Fr h' h7 [] [104] := by rw [e7]; exact Fr.row
    have F12 : Fr h7 h12 [] [104] := by rw [e12]; exact Fr.row
    have w1 : h7 104 (19 + m) = g (19 + m) := by rw [e7, hu_if, if_neg (by omega), V _ (by omega) (by omega), if_neg (by omega), if_neg (by omega)]
    have w2 : h7 111 m = if (m : Int) < nbN h0 then caP h0 (sN g) lv g m (nrN h0) else 0 := by rw [hu_row e7 (by decide), q 111 (by decide)]; exact v.2.2
    refine ih (m + 1) (by omega) h12 ((F'.trans (F7.trans F12)).into (by decide)) (fun i i0 i1 => ?_)
    have w12 : h7 104 (19 + m) + h7 111 m = s1P h0 (sN g) lv g m := by rw [w1, w2]; rfl
    rw [e12, hu_if, w12, e7, hu_if, v1, V i i0 i1]
    by_cases c1 : i = 19 + m
    · rw [if_pos c1, if_neg (show ¬ (9 ≤ i ∧ i < 9 + ((m + 1 : Nat) : Int)) by omega), if_pos (show 19 ≤ i ∧ i < 19 + ((m + 1 : Nat) : Int) by omega), show i - 19 = m by omega]
    · rw [if_neg c1]
      by_cases c2 : i = 9 + m
      · rw [if_pos c2, if_pos (show 9 ≤ i ∧ i < 9 + ((m + 1 : Nat) : Int) by omega), show i - 9 = m by omega]
      · rw [if_neg c2]
        by_cases c3 : 9 ≤ i ∧ i < 9 + m
        · rw [if_pos c3, if_pos (show 9 ≤ i ∧ i < 9 + ((m + 1 : Nat) : Int) by omega)]
        · rw [if_neg c3, if_neg (show ¬ (9 ≤ i ∧ i < 9 + ((m + 1 : Nat) : Int)) by omega)]
          by_cases c4 : 19 ≤ i ∧ i < 19 + m
          · rw [if_pos c4, if_pos (show 19 ≤ i ∧ i < 19 + ((m + 1 : Nat) : Int) by omega)]
          · rw [if_neg c4, if_neg (show ¬ (19 ≤ i ∧ i < 19 + ((m + 1 : Nat) : Int)) by omega)]
end L2Z
