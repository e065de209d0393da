/-! the reference's worth of a question -/
def qR (s c : Int) : Prop := (0 ≤ s ∧ c = s + 1000) ∨ (s = 1 ∧ c = 13) ∨ (s = -20 ∧ c = 40) ∨ (s = -27 ∧ c = 41) ∨ (s = -28 ∧ c = 42) ∨ (s = -13 ∧ c = 60) ∨ (s = -14 ∧ c = 61) ∨ (-12 ≤ s ∧ s ≤ -1 ∧ c = -s)
theorem clipI_id {v : Int} (h : -1000000 ≤ v ∧ v ≤ 1000000) : clipI v = v := by
  unfold clipI
  rw [if_neg (by omega), if_neg (by omega)]
section L2N
variable {w : Wd} {h h0 : Hp} {K : Int → Hp → Prop}
theorem y_qTold {a1 : Int} {n : Nat} {b : Bool} {kn ly ho f : Int → Int} (W : wff f n b) (hn : h0 68 87 = n) (hn2 : n ≤ 1600)
    (hc : ∀ i : Nat, i < n → qR (f i) (h0 133 i))
    (B4 : ∀ j : Int, -1000000 ≤ kn j ∧ kn j ≤ 1000000) (B5 : ∀ j : Int, -1000000 ≤ ly j ∧ ly j ≤ 1000000) (B6 : ∀ j : Int, -1000000 ≤ ho j ∧ ho j ≤ 1000000)
    (PO : ∀ (h : Hp) (K : Int → Hp → Prop) (p j : Int), Fr h0 h [(68, 93)] [135] → (p = 0 ∧ j = 0) ∨ (p = 1 ∧ j = 7) ∨ (p = 2 ∧ j = 8) → K (kn j) h → C_X12_qPartOf w p a1 h K)
    (OF : ∀ (h : Hp) (K : Int → Hp → Prop) (p a v : Int), Fr h0 h [(68, 93)] [135] → -1000000 ≤ a ∧ a ≤ 1000000 → (p = 0 ∧ v = ly a) ∨ (p = 1 ∧ v = ho a) → K v h → C_X12_qOf w p a a1 h K)
    (k : ∀ v h1, Fr h0 h1 [(68, 93)] [135] → VOK [b] [v] → v = (evl kn ly ho f n).headD 0 → K v h1) : C_X12_qTold w a1 h0 K := by
  obtain ⟨ts, t0, tn, T⟩ := W
  have L : ∀ m i : Nat, i + m = n → ∀ h st, QS h0 h st → st = evl kn ly ho f i → VOK (ts i) st → L_X12_qTold_7 w a1 i h K := by
    intro m
    induction m with
    | zero =>
      intro i e h st S es V
      have e : i = n := e
      subst e
      have f1 : h 68 87 = i := by rw [S.2.2 68 87 (by decide) (by decide)]; exact hn
      rw [tn] at V
      cases st with
      | nil => exact absurd V id
      | cons v q =>
        cases q with
        | cons _ _ => exact absurd V.2 id
        | nil =>
          have e0 : h 135 0 = v := S.2.1.1
          exact l_X12_qTold_7 ⟨⟨by omega, by omega⟩, ⟨by omega, by omega⟩, fun _ => by rw [e0]; exact k v h S.2.2 V (by rw [← es]; rfl), fun c => absurd (by omega) c⟩
    | succ m ih =>
      intro i e h st S es V
      have T1 := T i (by omega)
      have V' := stp_ok B4 B5 B6 T1.1 V
      have go : ∀ h1, QS h0 h1 (stp kn ly ho (f i) st) → L_X12_qTold_7 w a1 ((i : Int) + 1) h1 K := fun h1 S1 => ih (i + 1) (by omega) h1 _ S1 (by rw [es]; rfl) V'
      have lv : st.length ≤ 60 := by rw [V.len]; exact T1.2
      have f1 : h 68 87 = n := by rw [S.2.2 68 87 (by decide) (by decide)]; exact hn
      have f2 : qR (f i) (h 133 i) := by rw [S.keep (by decide) (by decide)]; exact hc i (by omega)
      refine l_X12_qTold_7 ⟨⟨by omega, by omega⟩, ⟨by omega, by omega⟩, fun c => absurd c (by omega), fun _ => ⟨⟨by omega, by omega⟩, ?_⟩⟩
      have T2 := T1.1
      generalize f (i : Int) = s at go T2 f2
      generalize h 133 (i : Int) = c at f2 ⊢
      have sr : s ≤ 9999 := by
        rcases T2 with ⟨h1, h2, _⟩ | ⟨h1, _⟩ | ⟨h1, h2, _⟩ | ⟨h1, r, e1, _⟩ | ⟨h1, r, e1, _⟩ | ⟨h1, h2, r, e1, _⟩ | ⟨h1, h2, r, e1, _⟩ | ⟨h1, h2, r, e1, _⟩ <;> omega
      have cr : inR c := by
        rcases f2 with g | g | g | g | g | g | g | g <;> exact ⟨by omega, by omega⟩
      have put : 0 ≤ s → ∀ v, v = s → C_X12_qPuts w v h (fun _ h1 => L_X12_qTold_7 w a1 ((i : Int) + 1) h1 K) := fun g v ev => by
        have e2 : stp kn ly ho s st = s :: st := by unfold stp; rw [if_pos g]
        rw [e2] at go
        subst ev
        exact y_qPuts S (by omega) go
      refine ⟨cr, fun g1 => ⟨cr, fun g2 => ⟨cr, fun g3 => ⟨cr, fun g4 => ⟨cr, fun g5 => ?_, fun g5 => ?_⟩, fun g4 => ?_⟩, fun g3 => ?_⟩, fun g2 => ?_⟩, fun g1 => ⟨⟨by omega, by omega⟩, ?_⟩⟩
      · have ec : c = -s ∧ -11 ≤ s ∧ s ≤ -1 := by
          rcases f2 with g | g | g | g | g | g | g | g <;> omega
        obtain ⟨rfl, s1, s2⟩ := ec
        have fin : ∀ a b q, st = b :: a :: q → (-1000000 ≤ a ∧ a ≤ 1000000) → (-1000000 ≤ b ∧ b ≤ 1000000) → C_X12_qJoins w (-s) h (fun _ h1 => L_X12_qTold_7 w a1 ((i : Int) + 1) h1 K) := fun a b q e1 ha hb => by
          subst e1
          rw [List.length_cons, List.length_cons] at lv
          rw [stp_j (by omega) (by omega) (by omega) (by omega) (by omega)] at go
          exact y_qJoins ⟨by omega, by omega⟩ ha hb S (by omega) (fun h1 S1 => go h1 (by rw [Int.neg_neg] at S1; exact S1))
        rcases T2 with ⟨h1, h2, _⟩ | ⟨h1, _⟩ | ⟨h1, h2, _⟩ | ⟨h1, r, e1, _⟩ | ⟨h1, r, e1, _⟩ | ⟨h1, h2, r, e1, _⟩ | ⟨h1, h2, r, e1, _⟩ | ⟨h1, h2, r, e1, _⟩
        · omega
        · omega
        · omega
        · omega
        · omega
        · rw [e1] at V
          obtain ⟨y, q, e3, hb, V⟩ := V.n1
          obtain ⟨x, q, e4, ha, V⟩ := V.n1
          exact fin x y q (by rw [e3, e4]) ha hb
        · rw [e1] at V
          obtain ⟨y, q, e3, hb, V⟩ := V.n1
          obtain ⟨x, q, e4, ha, V⟩ := V.n1
          exact fin x y q (by rw [e3, e4]) ha hb
        · rw [e1] at V
          obtain ⟨y, q, e3, hb, V⟩ := V.b1
          obtain ⟨x, q, e4, ha, V⟩ := V.b1
          exact fin x y q (by rw [e3, e4]) ⟨by omega, by omega⟩ ⟨by omega, by omega⟩
      · have ec : s = -12 := by
          rcases f2 with g | g | g | g | g | g | g | g <;> omega
        subst ec
        rcases T2 with ⟨h1, h2, _⟩ | ⟨h1, _⟩ | ⟨h1, h2, _⟩ | ⟨h1, r, e1, _⟩ | ⟨h1, r, e1, _⟩ | ⟨h1, h2, r, e1, _⟩ | ⟨h1, h2, r, e1, _⟩ | ⟨h1, h2, r, e1, _⟩
        · omega
        · omega
        · omega
        · rw [e1] at V
          obtain ⟨x, q, rfl, ha, V⟩ := V.b1
          obtain ⟨e, ⟨u1, u2⟩, F⟩ := S
          rw [List.length_cons] at lv e
          have i1 : h 68 93 - 1 = (q.length : Nat) := by omega
          rw [i1, u1]
          refine ⟨⟨by omega, by omega⟩, ⟨by omega, by omega⟩, fun h2 e2 => go h2 ?_⟩
          have F2 : Fr h h2 [] [135] := by rw [e2]; exact Fr.row
          have r2 : ∀ j : Int, h2 135 j = if j = q.length then 1 - x else h 135 j := fun j => by rw [e2, hu_if]
          refine ⟨by rw [e2, hu_ne (by decide), e]; rfl, ⟨by show h2 135 (q.length : Int) = 1 - x; rw [r2, if_pos rfl], u2.up (k := q.length) (Int.le_refl _) (fun j hj => by rw [r2, if_neg hj])⟩, Fr.sub (L := [(68, 93)] ++ []) (R := [135] ++ [135]) (F.trans F2) (fun p q => Or.inl (by simpa using q)) (fun o q => by simpa using q)⟩
        · omega
        · omega
        · omega
        · omega
      · exact put (by rcases f2 with g | g | g | g | g | g | g | g <;> omega) 1 (by rcases f2 with g | g | g | g | g | g | g | g <;> omega)
      · have ec : ∃ j, ((c - 40 = 0 ∧ j = 0) ∨ (c - 40 = 1 ∧ j = 7) ∨ (c - 40 = 2 ∧ j = 8)) ∧ s = -20 - j := by
          rcases f2 with g | g | g | g | g | g | g | g
          · omega
          · omega
          · exact ⟨0, by omega, by omega⟩
          · exact ⟨7, by omega, by omega⟩
          · exact ⟨8, by omega, by omega⟩
          · omega
          · omega
          · omega
        obtain ⟨j, ej, es2⟩ := ec
        have e2 : stp kn ly ho s st = kn j :: st := by
          unfold stp; rw [if_neg (by omega), if_pos (by omega), show -20 - s = j by omega]
        rw [e2] at go
        have b := B4 j
        exact PO h _ _ j S.2.2 ej (y_qClip ⟨by omega, by omega⟩ (by rw [clipI_id b]; exact y_qPuts S (by omega) go))
      · have ec : (c - 60 = 0 ∧ s = -13) ∨ (c - 60 = 1 ∧ s = -14) := by
          rcases f2 with g | g | g | g | g | g | g | g <;> omega
        rcases T2 with ⟨h1, h2, _⟩ | ⟨h1, _⟩ | ⟨h1, h2, _⟩ | ⟨h1, r, e1, _⟩ | ⟨h1, r, e1, _⟩ | ⟨h1, h2, r, e1, _⟩ | ⟨h1, h2, r, e1, _⟩ | ⟨h1, h2, r, e1, _⟩
        · omega
        · omega
        · omega
        · omega
        · rw [e1] at V
          obtain ⟨x, q, rfl, ha, V⟩ := V.n1
          have S0 := S
          obtain ⟨e, ⟨u1, u2⟩, F⟩ := S
          rw [List.length_cons] at lv e
          have i1 : h 68 93 - 1 = (q.length : Nat) := by omega
          rw [i1, u1]
          obtain ⟨v, hv, bv, es3⟩ : ∃ v, ((c - 60 = 0 ∧ v = ly x) ∨ (c - 60 = 1 ∧ v = ho x)) ∧ (-1000000 ≤ v ∧ v ≤ 1000000) ∧ stp kn ly ho s (x :: q) = v :: q := by
            rcases ec with ⟨g1, g2⟩ | ⟨g1, g2⟩
            · exact ⟨ly x, Or.inl ⟨g1, rfl⟩, B5 x, by subst g2; rfl⟩
            · exact ⟨ho x, Or.inr ⟨g1, rfl⟩, B6 x, by subst g2; rfl⟩
          rw [es3] at go
          refine ⟨⟨by omega, by omega⟩, OF h _ _ x v F ha hv (y_qClip ⟨by omega, by omega⟩ ?_)⟩
          rw [clipI_id bv]
          refine ⟨⟨by omega, by omega⟩, fun h2 e2 => go h2 ?_⟩
          have F2 : Fr h h2 [] [135] := by rw [e2]; exact Fr.row
          have r2 : ∀ j : Int, h2 135 j = if j = q.length then v else h 135 j := fun j => by rw [e2, hu_if]
          refine ⟨by rw [e2, hu_ne (by decide), e]; rfl, ⟨by rw [r2, if_pos rfl], u2.up (k := q.length) (Int.le_refl _) (fun j hj => by rw [r2, if_neg hj])⟩, Fr.sub (L := [(68, 93)] ++ []) (R := [135] ++ [135]) (F.trans F2) (fun p q => Or.inl (by simpa using q)) (fun o q => by simpa using q)⟩
        · omega
        · omega
        · omega
      · exact put (by rcases f2 with g | g | g | g | g | g | g | g <;> omega) _ (by rcases f2 with g | g | g | g | g | g | g | g <;> omega)
  refine c_X12_qTold (fun h1' e1 => ?_)
  have F : Fr h0 h1' [(68, 93)] [135] := by rw [e1]; exact Fr.sub Fr.cel (fun p q => Or.inl q) (fun o q => absurd q List.not_mem_nil)
  exact L n 0 (by omega) h1' [] ⟨by rw [e1, hu_if, if_pos rfl]; rfl, trivial, F⟩ rfl (by rw [t0]; trivial)
end L2N
