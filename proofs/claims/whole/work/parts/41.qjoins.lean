/-! the reference's stack for a question -/
def QS (h0 h : Hp) (st : List Int) : Prop := h 68 93 = st.length ∧ Stk (h 135) st ∧ Fr h0 h [(68, 93)] [135]
section L2M
variable {w : Wd} {h h0 : Hp} {K : Int → Hp → Prop}
theorem QS.keep {st : List Int} (S : QS h0 h st) {o : Int} (h1 : o ≠ 68) (h2 : o ≠ 135) : h o = h0 o := by
  funext i
  refine S.2.2 o i (fun q => h2 (List.mem_singleton.mp q)) (fun q => h1 ?_)
  have e := List.mem_singleton.mp q
  exact congrArg Prod.fst e
theorem y_qPuts {v : Int} {st : List Int} (S : QS h0 h st) (hl : st.length < 1700) (k : ∀ h1, QS h0 h1 (v :: st) → K 0 h1) : C_X12_qPuts w v h K := by
  obtain ⟨e, t, F⟩ := S
  refine c_X12_qPuts ⟨⟨by omega, by omega⟩, fun h3 e3 h5 e5 => ?_⟩
  have f3 : h3 68 93 = st.length := by rw [e3, hu_ne (by decide)]; exact e
  have f1 : h5 68 93 = ((v :: st).length : Nat) := by rw [e5, hu_if, if_pos rfl, f3, List.length_cons]; omega
  have f2 : ∀ i : Int, h5 135 i = if i = st.length then v else h 135 i := fun i => by rw [e5, hu_ne (by decide), e3, hu_if, e]
  have F3 : Fr h h3 [] [135] := by rw [e3]; exact Fr.row
  have F5 : Fr h3 h5 [(68, 93)] [] := by rw [e5]; exact Fr.cel
  refine k h5 ⟨f1, ⟨by rw [f2, if_pos rfl], t.up (k := st.length) (Int.le_refl _) (fun i hi => by rw [f2, if_neg hi])⟩, Fr.sub (L := ([(68, 93)] ++ []) ++ [(68, 93)]) (R := ([135] ++ [135]) ++ []) ((F.trans F3).trans F5) (fun p q => Or.inl (by simpa using q)) (fun o q => by simpa using q)⟩
theorem y_qClip {v : Int} (hv : inL v) (k : K (clipI v) h) : C_X12_qClip w v h K := by
  unfold clipI at k
  refine c_X12_qClip ⟨hv, fun c => ⟨hv, fun c2 => ?_, fun c2 => ?_⟩, fun c => ?_⟩
  · rw [if_neg (by omega), if_neg (by omega)] at k; exact k
  · rw [if_neg (by omega), if_pos (by omega)] at k; exact k
  · rw [if_pos (by omega)] at k; exact k
theorem y_qFloor {a b : Int} (ha : -1000000 ≤ a ∧ a ≤ 1000000) (hb : -1000000 ≤ b ∧ b ≤ 1000000) (k : K (if b = 0 then 0 else Int.fdiv a b) h) : C_X12_qFloor w a b h K := by
  have lb : inL b := ⟨by omega, by omega⟩
  have la : inL a := ⟨by omega, by omega⟩
  refine c_X12_qFloor ⟨lb, fun c => ⟨⟨by omega, by omega⟩, lb, c, ⟨by omega, by omega⟩, lb, c, ?_⟩, fun c => ?_⟩
  · have f := fdiv_t (a := a) c
    have e := Int.mul_tdiv_add_tmod a b
    rw [Int.mul_comm] at e
    have t := tdiv_ok (b := b) ha
    rw [if_neg c] at k
    have go : Int.tmod a b ≠ 0 → (¬ (0 ≤ a ↔ 0 ≤ b)) → K (Int.tdiv a b - 1) h := fun g g2 => by rw [(f.2 g2).2 (by omega)]; exact k
    have go1 : (0 ≤ a ↔ 0 ≤ b) → K (Int.tdiv a b) h := fun g2 => by rw [f.1 g2]; exact k
    refine ⟨⟨by omega, by omega⟩, fun g => ?_, fun g => ⟨la, fun g1 => ⟨lb, fun g2 => go1 (by omega), fun g2 => go g (by omega)⟩, fun g1 => ⟨lb, fun g2 => go g (by omega), fun g2 => go1 (by omega)⟩⟩⟩
    by_cases q : 0 ≤ a ↔ 0 ≤ b
    · exact go1 q
    · rw [(f.2 q).1 (by omega)]; exact k
  · rw [if_pos (by omega)] at k; exact k
theorem y_qJoins {s a b : Int} {q : List Int} (hs : 1 ≤ s ∧ s ≤ 11) (ha : -1000000 ≤ a ∧ a ≤ 1000000) (hb : -1000000 ≤ b ∧ b ≤ 1000000) (S : QS h0 h (b :: a :: q)) (hl : q.length < 1600) (k : ∀ h1, QS h0 h1 (jn (-s) a b :: q) → K 0 h1) : C_X12_qJoins w s h K := by
  obtain ⟨e, ⟨t1, t2, t3⟩, F⟩ := S
  rw [List.length_cons] at t1
  rw [List.length_cons, List.length_cons] at e
  have i1 : h 68 93 - 1 = (q.length + 1 : Nat) := by omega
  have i2 : h 68 93 - 2 = (q.length : Nat) := by omega
  refine c_X12_qJoins ?_
  rw [i1, i2, t1, t2]
  refine ⟨⟨by omega, by omega⟩, ⟨by omega, by omega⟩, fun h3 e3 => ?_⟩
  have S3 : QS h0 h3 q := by
    have f2 : h3 135 = h 135 := by rw [e3]; funext i; exact hu_ne (by decide)
    have F2 : Fr h h3 [(68, 93)] [] := by rw [e3]; exact Fr.cel
    exact ⟨by rw [e3, hu_if, if_pos rfl], by rw [f2]; exact t3, Fr.sub (L := [(68, 93)] ++ [(68, 93)]) (R := [135] ++ []) (F.trans F2) (fun p q => Or.inl (by simpa using q)) (fun o q => by simpa using q)⟩
  have la : inL a := ⟨by omega, by omega⟩
  have lb : inL b := ⟨by omega, by omega⟩
  have P : ∀ v, jn (-s) a b = v → C_X12_qPuts w v h3 (fun _ h1 => K 0 h1) := fun v e => y_qPuts S3 (by omega) (fun h1 S1 => k h1 (by rw [e]; exact S1))
  refine ⟨⟨by omega, by omega⟩, fun c => ?_, fun c => ?_, fun c => ?_, fun c => ?_, fun c => ⟨la, lb, fun g => ?_, fun g => ?_⟩, fun c => ⟨la, lb, fun g => ?_, fun g => ?_⟩, fun c => ⟨la, lb, fun g => ?_, fun g => ?_⟩, fun c => ⟨la, lb, fun g => ?_, fun g => ?_⟩, fun c => ⟨la, lb, fun g => ?_, fun g => ?_⟩, fun c => ?_, fun c => ⟨⟨by omega, by omega⟩, fun g => ?_, fun g => ?_⟩⟩
  · subst c; exact y_qClip ⟨by omega, by omega⟩ (P _ (by unfold jn; exact if_pos rfl))
  · subst c; exact y_qClip ⟨by omega, by omega⟩ (P _ (by unfold jn; repeat rw [if_neg (by decide)]
                                                         exact if_pos rfl))
  · subst c; exact y_qClip (mul_b ha hb) (P _ (by unfold jn; repeat rw [if_neg (by decide)]
                                                  exact if_pos rfl))
  · subst c; exact y_qFloor ha hb (P _ (by unfold jn; repeat rw [if_neg (by decide)]
                                           exact if_pos rfl))
  · subst c; exact P _ (by unfold jn; repeat rw [if_neg (by decide)]
                           rw [if_pos rfl, Int.min_eq_right g])
  · subst c; exact P _ (by unfold jn; repeat rw [if_neg (by decide)]
                           rw [if_pos rfl, Int.min_eq_left (by omega)])
  · subst c; exact P _ (by unfold jn; repeat rw [if_neg (by decide)]
                           rw [if_pos rfl, Int.max_eq_right g])
  · subst c; exact P _ (by unfold jn; repeat rw [if_neg (by decide)]
                           rw [if_pos rfl, Int.max_eq_left (by omega)])
  · subst c; exact P _ (by unfold jn; repeat rw [if_neg (by decide)]
                           rw [if_pos rfl, if_neg (by omega)])
  · subst c; exact P _ (by unfold jn; repeat rw [if_neg (by decide)]
                           rw [if_pos rfl, if_pos (by omega)])
  · subst c; exact P _ (by unfold jn; repeat rw [if_neg (by decide)]
                           rw [if_pos rfl, if_neg (by omega)])
  · subst c; exact P _ (by unfold jn; repeat rw [if_neg (by decide)]
                           rw [if_pos rfl, if_pos (by omega)])
  · subst c; exact P _ (by unfold jn; repeat rw [if_neg (by decide)]
                           rw [if_pos rfl, if_neg g])
  · subst c; exact P _ (by unfold jn; repeat rw [if_neg (by decide)]
                           rw [if_pos rfl, if_pos (by omega)])
  · subst c; exact P _ (by unfold jn; repeat rw [if_neg (by decide)]
                           exact if_pos rfl)
  · have c : s = 11 := by omega
    subst c; exact P _ (by unfold jn; repeat rw [if_neg (by decide)]
                           rw [if_pos rfl, if_neg (by omega)])
  · have c : s = 11 := by omega
    subst c; exact P _ (by unfold jn; repeat rw [if_neg (by decide)]
                           rw [if_pos rfl, if_pos (by omega)])
end L2M
