/-! river(): the class's end of it -/
/-- a state of the class as a river's text tells it -/
def ZS (h h1 : Hp) (r : Int) : Prop := h1 40 4 = 0 ∧ (∀ i : Int, 0 ≤ i → i < 8 → h1 41 i = 0) ∧ (∀ i : Int, 0 ≤ i → i < 80 → h1 42 i = 0) ∧ (∀ b : Int, 0 ≤ b → b < 10 → h1 43 b = h (r + 11) b ∧ h1 44 b = 0) ∧ (∀ o : Int, ¬ (40 ≤ o ∧ o ≤ 44) → h1 o = h o)
section L4M
variable {w : Wd} {h h' h0 h1 h2 h3 g g' : Hp} {K : Int → Hp → Prop} {t : Int → Int} {L p q : Nat} {r : Int}
theorem ob940 : Ob 9 40 := ⟨by decide, rfl⟩
theorem x_c55 (hr : r = 6 ∨ r = 23) (k : ∀ h1, (∀ b : Int, 0 ≤ b → b < 10 → h1 43 b = h (r + 11) b ∧ h1 44 b = 0) → (∀ o : Int, o ≠ 43 → o ≠ 44 → h1 o = h o) → K 0 h1) : ∀ j n : Nat, n + j = 10 → ∀ h5 : Hp, (∀ b : Int, 0 ≤ b → b < n → h5 43 b = h (r + 11) b ∧ h5 44 b = 0) → (∀ o : Int, o ≠ 43 → o ≠ 44 → h5 o = h o) → L_X9_clear_55 w 40 r n h5 K := by
  intro j
  induction j with
  | zero => intro n e h5 V fr; obtain rfl : n = 10 := e; exact l_X9_clear_55 ob940 (ob7 hr) ⟨⟨by omega, by omega⟩, fun _ => k h5 (fun b b0 b1 => V b b0 (by omega)) fr, fun c => absurd (by omega) c⟩
  | succ j ih =>
    intro n e h5 V fr
    refine l_X9_clear_55 ob940 (ob7 hr) ⟨⟨by omega, by omega⟩, fun c => absurd c (by omega), fun _ => ⟨⟨by omega, by omega⟩, ⟨by omega, by omega⟩, fun h16 q16 => ⟨⟨by omega, by omega⟩, fun h19 q19 => ih (n + 1) (by omega) h19 (fun b b0 b1 => ?_) (fun o n1 n2 => by rw [hu_row q19 (show o ≠ 40 + 4 by omega), hu_row q16 (show o ≠ 40 + 3 by omega), fr o n1 n2])⟩⟩⟩
    have e43 : h19 43 b = h16 43 b := by rw [hu_row q19 (by decide)]
    have e44 : h19 44 b = if b = n then 0 else h16 44 b := by rw [q19]; exact hu_if
    have f43 : h16 43 b = if b = n then h5 (r + 11) n else h5 43 b := by rw [q16]; exact hu_if
    have f44 : h16 44 b = h5 44 b := by rw [hu_row q16 (by decide)]
    rw [e43, e44, f43, f44]
    by_cases d : b = n
    · rw [if_pos d, if_pos d, d, fr (r + 11) (by omega) (by omega)]; exact ⟨rfl, rfl⟩
    · rw [if_neg d, if_neg d]; exact V b b0 (by omega)
theorem x_c31 (hr : r = 6 ∨ r = 23) (k : ∀ h1, (∀ i : Int, 0 ≤ i → i < 80 → h1 42 i = 0) → (∀ o : Int, o ≠ 42 → h1 o = h o) → L_X9_clear_55 w 40 r 0 h1 K) : ∀ j n : Nat, n + j = 80 → ∀ h5 : Hp, (∀ i : Int, 0 ≤ i → i < n → h5 42 i = 0) → (∀ o : Int, o ≠ 42 → h5 o = h o) → L_X9_clear_31 w 40 r n h5 K := by
  intro j
  induction j with
  | zero => intro n e h5 V fr; obtain rfl : n = 80 := e; exact l_X9_clear_31 ob940 (ob7 hr) ⟨⟨by omega, by omega⟩, fun _ => k h5 (fun b b0 b1 => V b b0 (by omega)) fr, fun c => absurd (by omega) c⟩
  | succ j ih =>
    intro n e h5 V fr
    refine l_X9_clear_31 ob940 (ob7 hr) ⟨⟨by omega, by omega⟩, fun c => absurd c (by omega), fun _ => ⟨⟨by omega, by omega⟩, fun h10 q10 => ih (n + 1) (by omega) h10 (fun i i0 i1 => ?_) (fun o n1 => by rw [hu_row q10 (show o ≠ 40 + 2 by omega), fr o n1])⟩⟩
    have e : h10 42 i = if i = n then 0 else h5 42 i := by rw [q10]; exact hu_if
    rw [e]
    by_cases d : i = n
    · rw [if_pos d]
    · rw [if_neg d]; exact V i i0 (by omega)
theorem x_c7 (hr : r = 6 ∨ r = 23) (k : ∀ h1, (∀ i : Int, 0 ≤ i → i < 8 → h1 41 i = 0) → (∀ o : Int, o ≠ 41 → h1 o = h o) → L_X9_clear_31 w 40 r 0 h1 K) : ∀ j n : Nat, n + j = 8 → ∀ h5 : Hp, (∀ i : Int, 0 ≤ i → i < n → h5 41 i = 0) → (∀ o : Int, o ≠ 41 → h5 o = h o) → L_X9_clear_7 w 40 r n h5 K := by
  intro j
  induction j with
  | zero => intro n e h5 V fr; obtain rfl : n = 8 := e; exact l_X9_clear_7 ob940 (ob7 hr) ⟨⟨by omega, by omega⟩, fun _ => k h5 (fun b b0 b1 => V b b0 (by omega)) fr, fun c => absurd (by omega) c⟩
  | succ j ih =>
    intro n e h5 V fr
    refine l_X9_clear_7 ob940 (ob7 hr) ⟨⟨by omega, by omega⟩, fun c => absurd c (by omega), fun _ => ⟨⟨by omega, by omega⟩, fun h10 q10 => ih (n + 1) (by omega) h10 (fun i i0 i1 => ?_) (fun o n1 => by rw [hu_row q10 (show o ≠ 40 + 1 by omega), fr o n1])⟩⟩
    have e : h10 41 i = if i = n then 0 else h5 41 i := by rw [q10]; exact hu_if
    rw [e]
    by_cases d : i = n
    · rw [if_pos d]
    · rw [if_neg d]; exact V i i0 (by omega)
theorem x_clear9 (hr : r = 6 ∨ r = 23) (k : ∀ h1, ZS h h1 r → K 0 h1) : C_X9_clear w 40 r h K := by
  refine c_X9_clear ob940 (ob7 hr) (fun h1 q1 => ?_)
  refine x_c7 (h := h1) hr (fun h2 V2 r2 => ?_) 8 0 rfl h1 (fun i i0 i1 => absurd i1 (by omega)) (fun _ _ => rfl)
  refine x_c31 (h := h2) hr (fun h3 V3 r3 => ?_) 80 0 rfl h2 (fun i i0 i1 => absurd i1 (by omega)) (fun _ _ => rfl)
  refine x_c55 (h := h3) hr (fun h4 V4 r4 => ?_) 10 0 rfl h3 (fun i i0 i1 => absurd i1 (by omega)) (fun _ _ _ => rfl)
  refine k h4 ⟨?_, fun i i0 i1 => ?_, fun i i0 i1 => ?_, fun b b0 b1 => ?_, fun o n => ?_⟩
  · rw [r4 40 (by decide) (by decide), r3 40 (by decide), r2 40 (by decide), q1, hu_if, if_pos rfl]
  · rw [r4 41 (by decide) (by decide), r3 41 (by decide)]; exact V2 i i0 i1
  · rw [r4 42 (by decide) (by decide)]; exact V3 i i0 i1
  · have := V4 b b0 b1
    rw [r3 (r + 11) (by omega), r2 (r + 11) (by omega), hu_row q1 (by omega)] at this
    exact this
  · rw [r4 o (by omega) (by omega), r3 o (by omega), r2 o (by omega), hu_row q1 (by omega)]
theorem rlP_42 : ∀ (k : Nat) (g : Hp) (p p' : Nat) (g' : Hp), rlP t L k g p (.inr (p', g')) → g 68 42 ≤ g' 68 42 ∧ g' 68 42 ≤ g 68 42 + k := by
  intro k
  induction k with
  | zero =>
    intro g p p' g' D
    rcases D with ⟨-, e⟩ | ⟨-, e⟩
    · have e2 : g' = g := congrArg Prod.snd (Sum.inr.inj e)
      subst e2; omega
    · exact nomatch e
  | succ k ih =>
    intro g p p' g' D
    rcases D with ⟨-, e⟩ | ⟨-, D⟩
    · have e2 : g' = g := congrArg Prod.snd (Sum.inr.inj e)
      subst e2; omega
    · obtain ⟨p1, g1, D1, D⟩ := D.ok
      obtain ⟨p2, u, D2, D⟩ := D.ok
      have := ih _ _ _ _ D
      have n42 : hu g1 68 42 (g 68 42 + 1) 68 42 = g 68 42 + 1 := by rw [hu_if, if_pos rfl]
      rw [n42] at this
      omega
theorem rdP_42 {p' : Nat} (D : rdP t L p (.inr (p', g'))) : 1 ≤ g' 68 42 ∧ g' 68 42 ≤ 70 := by
  obtain ⟨p1, u, D1, D⟩ := D.ok
  obtain ⟨p2, v, D2, D⟩ := D.ok
  obtain ⟨p3, u3, D3, D⟩ := D.ok
  have := rlP_42 _ _ _ _ _ D
  have e : gI v 68 42 = 1 := rfl
  rw [e] at this
  omega
/-- what the class's river() may change ahead of a refusal -/
def XV (r : Int) (h h' : Hp) : Prop := ∀ o i : Int, ¬ (r ≤ o ∧ o < r + 17) → ¬ (o = 1 ∧ 1 ≤ i ∧ i ≤ 5) → ¬ (o = 5 ∧ 2 ≤ i ∧ i ≤ 4) → ¬ (o = 60 ∧ i = 2) → ¬ (o = 0 ∧ (i = 18 ∨ i = 19)) → h' o i = h o i
theorem x_river (hr : r = 6 ∨ r = 23) (e5 : h 0 5 = r) (e4 : h 0 4 = 29 - r) (T : h 1 1 = L ∧ L ≤ 1600 ∧ ∀ k : Nat, k < L → (0 ≤ t k ∧ t k ≤ 255) ∧ h 2 k % 256 = t k ∧ -128 ≤ h 2 k ∧ h 2 k < 128)
    (k1 : ∀ p' g', rdP t L 0 (.inr (p', g')) → ∀ h1, CRv h1 g' r → XV r h h1 → h1 1 1 = 0 → h1 0 18 = 0 → h1 0 19 = -1 → ∀ h2, ZS (hu (hu h1 0 4 r) 0 5 (29 - r)) h2 r → ∀ h3, h3 = hu (hu h2 50 2 0) 0 15 0 → K (g' 68 42) h3)
    (k0 : ∀ f, rdP t L 0 (.inl f) → 1 ≤ f.1 → f.1 ≤ 5 → ∀ h1, XV r h h1 → h1 1 1 = 0 → h1 0 18 = f.1 → h1 0 19 = f.2 → K (-1) (hu h1 59 1 (h1 59 1 + 1))) : C_X11_river w h K := by
  refine c_X11_river (c_X10_begin (fun h1 q1 h3 q3 h5 q5 h7 q7 => ?_))
  have e7 : ∀ i : Int, h7 1 i = if i = 5 then -1 else if i = 4 then 0 else if i = 3 then 0 else if i = 2 then 0 else h 1 i := fun i => by rw [q7, hu_if, q5, hu_if, q3, hu_if, q1, hu_if]
  have r7 : ∀ o : Int, o ≠ 1 → h7 o = h o := fun o n => by rw [hu_row q7 n, hu_row q5 n, hu_row q3 n, hu_row q1 n]
  have X7 : XS t L h7 0 := ⟨⟨by rw [e7]; exact T.1, T.2.1, by rw [r7 2 (by decide)]; exact T.2.2, fun _ => by rw [e7]; rfl⟩, by rw [e7]; rfl, Nat.zero_le _, by rw [e7]; rfl⟩
  rw [r7 0 (by decide), e5]
  have V7 : ∀ h8, PV r (hu h7 60 2 r) h8 → XV r h h8 := fun h8 P o i m1 m2 m3 m4 m5 => by
    rw [P o i m1 (fun x => m2 (by omega)) m3]
    have : hu h7 60 2 r o i = h7 o i := by unfold hu; rw [if_neg m4]
    rw [this]
    by_cases d : o = 1
    · subst d; rw [e7, if_neg (by omega), if_neg (by omega), if_neg (by omega), if_neg (by omega)]
    · rw [r7 o d]
  refine ⟨ob7 hr, x_read hr X7 (fun p' g' D h8 X8 C8 P8 _ => c_X11_keepFault (fun h9 q9 h10 q10 h11 q11 => ⟨fun _ => ?_, fun c => absurd (by decide) c⟩)) (fun f D h8 B8 P8 _ => c_X11_keepFault (fun h9 q9 h10 q10 h11 q11 => ⟨fun c => absurd rfl c, fun _ => ?_⟩))⟩
  · have f4 := X8.2.2.2
    have f5 := X8.1.2.2.2 f4
    have r9 : ∀ o : Int, o ≠ 0 → h9 o = h8 o := fun o n => hu_row q9 n
    rw [r9 1 (by decide), f5] at q10
    rw [f4] at q9
    have e11 : ∀ i : Int, h11 0 i = if i = 19 then -1 else if i = 18 then 0 else h8 0 i := fun i => by rw [hu_row q11 (by decide), q10, hu_if, q9, hu_if]
    have r11 : ∀ o : Int, o ≠ 0 → o ≠ 1 → h11 o = h8 o := fun o n m => by rw [hu_row q11 m, hu_row q10 n, hu_row q9 n]
    have V8 := V7 h8 P8
    have z4 : h11 0 4 = 29 - r := by rw [e11, if_neg (by decide), if_neg (by decide), V8 0 4 (by omega) (by omega) (by omega) (by omega) (by omega)]; exact e4
    have z5 : h11 0 5 = r := by rw [e11, if_neg (by decide), if_neg (by decide), V8 0 5 (by omega) (by omega) (by omega) (by omega) (by omega)]; exact e5
    have C11 : CRv h11 g' r := C8.cg (fun o i o0 o1 => by rw [r11 o (by omega) (by omega)])
    have V11 : XV r h h11 := fun o i m1 m2 m3 m4 m5 => by
      by_cases d : o = 0
      · subst d; rw [e11, if_neg (by omega), if_neg (by omega)]; exact V8 0 i m1 m2 m3 m4 m5
      · by_cases d2 : o = 1
        · subst d2
          rw [q11, hu_if, if_neg (by omega), hu_row q10 (by decide), hu_row q9 (by decide)]; exact V8 1 i m1 m2 m3 m4 m5
        · rw [r11 o d d2]; exact V8 o i m1 m2 m3 m4 m5
    rw [z4, z5]
    refine ⟨ob7 (by omega), ob7 hr, fun h15 q15 h17 q17 => ?_⟩
    have w4 : h17 0 4 = r := by rw [q17, hu_if, if_neg (by decide), q15, hu_if, if_pos rfl]
    rw [w4]
    refine ⟨ob7 hr, x_clear9 hr (fun h21 Z21 h23 q23 h25 q25 => ?_)⟩
    have u4 : h25 0 4 = r := by rw [q25, hu_if, if_neg (by decide), hu_row q23 (by decide), Z21.2.2.2.2 0 (by decide)]; exact w4
    have u11 : h25 r 11 = g' 68 42 := by
      rw [hu_row q25 (by omega), hu_row q23 (by omega), Z21.2.2.2.2 r (by omega), hu_row q17 (by omega), hu_row q15 (by omega)]
      exact C11.2.2.2.2.2.2.2.2.2.2.2.2.2.2
    rw [u4, u11]
    rw [q15] at q17
    rw [q17] at Z21
    refine ⟨ob7 hr, k1 p' g' D h11 C11 V11 (by rw [q11, hu_if, if_pos rfl]) (by rw [e11]; rfl) (by rw [e11]; rfl) h21 Z21 h25 (by rw [q25, q23])⟩
  · have f4 := B8.2.1
    have f5 := B8.2.2.1
    have r9 : ∀ o : Int, o ≠ 0 → h9 o = h8 o := fun o n => hu_row q9 n
    rw [r9 1 (by decide), f5] at q10
    rw [f4] at q9
    have e11 : ∀ i : Int, h11 0 i = if i = 19 then f.2 else if i = 18 then f.1 else h8 0 i := fun i => by rw [hu_row q11 (by decide), q10, hu_if, q9, hu_if]
    have V8 := V7 h8 P8
    have V11 : XV r h h11 := fun o i m1 m2 m3 m4 m5 => by
      by_cases d : o = 0
      · subst d; rw [e11, if_neg (by omega), if_neg (by omega)]; exact V8 0 i m1 m2 m3 m4 m5
      · by_cases d2 : o = 1
        · subst d2
          rw [q11, hu_if, if_neg (by omega), hu_row q10 (by decide), hu_row q9 (by decide)]; exact V8 1 i m1 m2 m3 m4 m5
        · rw [hu_row q11 d2, hu_row q10 d, hu_row q9 d]; exact V8 o i m1 m2 m3 m4 m5
    exact x_refuse ⟨by decide, by decide⟩ (k0 f D B8.2.2.2.1 B8.2.2.2.2 h11 V11 (by rw [q11, hu_if, if_pos rfl]) (by rw [e11]; rfl) (by rw [e11]; rfl))
end L4M
