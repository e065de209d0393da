/-! the reference reads a river's text, whole -/
/-- nothing told yet -/
def ZY (h : Hp) : Prop := (∀ k : Int, 0 ≤ k → k < 3 → h 93 k = 0) ∧ (∀ i : Int, 0 ≤ i → i < 8 → h 95 i = 0) ∧ h 97 0 = 10 ∧ h 97 1 = 20 ∧ h 97 2 = 0 ∧ h 98 0 = -1 ∧ h 98 1 = -1 ∧ h 68 44 = 0
def YR (h h' : Hp) : Prop := ∀ o i : Int, ¬ ysp o i → ¬ (o = 68 ∧ (i = 42 ∨ i = 35 ∨ i = 1 ∨ i = 3)) → h' o i = h o i
section L4K
variable {w : Wd} {h h' h0 h1 h2 g g' : Hp} {K : Int → Hp → Prop} {t : Int → Int} {L p q : Nat}
theorem YR.tr (a : YR h h1) (b : YR h1 h2) : YR h h2 := fun o i n m => (b o i n m).trans (a o i n m)
theorem YX.r (a : YX h h1) : YR h h1 := fun o i n m => a o i n (fun x => m (by omega))
theorem YR.up {o i v : Int} (q : h1 = hu h o i v) (s : ysp o i ∨ (o = 68 ∧ (i = 42 ∨ i = 35 ∨ i = 1 ∨ i = 3))) : YR h h1 := fun o' i' n m => by
  rw [q]; unfold hu
  rw [if_neg (fun x => by rw [x.1, x.2] at n m; exact s.elim n m)]
theorem ZY.fr {Lc : List (Int × Int)} {R : List Int} (Z : ZY h) (F : Fr h h' Lc R) (ok : okF Lc R [(68, 44)] [93, 95, 97, 98] = true) : ZY h' := by
  obtain ⟨c, q⟩ := F.cell ok
  have c1 := c (68, 44) (by decide)
  dsimp only at c1
  unfold ZY at Z ⊢
  rw [c1, q 93 (by decide), q 95 (by decide), q 97 (by decide), q 98 (by decide)]
  exact Z
theorem ZY.rg {v : Int} (Z : ZY h) (e35 : h 68 35 = v) (hv : 3 ≤ v ∧ v ≤ 8) : RG h (gI v) := by
  obtain ⟨z1, z2, z3, z4, z5, z6, z7, z8⟩ := Z
  refine ⟨⟨e35, hv⟩, fun k k0 k1 => ⟨z1 k k0 k1, Int.le_refl _, by show (0 : Int) ≤ 10; decide, fun i i0 i1 => absurd (show i < 0 from i1) (by omega)⟩, fun i i0 i1 => z2 i i0 i1, fun i i0 i1 => absurd (show i < 5 * 0 from i1) (by omega), fun i i0 i1 => ?_, fun a a0 a1 => ?_, ⟨z8, Int.le_refl _⟩, fun i i0 i1 => absurd (show i < 0 from i1) (by omega)⟩
  · have : i = 0 ∨ i = 1 ∨ i = 2 := by omega
    rcases this with rfl | rfl | rfl
    · exact z3
    · exact z4
    · exact z5
  · refine ⟨?_, ⟨by show (-2147483648 : Int) ≤ -1; decide, by show (-1 : Int) < 2147483648; decide⟩, fun n => absurd rfl n⟩
    have : a = 0 ∨ a = 1 := by omega
    rcases this with rfl | rfl
    · exact z6
    · exact z7
theorem y_r60 (k : ∀ h1, (∀ i : Int, 0 ≤ i → i < 8 → h1 95 i = 0) → (∀ o i : Int, ¬ (o = 95 ∧ i < 8) → h1 o i = h o i) → L_X12_river_60 w 8 h1 K) : ∀ j n : Nat, n + j = 8 → ∀ h5 : Hp, (∀ o i : Int, ¬ (o = 95 ∧ i < 8) → h5 o i = h o i) → (∀ i : Int, 0 ≤ i → i < n → h5 95 i = 0) → L_X12_river_60 w n h5 K := by
  intro j
  induction j with
  | zero =>
    intro n e h5 fr V
    obtain rfl : n = 8 := e
    exact k h5 (fun i i0 i1 => V i i0 (by omega)) fr
  | succ j ih =>
    intro n e h5 fr V
    refine l_X12_river_60 ⟨⟨by omega, by omega⟩, fun c => absurd c (by omega), fun _ => ⟨⟨by omega, by omega⟩, fun h6 q6 => ?_⟩⟩
    refine ih (n + 1) (by omega) h6 (fun o i m => ?_) (fun i i0 i1 => ?_)
    · rw [q6]; unfold hu
      rw [if_neg (fun x => m (by omega))]; exact fr o i m
    · rw [q6, hu_if]
      by_cases d : i = n
      · rw [if_pos d]
      · rw [if_neg d]; exact V i i0 (by omega)
theorem y_r40 (k : ∀ h1, (∀ i : Int, 0 ≤ i → i < 3 → h1 93 i = 0) → (∀ o i : Int, ¬ (o = 93 ∧ i < 3) → h1 o i = h o i) → L_X12_river_60 w 0 h1 K) : ∀ j n : Nat, n + j = 3 → ∀ h5 : Hp, (∀ o i : Int, ¬ (o = 93 ∧ i < 3) → h5 o i = h o i) → (∀ i : Int, 0 ≤ i → i < n → h5 93 i = 0) → L_X12_river_40 w n h5 K := by
  intro j
  induction j with
  | zero =>
    intro n e h5 fr V
    obtain rfl : n = 3 := e
    exact l_X12_river_40 ⟨⟨by omega, by omega⟩, fun _ => k h5 (fun i i0 i1 => V i i0 (by omega)) fr, fun c => absurd (by omega) c⟩
  | succ j ih =>
    intro n e h5 fr V
    refine l_X12_river_40 ⟨⟨by omega, by omega⟩, fun c => absurd c (by omega), fun _ => ⟨⟨by omega, by omega⟩, fun h6 q6 => ?_⟩⟩
    refine ih (n + 1) (by omega) h6 (fun o i m => ?_) (fun i i0 i1 => ?_)
    · rw [q6]; unfold hu
      rw [if_neg (fun x => m (by omega))]; exact fr o i m
    · rw [q6, hu_if]
      by_cases d : i = n
      · rw [if_pos d]
      · rw [if_neg d]; exact V i i0 (by omega)
theorem yc_river {res : PRes Hp} (hL : h 68 1 = L) (L16 : L ≤ 1600) (T : ∀ k : Nat, k < L → (0 ≤ t k ∧ t k ≤ 255) ∧ h 69 k = t k) (D : rdP t L 0 res)
    (k1 : ∀ p' g', res = .inr (p', g') → ∀ h1, RG h1 g' → h1 68 42 = g' 68 42 → YR h h1 → h1 68 1 = 0 → ∀ h2, h2 = hu (hu h1 68 7 0) 68 8 (-1) → C_X12_stands w h2 (fun _ h3 => K (h3 68 42) h3))
    (k0 : ∀ f, res = .inl f → ∀ h1, YR h h1 → h1 68 1 = 0 → 1 ≤ f.1 → f.1 ≤ 5 → ∀ h2, h2 = hu (hu (hu h1 68 7 f.1) 68 8 f.2) 70 1 (h1 70 1 + 1) → K (-1) h2) : C_X12_river w h K := by
  refine c_X12_river (fun h1 q1 h3 q3 h5 q5 h7 q7 h9 q9 h11 q11 h13 q13 => ?_)
  have P13 : YR h h13 := (((((YR.up q1 (by unfold ysp; omega)).tr (YR.up q3 (by unfold ysp; omega))).tr (YR.up q5 (by unfold ysp; omega))).tr (YR.up q7 (by unfold ysp; omega))).tr (YR.up q9 (by unfold ysp; omega))).tr ((YR.up q11 (by unfold ysp; omega)).tr (YR.up q13 (by unfold ysp; omega)))
  have e13 : ∀ i : Int, h13 68 i = if i = 44 then 0 else if i = 6 then -1 else if i = 5 then 0 else if i = 4 then -1 else if i = 2 then 0 else if i = 1 then 0 else if i = 3 then (L : Int) else h 68 i := fun i => by
    rw [q13, hu_if, q11, hu_if, q9, hu_if, q7, hu_if, q5, hu_if, q3, hu_if, q1, hu_if, hL]
  have r13 : ∀ o : Int, o ≠ 68 → h13 o = h o := fun o n => by rw [hu_row q13 n, hu_row q11 n, hu_row q9 n, hu_row q7 n, hu_row q5 n, hu_row q3 n, hu_row q1 n]
  refine y_r40 (h := h13) (fun h14 z93 fr14 => ?_) 3 0 rfl h13 (fun _ _ _ => rfl) (fun i i0 i1 => absurd i1 (by omega))
  refine y_r60 (h := h14) (fun h15 z95 fr15 => ?_) 8 0 rfl h14 (fun _ _ _ => rfl) (fun i i0 i1 => absurd i1 (by omega))
  refine l_X12_river_60 ⟨⟨by decide, by decide⟩, fun _ h21 q21 h23 q23 h25 q25 h27 q27 h29 q29 => ?_, fun c => absurd (by decide) c⟩
  have P14 : YR h13 h14 := fun o i n m => fr14 o i (fun x => n (by unfold ysp; omega))
  have P15 : YR h14 h15 := fun o i n m => fr15 o i (fun x => n (by unfold ysp; omega))
  have P29 : YR h h29 := (P13.tr (P14.tr P15)).tr (((YR.up q21 (by unfold ysp; omega)).tr (YR.up q23 (by unfold ysp; omega))).tr (((YR.up q25 (by unfold ysp; omega)).tr (YR.up q27 (by unfold ysp; omega))).tr (YR.up q29 (by unfold ysp; omega))))
  have r29 : ∀ o : Int, o ≠ 97 → o ≠ 98 → h29 o = h15 o := fun o n m => by rw [hu_row q29 m, hu_row q27 m, hu_row q25 n, hu_row q23 n, hu_row q21 n]
  have s29 : ∀ o i : Int, o ≠ 93 → o ≠ 95 → o ≠ 97 → o ≠ 98 → h29 o i = h13 o i := fun o i a b c d => by rw [r29 o c d, fr15 o i (fun x => b x.1), fr14 o i (fun x => a x.1)]
  have e29 : ∀ i : Int, h29 68 i = if i = 44 then 0 else if i = 6 then -1 else if i = 5 then 0 else if i = 4 then -1 else if i = 2 then 0 else if i = 1 then 0 else if i = 3 then (L : Int) else h 68 i := fun i => by rw [s29 68 i (by decide) (by decide) (by decide) (by decide), e13]
  have Z29 : ZY h29 := by
    refine ⟨fun k k0 k1 => ?_, fun i i0 i1 => ?_, ?_, ?_, ?_, ?_, ?_, ?_⟩
    · rw [r29 93 (by decide) (by decide), fr15 93 k (by omega)]; exact z93 k k0 k1
    · rw [r29 95 (by decide) (by decide)]; exact z95 i i0 i1
    · rw [hu_row q29 (by decide), hu_row q27 (by decide), q25, hu_if, if_neg (by decide), q23, hu_if, if_neg (by decide), q21, hu_if, if_pos rfl]
    · rw [hu_row q29 (by decide), hu_row q27 (by decide), q25, hu_if, if_neg (by decide), q23, hu_if, if_pos rfl]
    · rw [hu_row q29 (by decide), hu_row q27 (by decide), q25, hu_if, if_pos rfl]
    · rw [q29, hu_if, if_neg (by decide), q27, hu_if, if_pos rfl]
    · rw [q29, hu_if, if_pos rfl]
    · rw [e29, if_pos rfl]
  have e69 : h29 69 = h 69 := by
    funext i
    rw [s29 69 i (by decide) (by decide) (by decide) (by decide), r13 69 (by decide)]
  have x1 : h29 68 1 = 0 := by rw [e29]; rfl
  have x2 : h29 68 2 = ((0 : Nat) : Int) := by rw [e29]; rfl
  have x3 : h29 68 3 = L := by rw [e29]; rfl
  have x4 : h29 68 4 = -1 := by rw [e29]; rfl
  have x5 : h29 68 5 = 0 := by rw [e29]; rfl
  have x6 : h29 68 6 = -1 := by rw [e29]; rfl
  have Y29 : YS t L h29 0 := by
    refine ⟨⟨x3, L16, by rw [e69]; exact T, fun _ => x6⟩, x2, Nat.zero_le _, x5, ⟨by rw [x4]; decide, fun e => ?_, fun e => ?_⟩, by rw [x4]; decide⟩
    · rw [x4] at e; exact absurd e (by decide)
    · exact absurd e.1 (by decide)
  have z1 : ∀ {h4 : Hp}, YU h29 h4 → h4 68 1 = 0 := fun P => by rw [P 68 1 (by unfold ysp; omega)]; exact x1
  rcases D with ⟨f, D, e⟩ | ⟨p1, u1, D1, D⟩
  · refine yf_asks wr_0 Y29 D (fun h32 F32 B32 => yb_number B32 (fun h37 q37 => yb_asksSign (B32.fr (show Fr h32 h37 [(68, 35)] [] by rw [q37]; exact Fr.cel) (by decide)) (fun h42 q42 => ?_)))
    have F : Fr h32 h42 ([(68, 35)] ++ [(68, 42)]) ([] ++ []) := Fr.trans (h1 := h37) (by rw [q37]; exact Fr.cel) (by rw [q42]; exact Fr.cel)
    have B42 := B32.fr F (by decide)
    exact dd_146 B42 (fun h57 q57 => k0 f e h42 ((P29.tr (YU.ty F32).wd.r).tr ((YR.up q37 (by unfold ysp; omega)).tr (YR.up q42 (by unfold ysp; omega)))) (by rw [F 68 1 (by decide) (by decide)]; exact z1 (YU.ty F32)) B42.2.2.2.1 B42.2.2.2.2.1 h57 q57)
  refine yo_asks wr_0 Y29 D1 (fun _ _ h32 F32 Y32 => ?_)
  have P32 := P29.tr (YU.ty F32).wd.r
  have Z32 := Z29.fr F32 (by decide)
  have y32 : h32 68 1 = 0 := z1 (YU.ty F32)
  rcases D with ⟨f, D, e⟩ | ⟨p2, v, D2, D⟩
  · refine yf_number ⟨by decide, by decide⟩ ⟨by decide, by decide⟩ Y32 D (fun z h35 F35 B35 _ _ h37 q37 => yb_asksSign (B35.fr (show Fr h35 h37 [(68, 35)] [] by rw [q37]; exact Fr.cel) (by decide)) (fun h42 q42 => ?_))
    have F : Fr h35 h42 ([(68, 35)] ++ [(68, 42)]) ([] ++ []) := Fr.trans (h1 := h37) (by rw [q37]; exact Fr.cel) (by rw [q42]; exact Fr.cel)
    have B42 := B35.fr F (by decide)
    exact dd_146 B42 (fun h57 q57 => k0 f e h42 ((P32.tr (YU.ty F35).wd.r).tr ((YR.up q37 (by unfold ysp; omega)).tr (YR.up q42 (by unfold ysp; omega)))) (by rw [F 68 1 (by decide) (by decide), F35 68 1 (by decide) (by decide)]; exact y32) B42.2.2.2.1 B42.2.2.2.2.1 h57 q57)
  refine yo_number ⟨by decide, by decide⟩ ⟨by decide, by decide⟩ Y32 D2 (fun v3 v8 h35 F35 Y35 h37 q37 => ?_)
  have F37 : Fr h35 h37 [(68, 35)] [] := by rw [q37]; exact Fr.cel
  have P37 := (P32.tr (YU.ty F35).wd.r).tr (YR.up q37 (by unfold ysp; omega))
  have Z37 := (Z32.fr F35 (by decide)).fr F37 (by decide)
  have y37 : h37 68 1 = 0 := by rw [F37 68 1 (by decide) (by decide), F35 68 1 (by decide) (by decide)]; exact y32
  have v37 : h37 68 35 = v := by rw [q37, hu_if, if_pos rfl]
  rcases D with ⟨f, D, e⟩ | ⟨p3, u3, D3, D⟩
  · refine yf_sign ⟨by decide, by decide⟩ ⟨by omega, by omega⟩ (Y35.fr F37 (by decide)) D (fun h40 F40 B40 h42 q42 => ?_)
    have F : Fr h40 h42 [(68, 42)] [] := by rw [q42]; exact Fr.cel
    have B42 := B40.fr F (by decide)
    exact dd_146 B42 (fun h57 q57 => k0 f e h42 ((P37.tr (YU.ty F40).wd.r).tr (YR.up q42 (by unfold ysp; omega))) (by rw [F 68 1 (by decide) (by decide), F40 68 1 (by decide) (by decide)]; exact y37) B42.2.2.2.1 B42.2.2.2.2.1 h57 q57)
  refine yo_sign ⟨by decide, by decide⟩ ⟨by omega, by omega⟩ (Y35.fr F37 (by decide)) D3 (fun h40 F40 Y40 h42 q42 => ?_)
  have F42 : Fr h40 h42 [(68, 42)] [] := by rw [q42]; exact Fr.cel
  have P42 := (P37.tr (YU.ty F40).wd.r).tr (YR.up q42 (by unfold ysp; omega))
  have Z42 := (Z37.fr F40 (by decide)).fr F42 (by decide)
  have y42 : h42 68 1 = 0 := by rw [F42 68 1 (by decide) (by decide), F40 68 1 (by decide) (by decide)]; exact y37
  have v42 : h42 68 35 = v := by rw [F42 68 35 (by decide) (by decide), F40 68 35 (by decide) (by decide)]; exact v37
  refine yc_loop 69 h42 (gI v) p3 res (Y40.fr F42 (by decide)) (Z42.rg v42 ⟨v3, v8⟩) (by show (0 : Int) ≤ _; omega) (by rw [q42, hu_if, if_pos rfl]; rfl) rfl (by show (1 : Int) ≤ 1; decide) D (fun p' g' e h1 Y1 G1 z42 P1 h2 q2 => k1 p' g' e h1 G1 z42 (P42.tr P1.r) (by rw [P1 68 1 (by unfold ysp; omega) (by omega)]; exact y42) h2 q2) (fun f e h1 B1 P1 h2 q2 => k0 f e h1 (P42.tr P1.r) (by rw [P1 68 1 (by unfold ysp; omega) (by omega)]; exact y42) B1.2.2.2.1 B1.2.2.2.2.1 h2 q2)
end L4K
