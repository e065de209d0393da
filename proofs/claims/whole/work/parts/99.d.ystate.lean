/-! the reference's river, as far as it is told -/
def RG (h g : Hp) : Prop := (h 68 35 = g 68 35 ∧ 3 ≤ g 68 35 ∧ g 68 35 ≤ 8) ∧ RN3 h g ∧ (∀ i : Int, 0 ≤ i → i < 8 → h 95 i = g 95 i) ∧ (∀ i : Int, 0 ≤ i → i < 5 * g 93 2 → h 96 i = g 96 i) ∧ (∀ i : Int, 0 ≤ i → i < 3 → h 97 i = g 97 i) ∧ (∀ a : Int, 0 ≤ a → a < 2 → h 98 a = g 98 a ∧ inR (g 98 a) ∧ (g 98 a ≠ -1 → h 99 a = g 99 a)) ∧ (h 68 44 = g 68 44 ∧ 0 ≤ g 68 44) ∧ (∀ i : Int, 0 ≤ i → i < g 68 44 → h 100 i = g 100 i)
/-- what reading a river may change on the reference's side -/
def ysp (o i : Int) : Prop := (o = 68 ∧ (i = 2 ∨ i = 4 ∨ i = 5 ∨ i = 6 ∨ i = 32 ∨ i = 44 ∨ i = 46 ∨ i = 47 ∨ i = 48)) ∨ (o = 93 ∧ i < 3) ∨ (o = 94 ∧ i < 30) ∨ (o = 95 ∧ i < 8) ∨ (o = 96 ∧ i < 50) ∨ (o = 97 ∧ i < 3) ∨ (o = 98 ∧ i < 2) ∨ (o = 99 ∧ i < 2) ∨ (o = 100 ∧ i < 1600) ∨ o = 101
def YU (h h' : Hp) : Prop := ∀ o i : Int, ¬ ysp o i → h' o i = h o i
section L4H
variable {w : Wd} {h h' h0 h1 h2 g g' : Hp} {K : Int → Hp → Prop} {t : Int → Int} {L p q : Nat}
theorem YU.rf : YU h h := fun _ _ _ => rfl
theorem YU.tr (a : YU h h1) (b : YU h1 h2) : YU h h2 := fun o i n => (b o i n).trans (a o i n)
theorem YU.tn (F : Fr h h1 tnL []) : YU h h1 := fun o i n => F o i List.not_mem_nil (fun q => n (by
  simp only [List.mem_cons, Prod.mk.injEq, List.not_mem_nil, or_false] at q
  unfold ysp; omega))
theorem YU.ty (F : Fr h h1 tyL []) : YU h h1 := YU.tn (F.into (by decide))
theorem YU.up {o i v : Int} (q : h1 = hu h o i v) (s : ysp o i) : YU h h1 := fun o' i' n => by
  rw [q]; unfold hu
  rw [if_neg (fun x => n (by rw [x.1, x.2]; exact s))]
theorem YU.sq {c0 : Nat} (S : SQ c0 h h1) : YU h h1 := fun o i n => S o i (fun x => n (by unfold ysp; omega)) (fun x => n (by unfold ysp; omega)) (fun x => n (by unfold ysp; omega))
theorem RG.fr {Lc : List (Int × Int)} {R : List Int} (A : RG h g) (F : Fr h h' Lc R) (ok : okF Lc R [(68, 35), (68, 44)] [93, 94, 95, 96, 97, 98, 99, 100] = true) : RG h' g := by
  obtain ⟨c, q⟩ := F.cell ok
  have c1 := c (68, 35) (by decide); have c2 := c (68, 44) (by decide)
  dsimp only at c1 c2
  unfold RG RN3 at A ⊢
  rw [c1, c2, q 93 (by decide), q 94 (by decide), q 95 (by decide), q 96 (by decide), q 97 (by decide), q 98 (by decide), q 99 (by decide), q 100 (by decide)]
  exact A
theorem RG.slope {i v : Int} (A : RG h g) (q : h' = hu h 95 i v) : RG h' (hu g 95 i v) := by
  obtain ⟨a1, a2, a3, a4, a5, a6, a7, a8⟩ := A
  have er : ∀ o : Int, o ≠ 95 → h' o = h o := fun o n => hu_row q n
  have eg : ∀ o : Int, o ≠ 95 → hu g 95 i v o = g o := fun o n => hu_row rfl n
  unfold RG RN3 at *
  rw [er 68 (by decide), er 93 (by decide), er 94 (by decide), er 96 (by decide), er 97 (by decide), er 98 (by decide), er 99 (by decide), er 100 (by decide), eg 68 (by decide), eg 93 (by decide), eg 94 (by decide), eg 96 (by decide), eg 97 (by decide), eg 98 (by decide), eg 99 (by decide), eg 100 (by decide)]
  refine ⟨a1, a2, fun j j0 j1 => ?_, a4, a5, a6, a7, a8⟩
  rw [q, hu_if, hu_if, a3 j j0 j1]
theorem RG.set {i v : Int} (A : RG h g) (q : h' = hu h 97 i v) : RG h' (hu g 97 i v) := by
  obtain ⟨a1, a2, a3, a4, a5, a6, a7, a8⟩ := A
  have er : ∀ o : Int, o ≠ 97 → h' o = h o := fun o n => hu_row q n
  have eg : ∀ o : Int, o ≠ 97 → hu g 97 i v o = g o := fun o n => hu_row rfl n
  unfold RG RN3 at *
  rw [er 68 (by decide), er 93 (by decide), er 94 (by decide), er 95 (by decide), er 96 (by decide), er 98 (by decide), er 99 (by decide), er 100 (by decide), eg 68 (by decide), eg 93 (by decide), eg 94 (by decide), eg 95 (by decide), eg 96 (by decide), eg 98 (by decide), eg 99 (by decide), eg 100 (by decide)]
  refine ⟨a1, a2, a3, a4, fun j j0 j1 => ?_, a6, a7, a8⟩
  rw [q, hu_if, hu_if, a5 j j0 j1]
theorem RN3.new {k v : Int} (A : RN3 h g) (hk : 0 ≤ k ∧ k < 3) (full : g 93 k < 10) (hv : inL v) (e93 : ∀ j : Int, h' 93 j = if j = k then g 93 k + 1 else h 93 j) (e94 : ∀ j : Int, h' 94 j = if j = 10 * k + g 93 k then v else h 94 j) (f93 : ∀ j : Int, g' 93 j = if j = k then g 93 k + 1 else g 93 j) (f94 : ∀ j : Int, g' 94 j = if j = 10 * k + g 93 k then v else g 94 j) : RN3 h' g' := by
  intro j j0 j1
  have Ak := A k hk.1 hk.2
  have Aj := A j j0 j1
  rw [e93, f93]
  by_cases d : j = k
  · subst d
    rw [if_pos rfl, if_pos rfl]
    refine ⟨rfl, by omega, by omega, fun i i0 i1 => ?_⟩
    rw [e94, f94]
    by_cases d2 : i = g 93 j
    · rw [if_pos (by omega), if_pos (by omega)]; exact ⟨rfl, hv⟩
    · rw [if_neg (by omega), if_neg (by omega)]; exact Aj.2.2.2 i i0 (by omega)
  · rw [if_neg d, if_neg d]
    refine ⟨Aj.1, Aj.2.1, Aj.2.2.1, fun i i0 i1 => ?_⟩
    rw [e94, f94]
    have := Aj.2.2.1
    rw [if_neg (by omega), if_neg (by omega)]
    exact Aj.2.2.2 i i0 i1
theorem RG.name {k v : Int} (A : RG h g) (hk : 0 ≤ k ∧ k < 2) (full : g 93 k < 10) (hv : inL v) (q1 : h1 = hu h 94 (10 * k + h 93 k) v) (q2 : h' = hu h1 93 k (h1 93 k + 1)) : RG h' (gN g k v) := by
  obtain ⟨a1, a2, a3, a4, a5, a6, a7, a8⟩ := A
  have er : ∀ o : Int, o ≠ 93 → o ≠ 94 → h' o = h o := fun o n m => (hu_row q2 n).trans (hu_row q1 m)
  have eg : ∀ o : Int, o ≠ 93 → o ≠ 94 → gN g k v o = g o := fun o n m => gN_o n m
  have ek : h 93 k = g 93 k := (a2 k hk.1 (by omega)).1
  have e13 : h1 93 = h 93 := hu_row q1 (by decide)
  have e93 : ∀ j : Int, h' 93 j = if j = k then g 93 k + 1 else h 93 j := fun j => by rw [q2, hu_if, e13, ek]
  have e94 : ∀ j : Int, h' 94 j = if j = 10 * k + g 93 k then v else h 94 j := fun j => by rw [hu_row q2 (by decide), q1, hu_if, ek]
  have N := a2.new ⟨hk.1, by omega⟩ full hv e93 e94 (fun j => gN_93) (fun j => gN_94)
  unfold RG
  rw [er 68 (by decide) (by decide), er 95 (by decide) (by decide), er 96 (by decide) (by decide), er 97 (by decide) (by decide), er 98 (by decide) (by decide), er 99 (by decide) (by decide), er 100 (by decide) (by decide), eg 68 (by decide) (by decide), eg 95 (by decide) (by decide), eg 96 (by decide) (by decide), eg 97 (by decide) (by decide), eg 98 (by decide) (by decide), eg 99 (by decide) (by decide), eg 100 (by decide) (by decide), gN_93, if_neg (by omega)]
  exact ⟨a1, N, a3, a4, a5, a6, a7, a8⟩
theorem RG.bank {v a c s n z : Int} (A : RG h g) (full : g 93 2 < 10) (hv : inL v) (e93 : ∀ j : Int, h' 93 j = if j = 2 then g 93 2 + 1 else h 93 j) (e94 : ∀ j : Int, h' 94 j = if j = 10 * 2 + g 93 2 then v else h 94 j) (e96 : ∀ j : Int, h' 96 j = if j = 5 * g 93 2 + 4 then z else if j = 5 * g 93 2 + 3 then n else if j = 5 * g 93 2 + 2 then s else if j = 5 * g 93 2 + 1 then c else if j = 5 * g 93 2 then a else h 96 j) (er : ∀ o : Int, o ≠ 93 → o ≠ 94 → o ≠ 96 → h' o = h o) : RG h' (gBank g v a c s n z) := by
  obtain ⟨a1, a2, a3, a4, a5, a6, a7, a8⟩ := A
  have eg : ∀ o : Int, o ≠ 93 → o ≠ 94 → o ≠ 96 → gBank g v a c s n z o = g o := fun o n m l => gB_o n m l
  have N : RN3 h' (gBank g v a c s n z) := a2.new ⟨by decide, by decide⟩ full hv e93 e94 (fun j => gB_93) (fun j => gB_94)
  unfold RG
  rw [er 68 (by decide) (by decide) (by decide), er 95 (by decide) (by decide) (by decide), er 97 (by decide) (by decide) (by decide), er 98 (by decide) (by decide) (by decide), er 99 (by decide) (by decide) (by decide), er 100 (by decide) (by decide) (by decide), eg 68 (by decide) (by decide) (by decide), eg 95 (by decide) (by decide) (by decide), eg 97 (by decide) (by decide) (by decide), eg 98 (by decide) (by decide) (by decide), eg 99 (by decide) (by decide) (by decide), eg 100 (by decide) (by decide) (by decide), gB_93, if_pos rfl]
  refine ⟨a1, N, a3, fun i i0 i1 => ?_, a5, a6, a7, a8⟩
  rw [e96, gB_96]
  by_cases d4 : i = 5 * g 93 2 + 4
  · rw [if_pos d4, if_pos d4]
  · rw [if_neg d4, if_neg d4]
    by_cases d3 : i = 5 * g 93 2 + 3
    · rw [if_pos d3, if_pos d3]
    · rw [if_neg d3, if_neg d3]
      by_cases d2 : i = 5 * g 93 2 + 2
      · rw [if_pos d2, if_pos d2]
      · rw [if_neg d2, if_neg d2]
        by_cases d1 : i = 5 * g 93 2 + 1
        · rw [if_pos d1, if_pos d1]
        · rw [if_neg d1, if_neg d1]
          by_cases d0 : i = 5 * g 93 2
          · rw [if_pos d0, if_pos d0]
          · rw [if_neg d0, if_neg d0]
            exact a4 i i0 (by omega)
theorem RG.sum {a : Int} {s : List Int} (A : RG h g) (ha : a = 0 ∨ a = 1) (b : g 68 44 ≤ 1600) (e35 : h' 68 35 = h 68 35) (e44 : h' 68 44 = g 68 44 + s.length) (er : ∀ o : Int, 93 ≤ o → o ≤ 97 → h' o = h o) (e98 : ∀ j : Int, h' 98 j = if j = a then g 68 44 else h 98 j) (e99 : ∀ j : Int, h' 99 j = if j = a then g 68 44 + s.length else h 99 j) (e100 : ∀ i : Int, i < g 68 44 → h' 100 i = h 100 i) (f100 : ∀ i : Nat, i < s.length → h' 100 (g 68 44 + i) = cdI (s.getD i 0)) : RG h' (gSum g a s) := by
  obtain ⟨a1, a2, a3, a4, a5, a6, a7, a8⟩ := A
  unfold RG
  have r3 : RN3 h' (gSum g a s) := by
    unfold RN3 at a2 ⊢
    rw [er 93 (by decide) (by decide), er 94 (by decide) (by decide), gS_r (o := 93) (by decide) (by decide) (by decide) (by decide), gS_r (o := 94) (by decide) (by decide) (by decide) (by decide)]
    exact a2
  rw [er 95 (by decide) (by decide), er 96 (by decide) (by decide), er 97 (by decide) (by decide), gS_r (o := 95) (by decide) (by decide) (by decide) (by decide), gS_r (o := 96) (by decide) (by decide) (by decide) (by decide), gS_r (o := 97) (by decide) (by decide) (by decide) (by decide), gS_r (o := 93) (by decide) (by decide) (by decide) (by decide), e35, gS_o (o := 68) (i := 35) (by decide) (by decide) (by decide) (by decide), e44, gS_44]
  refine ⟨a1, r3, a3, a4, a5, fun j j0 j1 => ?_, ⟨rfl, by omega⟩, fun i i0 i1 => ?_⟩
  · rw [e98, gS_98, e99, gS_99]
    by_cases d : j = a
    · rw [if_pos d, if_pos d, if_pos d, if_pos d]; exact ⟨rfl, ⟨by omega, by omega⟩, fun _ => rfl⟩
    · rw [if_neg d, if_neg d, if_neg d, if_neg d]; exact a6 j j0 j1
  · rw [gS_100]
    by_cases d : g 68 44 ≤ i
    · rw [if_pos ⟨d, i1⟩]
      have := f100 (i - g 68 44).toNat (by omega)
      rw [show g 68 44 + (((i - g 68 44).toNat : Nat) : Int) = i by omega] at this
      exact this
    · rw [if_neg (fun x => d x.1), e100 i (by omega)]
      exact a8 i i0 (by omega)
theorem y_isFull {k m a3 : Int} {pl : Nat} (hk : 0 ≤ k ∧ k < 6) (Y : YS t L h p) (hr : inR (h 93 k)) (hm : inR m) (e : a3 = pl) (k1 : h 93 k ≠ m → K 0 h) (k0 : h 93 k = m → ∀ h1, Fr h h1 tyL [] → YB t L h1 5 pl → K 1 h1) : C_X12_isFull w k m a3 h K := by
  subst e
  exact c_X12_isFull ⟨Y.z.1, fun c => absurd Y.z.2 c, fun _ => ⟨hk, hr, hm, fun c => ⟨Y.z.1, fun _ => k1 c, fun c2 => absurd Y.z.2 c2⟩, fun c => Y.fail ⟨by decide, by decide⟩ (fun h5 F5 B5 => ⟨B5.nz.1, fun c2 => absurd c2 B5.nz.2, fun _ => k0 (Classical.not_not.mp c) h5 F5 B5⟩)⟩⟩
theorem yc_slope {res : PRes Hp} (Y : YS t L h p) (G : RG h g) (D : bSlope t L g p res) (k1 : ∀ p' g', res = .inr (p', g') → ∀ h1, YS t L h1 p' → RG h1 g' → YU h h1 → K 0 h1) (k0 : ∀ f, res = .inl f → ∀ h1, YB t L h1 f.1 f.2 → YU h h1 → K 0 h1) : C_X12_slopeTold w h K := by
  rcases D with ⟨f, D1, e⟩ | ⟨p1, v, D1, D⟩
  · exact c_X12_slopeTold (yf_number ⟨by decide, by decide⟩ ⟨by decide, by decide⟩ Y D1 (fun z h2 F2 B2 _ _ => yb_asks wr_2.1 B2 (yb_number B2 ⟨B2.nz.1, fun _ => k0 f e h2 B2 (YU.ty F2), fun c => absurd B2.nz.2 c⟩)))
  · refine c_X12_slopeTold (yo_number ⟨by decide, by decide⟩ ⟨by decide, by decide⟩ Y D1 (fun v0 v9 h2 F2 Y2 => ?_))
    rcases D with ⟨f, D2, e⟩ | ⟨p2, u, D2, D⟩
    · exact yf_asks wr_2 Y2 D2 (fun h5 F5 B5 => yb_number B5 ⟨B5.nz.1, fun _ => k0 f e h5 B5 ((YU.ty F2).tr (YU.ty F5)), fun c => absurd B5.nz.2 c⟩)
    · refine yo_asks wr_2 Y2 D2 (fun _ _ h5 F5 Y5 => ?_)
      have G5 := (G.fr F2 (by decide)).fr F5 (by decide)
      rw [G5.1.1]
      have gb := G5.1.2
      rcases D with ⟨f, D3, e⟩ | ⟨p3, i, D3, e⟩
      · exact yf_number ⟨by decide, by decide⟩ ⟨by omega, by omega⟩ Y5 D3 (fun z h8 F8 B8 _ _ => ⟨B8.nz.1, fun _ => k0 f e h8 B8 (((YU.ty F2).tr (YU.ty F5)).tr (YU.ty F8)), fun c => absurd B8.nz.2 c⟩)
      · refine yo_number ⟨by decide, by decide⟩ ⟨by omega, by omega⟩ Y5 D3 (fun i0 i1 h8 F8 Y8 => ⟨Y8.z.1, fun c => absurd Y8.z.2 c, fun _ => ⟨⟨by omega, by omega⟩, fun h12 q12 => ?_⟩⟩)
        have F12 : Fr h8 h12 [] [95] := by rw [q12]; exact Fr.row
        exact k1 p3 (hu g 95 i v) e h12 (Y8.fr F12 (by decide)) ((G5.fr F8 (by decide)).slope q12) ((((YU.ty F2).tr (YU.ty F5)).tr (YU.ty F8)).tr (YU.up q12 (by unfold ysp; omega)))
theorem yc_set {i lo hi : Int} {res : PRes Hp} (hb : 0 ≤ i ∧ i < 3) (hlo : inR lo) (hhi : inR hi) (Y : YS t L h p) (G : RG h g) (D : bSet t L g i lo hi p res) (k1 : ∀ p' g', res = .inr (p', g') → ∀ h1, YS t L h1 p' → RG h1 g' → YU h h1 → K 0 h1) (k0 : ∀ f, res = .inl f → ∀ h1, YB t L h1 f.1 f.2 → YU h h1 → K 0 h1) : C_X12_number w lo hi h (fun r34 h35 => ∀ h37 : Hp, h37 = hu h35 97 i r34 → K 0 h37) := by
  rcases D with ⟨f, D1, e⟩ | ⟨p1, v, D1, e⟩
  · refine yf_number hlo hhi Y D1 (fun z h2 F2 B2 _ _ h3 q3 => ?_)
    have F3 : Fr h2 h3 [] [97] := by rw [q3]; exact Fr.row
    exact k0 f e h3 (B2.fr F3 (by decide)) ((YU.ty F2).tr (YU.up q3 (by unfold ysp; omega)))
  · refine yo_number hlo hhi Y D1 (fun v0 v9 h2 F2 Y2 h3 q3 => ?_)
    have F3 : Fr h2 h3 [] [97] := by rw [q3]; exact Fr.row
    exact k1 p1 (hu g 97 i v) e h3 (Y2.fr F3 (by decide)) ((G.fr F2 (by decide)).set q3) ((YU.ty F2).tr (YU.up q3 (by unfold ysp; omega)))
theorem yc_name {k a3 : Int} {res : PRes Hp} (hk : 0 ≤ k ∧ k < 2) (ea : a3 = (q : Nat)) (Y : YS t L h p) (G : RG h g) (hg : isLt (byL t L (sk t L p)) → ¬ GL t (sk t L p)) (D : bName t L g k q p res) (k1 : ∀ p' g', res = .inr (p', g') → ∀ h1, YS t L h1 p' → RG h1 g' → YU h h1 → K 0 h1) (k0 : ∀ f, res = .inl f → ∀ h1, YB t L h1 f.1 f.2 → YU h h1 → K 0 h1) : C_X12_newNamed w k 5 a3 h K := by
  have Gk := G.2.1 k hk.1 (by omega)
  have ek := Gk.1
  have hr : inR (h 93 k) := by have := Gk.2; exact ⟨by omega, by omega⟩
  rcases D with ⟨c, e⟩ | ⟨c, D⟩
  · exact c_X12_newNamed (y_isFull ⟨by omega, by omega⟩ Y hr ⟨by decide, by decide⟩ ea (fun c2 => absurd (ek.trans c) c2) (fun _ h2 F2 B2 _ => ⟨fun c3 => absurd c3 (by decide), fun _ => k0 (5, (q : Int)) e h2 B2 (YU.ty F2)⟩))
  · refine c_X12_newNamed (y_isFull ⟨by omega, by omega⟩ Y hr ⟨by decide, by decide⟩ ea (fun _ _ => ⟨fun _ => ?_, fun c3 => absurd rfl c3⟩) (fun c2 => absurd c2 (by omega)))
    rcases D with ⟨f, D1, e⟩ | ⟨p1, v, D1, e⟩
    · exact yf_newName Y G.2.1 hg D1 (fun z h5 F5 B5 => ⟨B5.nz.1, fun c3 => absurd c3 B5.nz.2, fun _ => k0 f e h5 B5 (YU.tn F5)⟩)
    · refine yo_newName Y G.2.1 hg D1 (fun hv h5 F5 Y5 => ⟨Y5.z.1, fun _ => ?_, fun c3 => absurd Y5.z.2 c3⟩)
      have G5 := G.fr F5 (by decide)
      have G5k := G5.2.1 k hk.1 (by omega)
      have e5 := G5k.1
      refine ⟨⟨by omega, by omega⟩, ⟨by omega, by omega⟩, fun h10 q10 => ⟨⟨by omega, by omega⟩, ⟨by omega, by omega⟩, fun h14 q14 => ?_⟩⟩
      have F10 : Fr h5 h10 [] [94] := by rw [q10]; exact Fr.row
      have F14 : Fr h10 h14 [] [93] := by rw [q14]; exact Fr.row
      exact k1 p1 (gN g k v) e h14 ((Y5.fr F10 (by decide)).fr F14 (by decide)) (G5.name hk (by omega) hv q10 q14) ((YU.tn F5).tr ((YU.up q10 (by unfold ysp; omega)).tr (YU.up q14 (by unfold ysp; omega))))
end L4H
