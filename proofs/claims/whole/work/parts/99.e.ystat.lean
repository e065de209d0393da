/-! the reference's statements: banks, sums; one statement whole -/
section L4I
variable {w : Wd} {h h' h0 h1 h2 g g' : Hp} {K : Int → Hp → Prop} {t : Int → Int} {L p q : Nat}
theorem yc_bank {a3 : Int} {res : PRes Hp} (ea : a3 = (q : Nat)) (Y : YS t L h p) (G : RG h g) (hg : isLt (byL t L (sk t L p)) → ¬ GL t (sk t L p)) (D : bBank t L g q p res) (k1 : ∀ p' g', res = .inr (p', g') → ∀ h1, YS t L h1 p' → RG h1 g' → YU h h1 → K 0 h1) (k0 : ∀ f, res = .inl f → ∀ h1, YB t L h1 f.1 f.2 → YU h h1 → K 0 h1) : C_X12_bankTold w a3 h K := by
  have Gk := G.2.1 2 (by decide) (by decide)
  have ek := Gk.1
  have hr : inR (h 93 2) := by have := Gk.2; exact ⟨by omega, by omega⟩
  rcases D with ⟨c, e⟩ | ⟨c, D⟩
  · exact c_X12_bankTold (y_isFull ⟨by decide, by decide⟩ Y hr ⟨by decide, by decide⟩ ea (fun c2 => absurd (ek.trans c) c2) (fun _ h2 F2 B2 _ => ⟨fun c3 => absurd c3 (by decide), fun _ => k0 (5, (q : Int)) e h2 B2 (YU.ty F2)⟩))
  refine c_X12_bankTold (y_isFull ⟨by decide, by decide⟩ Y hr ⟨by decide, by decide⟩ ea (fun _ _ => ⟨fun _ => ?_, fun c3 => absurd rfl c3⟩) (fun c2 => absurd c2 (by omega)))
  rcases D with ⟨f, D, e⟩ | ⟨p1, v, D1, D⟩
  · exact yf_newName Y G.2.1 hg D (fun z h5 F5 B5 => yb_asks wr_7.1 B5 (yb_oneOf ⟨by decide, by decide⟩ (G.2.1.fr F5 (by decide)) B5 (yb_asks wr_5.1 B5 (yb_oneOf ⟨by decide, by decide⟩ (G.2.1.fr F5 (by decide)) B5 (yb_asks wr_2.1 B5 (yb_number B5 (yb_asks wr_8.1 B5 (yb_number B5 (yb_asks wr_9.1 B5 (yb_number B5 ⟨B5.nz.1, fun c3 => absurd c3 B5.nz.2, fun _ => k0 f e h5 B5 (YU.tn F5)⟩))))))))))
  refine yo_newName Y G.2.1 hg D1 (fun hv h5 F5 Y5 => ?_)
  have P5 : YU h h5 := YU.tn F5
  have G5 := G.fr F5 (by decide)
  rcases D with ⟨f, D, e⟩ | ⟨p2, _, D2, D⟩
  · exact yf_asks wr_7 Y5 D (fun h8 F8 B8 => yb_oneOf ⟨by decide, by decide⟩ (G5.2.1.fr F8 (by decide)) B8 (yb_asks wr_5.1 B8 (yb_oneOf ⟨by decide, by decide⟩ (G5.2.1.fr F8 (by decide)) B8 (yb_asks wr_2.1 B8 (yb_number B8 (yb_asks wr_8.1 B8 (yb_number B8 (yb_asks wr_9.1 B8 (yb_number B8 ⟨B8.nz.1, fun c3 => absurd c3 B8.nz.2, fun _ => k0 f e h8 B8 (P5.tr (YU.ty F8))⟩)))))))))
  refine yo_asks wr_7 Y5 D2 (fun ep2 W2 h8 F8 Y8 => ?_)
  have P8 := P5.tr (YU.ty F8)
  have G8 := G5.fr F8 (by decide)
  have g2 : isLt (byL t L (sk t L p2)) → ¬ GL t (sk t L p2) := by rw [ep2]; exact W2.gl
  rcases D with ⟨f, D, e⟩ | ⟨p3, a, D3, D⟩
  · exact yf_oneOf ⟨by decide, by decide⟩ Y8 G8.2.1 g2 D (fun h11 F11 B11 => yb_asks wr_5.1 B11 (yb_oneOf ⟨by decide, by decide⟩ (G8.2.1.fr F11 (by decide)) B11 (yb_asks wr_2.1 B11 (yb_number B11 (yb_asks wr_8.1 B11 (yb_number B11 (yb_asks wr_9.1 B11 (yb_number B11 ⟨B11.nz.1, fun c3 => absurd c3 B11.nz.2, fun _ => k0 f e h11 B11 (P8.tr (YU.tn F11))⟩))))))))
  refine yo_oneOf ⟨by decide, by decide⟩ Y8 G8.2.1 g2 D3 (fun a0 a1 h11 F11 Y11 => ?_)
  have P11 := P8.tr (YU.tn F11)
  have G11 := G8.fr F11 (by decide)
  rcases D with ⟨f, D, e⟩ | ⟨p4, _, D4, D⟩
  · exact yf_asks wr_5 Y11 D (fun h14 F14 B14 => yb_oneOf ⟨by decide, by decide⟩ (G11.2.1.fr F14 (by decide)) B14 (yb_asks wr_2.1 B14 (yb_number B14 (yb_asks wr_8.1 B14 (yb_number B14 (yb_asks wr_9.1 B14 (yb_number B14 ⟨B14.nz.1, fun c3 => absurd c3 B14.nz.2, fun _ => k0 f e h14 B14 (P11.tr (YU.ty F14))⟩)))))))
  refine yo_asks wr_5 Y11 D4 (fun ep4 W4 h14 F14 Y14 => ?_)
  have P14 := P11.tr (YU.ty F14)
  have G14 := G11.fr F14 (by decide)
  have g4 : isLt (byL t L (sk t L p4)) → ¬ GL t (sk t L p4) := by rw [ep4]; exact W4.gl
  rcases D with ⟨f, D, e⟩ | ⟨p5, cc, D5, D⟩
  · exact yf_oneOf ⟨by decide, by decide⟩ Y14 G14.2.1 g4 D (fun h17 F17 B17 => yb_asks wr_2.1 B17 (yb_number B17 (yb_asks wr_8.1 B17 (yb_number B17 (yb_asks wr_9.1 B17 (yb_number B17 ⟨B17.nz.1, fun c3 => absurd c3 B17.nz.2, fun _ => k0 f e h17 B17 (P14.tr (YU.tn F17))⟩))))))
  refine yo_oneOf ⟨by decide, by decide⟩ Y14 G14.2.1 g4 D5 (fun c0 c1 h17 F17 Y17 => ?_)
  have P17 := P14.tr (YU.tn F17)
  have G17 := G14.fr F17 (by decide)
  rcases D with ⟨f, D, e⟩ | ⟨p6, _, D6, D⟩
  · exact yf_asks wr_2 Y17 D (fun h20 F20 B20 => yb_number B20 (yb_asks wr_8.1 B20 (yb_number B20 (yb_asks wr_9.1 B20 (yb_number B20 ⟨B20.nz.1, fun c3 => absurd c3 B20.nz.2, fun _ => k0 f e h20 B20 (P17.tr (YU.ty F20))⟩)))))
  refine yo_asks wr_2 Y17 D6 (fun _ _ h20 F20 Y20 => ?_)
  have P20 := P17.tr (YU.ty F20)
  have G20 := G17.fr F20 (by decide)
  rw [G20.1.1]
  have gb := G20.1.2
  rcases D with ⟨f, D, e⟩ | ⟨p7, s, D7, D⟩
  · exact yf_number ⟨by decide, by decide⟩ ⟨by omega, by omega⟩ Y20 D (fun _ h23 F23 B23 _ _ => yb_asks wr_8.1 B23 (yb_number B23 (yb_asks wr_9.1 B23 (yb_number B23 ⟨B23.nz.1, fun c3 => absurd c3 B23.nz.2, fun _ => k0 f e h23 B23 (P20.tr (YU.ty F23))⟩))))
  refine yo_number ⟨by decide, by decide⟩ ⟨by omega, by omega⟩ Y20 D7 (fun _ _ h23 F23 Y23 => ?_)
  have P23 := P20.tr (YU.ty F23)
  have G23 := G20.fr F23 (by decide)
  rcases D with ⟨f, D, e⟩ | ⟨p8, _, D8, D⟩
  · exact yf_asks wr_8 Y23 D (fun h26 F26 B26 => yb_number B26 (yb_asks wr_9.1 B26 (yb_number B26 ⟨B26.nz.1, fun c3 => absurd c3 B26.nz.2, fun _ => k0 f e h26 B26 (P23.tr (YU.ty F26))⟩)))
  refine yo_asks wr_8 Y23 D8 (fun _ _ h26 F26 Y26 => ?_)
  have P26 := P23.tr (YU.ty F26)
  have G26 := G23.fr F26 (by decide)
  rcases D with ⟨f, D, e⟩ | ⟨p9, n, D9, D⟩
  · exact yf_number ⟨by decide, by decide⟩ ⟨by decide, by decide⟩ Y26 D (fun _ h29 F29 B29 _ _ => yb_asks wr_9.1 B29 (yb_number B29 ⟨B29.nz.1, fun c3 => absurd c3 B29.nz.2, fun _ => k0 f e h29 B29 (P26.tr (YU.ty F29))⟩))
  refine yo_number ⟨by decide, by decide⟩ ⟨by decide, by decide⟩ Y26 D9 (fun _ _ h29 F29 Y29 => ?_)
  have P29 := P26.tr (YU.ty F29)
  have G29 := G26.fr F29 (by decide)
  rcases D with ⟨f, D, e⟩ | ⟨p10, _, D10, D⟩
  · exact yf_asks wr_9 Y29 D (fun h32 F32 B32 => yb_number B32 ⟨B32.nz.1, fun c3 => absurd c3 B32.nz.2, fun _ => k0 f e h32 B32 (P29.tr (YU.ty F32))⟩)
  refine yo_asks wr_9 Y29 D10 (fun _ _ h32 F32 Y32 => ?_)
  have P32 := P29.tr (YU.ty F32)
  have G32 := G29.fr F32 (by decide)
  rcases D with ⟨f, D, e⟩ | ⟨p11, z, D11, e⟩
  · exact yf_number ⟨by decide, by decide⟩ ⟨by decide, by decide⟩ Y32 D (fun _ h35 F35 B35 _ _ => ⟨B35.nz.1, fun c3 => absurd c3 B35.nz.2, fun _ => k0 f e h35 B35 (P32.tr (YU.ty F35))⟩)
  refine yo_number ⟨by decide, by decide⟩ ⟨by decide, by decide⟩ Y32 D11 (fun _ _ h35 F35 Y35 => ⟨Y35.z.1, fun _ => ?_, fun c3 => absurd Y35.z.2 c3⟩)
  have P35 := P32.tr (YU.ty F35)
  have G35 := G32.fr F35 (by decide)
  have e35 : h35 93 2 = g 93 2 := (G35.2.1 2 (by decide) (by decide)).1
  have b2 := Gk.2.1
  rw [e35, ek]
  refine ⟨⟨by omega, by omega⟩, fun h39 q39 => ⟨⟨by omega, by omega⟩, fun h42 q42 => ⟨⟨by omega, by omega⟩, fun h45 q45 => ⟨⟨by omega, by omega⟩, fun h48 q48 => ⟨⟨by omega, by omega⟩, fun h51 q51 => ⟨⟨by omega, by omega⟩, fun h54 q54 h56 q56 => ?_⟩⟩⟩⟩⟩⟩
  have r54 : ∀ o : Int, o ≠ 96 → o ≠ 94 → h54 o = h35 o := fun o m l => by rw [hu_row q54 m, hu_row q51 m, hu_row q48 m, hu_row q45 m, hu_row q42 m, hu_row q39 l]
  have e94 : ∀ j : Int, h54 94 j = if j = 20 + g 93 2 then v else h35 94 j := fun j => by rw [hu_row q54 (by decide), hu_row q51 (by decide), hu_row q48 (by decide), hu_row q45 (by decide), hu_row q42 (by decide), q39, hu_if]
  have e96 : ∀ j : Int, h54 96 j = if j = 5 * g 93 2 + 4 then z else if j = 5 * g 93 2 + 3 then n else if j = 5 * g 93 2 + 2 then s else if j = 5 * g 93 2 + 1 then cc else if j = 5 * g 93 2 then a else h35 96 j := fun j => by rw [q54, hu_if, q51, hu_if, q48, hu_if, q45, hu_if, q42, hu_if, hu_row q39 (by decide)]
  have F1 : Fr h35 h54 [] [94, 96] := fun o i m1 m2 => by
    have m3 : o ≠ 94 ∧ o ≠ 96 := by simpa using m1
    rw [r54 o m3.2 m3.1]
  have F2 : Fr h54 h56 [] [93] := by rw [q56]; exact Fr.row
  refine k1 p11 (gBank g v a cc s n z) e h56 ((Y35.fr F1 (by decide)).fr F2 (by decide)) (G35.bank c hv (fun j => ?_) (fun j => ?_) (fun j => ?_) (fun o m1 m2 m3 => ?_)) (P35.tr ?_)
  · rw [q56, hu_if, r54 93 (by decide) (by decide), e35]
  · rw [hu_row q56 (by decide), e94, show (10 : Int) * 2 + g 93 2 = 20 + g 93 2 by omega]
  · rw [hu_row q56 (by decide), e96]
  · rw [hu_row q56 m1, r54 o m3 m2]
  · exact (((((((YU.up q39 (by unfold ysp; omega)).tr (YU.up q42 (by unfold ysp; omega))).tr (YU.up q45 (by unfold ysp; omega))).tr (YU.up q48 (by unfold ysp; omega))).tr (YU.up q51 (by unfold ysp; omega))).tr (YU.up q54 (by unfold ysp; omega))).tr (YU.up q56 (by unfold ysp; omega)))
theorem yc_sum {a a3 : Int} {res : PRes Hp} (ha : a = 0 ∨ a = 1) (ea : a3 = (q : Nat)) (Y : YS t L h p) (G : RG h g) (hc : g 68 44 + 1 ≤ p) (D : bSum t L g a q p res) (k1 : ∀ p' g', res = .inr (p', g') → g' 68 44 + 1 ≤ sk t L p' → ∀ h1, YS t L h1 (sk t L p') → RG h1 g' → YU h h1 → K 0 h1) (k0 : ∀ f, res = .inl f → ∀ h1, YB t L h1 f.1 f.2 → YU h h1 → K 0 h1) : C_X12_sumIsTold w a a3 h K := by
  have Ga := G.2.2.2.2.2.1 a (by omega) (by omega)
  have e44 := G.2.2.2.2.2.2.1
  have hL := Y.2.2.1
  have hL2 := Y.1.2.1
  refine c_X12_sumIsTold ⟨Y.z.1, fun c => absurd Y.z.2 c, fun _ => ⟨⟨by omega, by omega⟩, by rw [Ga.1]; exact Ga.2.1, fun c => ⟨Y.z.1, fun _ => ?_, fun c2 => absurd Y.z.2 c2⟩, fun c => ?_⟩⟩
  · have c' : g 98 a = -1 := by rw [← Ga.1]; exact c
    rcases D with ⟨n, -⟩ | ⟨-, r, Gr1, er⟩
    · exact absurd c' n
    refine ⟨⟨by omega, by omega⟩, fun h23 q23 h25 q25 h27 q27 h29 q29 => ?_⟩
    have F23 : Fr h h23 [] [98] := by rw [q23]; exact Fr.row
    have F25 : Fr h23 h25 [(68, 46)] [] := by rw [q25]; exact Fr.cel
    have F27 : Fr h25 h27 [(68, 47)] [] := by rw [q27]; exact Fr.cel
    have F29 : Fr h27 h29 [(68, 48)] [] := by rw [q29]; exact Fr.cel
    have F := ((F23.trans F25).trans F27).trans F29
    have Y29 := Y.fr F (by decide)
    have z44 := (F.cell (C := [(68, 44)]) (W := []) (by decide)).1 (68, 44) (by decide)
    dsimp only at z44
    have P29 : YU h h29 := (((YU.up q23 (by unfold ysp; omega)).tr (YU.up q25 (by unfold ysp; omega))).tr (YU.up q27 (by unfold ysp; omega))).tr (YU.up q29 (by unfold ysp; omega))
    obtain ⟨c0, ec0⟩ : ∃ c0 : Nat, (c0 : Int) = g 68 44 := ⟨(g 68 44).toNat, by omega⟩
    refine y_sums (c0 := c0) Y29 (by rw [q29, hu_if, if_neg (by decide), q27, hu_if, if_pos rfl]) (by rw [q29, hu_if, if_neg (by decide), q27, hu_if, if_neg (by decide), q25, hu_if, if_pos rfl]) (by rw [q29, hu_if, if_pos rfl]) (by rw [z44, e44.1, ec0]) (by omega) rfl Gr1 (fun p' s e h32 Y32 l32 cd32 le32 S32 => ?_) (fun kd pl e h32 B32 S32 => ?_)
    · refine ⟨⟨by omega, by omega⟩, fun h35 q35 => ?_⟩
      have F35 : Fr h32 h35 [] [99] := by rw [q35]; exact Fr.row
      have sr : ∀ o i : Int, o ≠ 101 → o ≠ 68 → o ≠ 100 → h32 o i = h29 o i := fun o i m1 m2 m3 => S32 o i m1 (fun x => m2 x.1) (fun x => m3 x.1)
      have e98 : ∀ j : Int, h29 98 j = if j = a then g 68 44 else h 98 j := fun j => by rw [hu_row q29 (by decide), hu_row q27 (by decide), hu_row q25 (by decide), q23, hu_if, e44.1]
      have er29 : ∀ o : Int, o ≠ 68 → o ≠ 98 → h29 o = h o := fun o m1 m2 => by rw [hu_row q29 m1, hu_row q27 m1, hu_row q25 m1, hu_row q23 m2]
      have l32' : h32 68 44 = g 68 44 + s.length := by rw [l32, ← ec0]; omega
      subst e
      refine k1 p' (gSum g a s) er (by rw [gS_44]; omega) h35 (Y32.fr F35 (by decide)) (G.sum ha (by omega) ?_ ?_ (fun o o1 o2 => ?_) (fun j => ?_) (fun j => ?_) (fun i i0 => ?_) (fun i hi => ?_)) ((P29.tr (YU.sq S32)).tr (YU.up q35 (by unfold ysp; omega)))
      · rw [hu_row q35 (by decide), S32 68 35 (by decide) (by decide) (by omega)]
        exact (F.cell (C := [(68, 35)]) (W := []) (by decide)).1 (68, 35) (by decide)
      · rw [hu_row q35 (by decide), l32']
      · funext i
        rw [hu_row q35 (by omega), sr o i (by omega) (by omega) (by omega), er29 o (by omega) (by omega)]
      · rw [hu_row q35 (by decide), sr 98 j (by decide) (by decide) (by decide), e98]
      · rw [q35, hu_if, l32', sr 99 j (by decide) (by decide) (by decide), er29 99 (by decide) (by decide)]
      · rw [hu_row q35 (by decide), S32 100 i (by decide) (by omega) (by omega), er29 100 (by decide) (by decide)]
      · rw [hu_row q35 (by decide), ← ec0]
        exact cd32 i hi
    · refine ⟨⟨by omega, by omega⟩, fun h35 q35 => ?_⟩
      have F35 : Fr h32 h35 [] [99] := by rw [q35]; exact Fr.row
      subst e
      exact k0 (kd, pl) er h35 (B32.fr F35 (by decide)) ((P29.tr (YU.sq S32)).tr (YU.up q35 (by unfold ysp; omega)))
  · have c' : g 98 a ≠ -1 := by rw [← Ga.1]; exact c
    rcases D with ⟨-, e⟩ | ⟨n, -⟩
    · subst ea
      exact Y.fail ⟨by decide, by decide⟩ (fun h5 F5 B5 => ⟨B5.nz.1, fun c2 => absurd c2 B5.nz.2, fun _ => k0 (5, (q : Int)) e h5 B5 (YU.ty F5)⟩)
    · exact absurd n c'
end L4I
