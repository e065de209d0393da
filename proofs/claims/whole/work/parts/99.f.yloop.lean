/-! the reference reads a river's statements, one behind another -/
def GE {α : Type} (P : Nat → PRes α → Prop) : Prop := ∀ (p p' : Nat) (a : α), P p (.inr (p', a)) → p ≤ p'
def YX (h h' : Hp) : Prop := ∀ o i : Int, ¬ ysp o i → ¬ (o = 68 ∧ (i = 42 ∨ i = 35)) → h' o i = h o i
section L4J
variable {w : Wd} {h h' h0 h1 h2 g g' : Hp} {K : Int → Hp → Prop} {t : Int → Int} {L p q : Nat}
theorem YX.tr (a : YX h h1) (b : YX h1 h2) : YX h h2 := fun o i n m => (b o i n m).trans (a o i n m)
theorem YU.wd (a : YU h h1) : YX h h1 := fun o i n _ => a o i n
theorem YX.c {v : Int} (q : h1 = hu h 68 42 v) : YX h h1 := fun o i _ m => by
  rw [q]; unfold hu
  rw [if_neg (fun x => m ⟨x.1, Or.inl x.2⟩)]
theorem pB.ge {α β : Type} {P : Nat → PRes α → Prop} {Q : α → Nat → PRes β → Prop} (a : GE P) (b : ∀ x : α, GE (Q x)) : GE (pB P Q) := fun p p' y D => by
  rcases D with ⟨f, -, e⟩ | ⟨p1, x, D1, D2⟩
  · exact nomatch e
  · exact Nat.le_trans (a _ _ _ D1) (b x _ _ _ D2)
theorem GE.leaf {α : Type} (x : α) : GE (fun p r => r = .inr (p, x)) := fun p p' y e => by
  have e1 : p' = p := congrArg Prod.fst (Sum.inr.inj e)
  omega
theorem pNum.ge {lo hi : Int} : GE (pNum t L lo hi) := fun p p' a D => by
  obtain ⟨n, -, e⟩ := D
  have e : p' = sk t L p + n := e
  have := sk_ge t L p
  omega
theorem pWd.ge {a : Int} : GE (pWd t L a) := fun p p' _ D => by
  have e : p' = sk t L p + (slen a).toNat := D.2
  have := sk_ge t L p
  omega
theorem pSg.ge {c : Int} : GE (pSg t L c) := fun p p' _ D => by
  have e : p' = sk t L p + 1 := D.2
  have := sk_ge t L p
  omega
theorem pAsk.ge {k : Int} : GE (pAsk t L g k) := fun p p' a D => by
  obtain ⟨n, -, -, -, e⟩ := D
  have e : p' = sk t L p + n := e
  have := sk_ge t L p
  omega
theorem pNew.ge : GE (pNew t L g) := fun p p' a D => by
  obtain ⟨n, -, -, -, e⟩ := D
  have e : p' = sk t L p + n := e
  have := sk_ge t L p
  omega
theorem bSlope.ge : GE (bSlope t L g) := pB.ge pNum.ge (fun _ => pB.ge pWd.ge (fun _ => pB.ge pNum.ge (fun _ => GE.leaf _)))
theorem bSet.ge {i lo hi : Int} : GE (bSet t L g i lo hi) := pB.ge pNum.ge (fun _ => GE.leaf _)
theorem bName.ge {k : Int} : GE (bName t L g k q) := fun p p' a D => by
  rcases D with ⟨-, e⟩ | ⟨-, D⟩
  · exact nomatch e
  · exact pB.ge pNew.ge (fun _ => GE.leaf _) p p' a D
theorem bBank.ge : GE (bBank t L g q) := fun p p' a D => by
  rcases D with ⟨-, e⟩ | ⟨-, D⟩
  · exact nomatch e
  · exact pB.ge pNew.ge (fun _ => pB.ge pWd.ge (fun _ => pB.ge pAsk.ge (fun _ => pB.ge pWd.ge (fun _ => pB.ge pAsk.ge (fun _ => pB.ge pWd.ge (fun _ => pB.ge pNum.ge (fun _ => pB.ge pWd.ge (fun _ => pB.ge pNum.ge (fun _ => pB.ge pWd.ge (fun _ => pB.ge pNum.ge (fun _ => GE.leaf _))))))))))) p p' a D
theorem bSet_44 {i lo hi : Int} {p' : Nat} (D : bSet t L g i lo hi p (.inr (p', g'))) : g' 68 44 = g 68 44 := by
  obtain ⟨p1, v, -, e⟩ := D.ok
  have e2 : g' = hu g 97 i v := congrArg Prod.snd (Sum.inr.inj e)
  rw [e2, hu_ne (by decide)]
theorem kwl_ok : ∀ a ∈ kwl, wOK a := fun a ha => (ows_ok a ((by decide +kernel : ∀ x ∈ kwl, x ∈ ows) a ha)).1
theorem kwl_x : ∀ a ∈ kwl, ∀ b ∈ kwl, wdx a b = false → a = b := by decide +kernel
theorem kwl_n : ∀ a ∈ kwl, 3 ≤ slen a := by decide +kernel
theorem stP.at {x : Int} {r : PRes Hp} (D : stP t L g p r) (hx : x ∈ kwl) (W : wI t L (sk t L p) x) : bodyP t L g x (sk t L p) (sk t L p + (slen x).toNat) r := by
  rcases D with ⟨y, hy, Wy, D⟩ | ⟨n, -⟩
  · have e := kwl_x x hx y hy (W.one Wy (kwl_ok x hx) (kwl_ok y hy))
    subst e; exact D
  · exact absurd W (n x hx)
theorem stP.no {r : PRes Hp} (D : stP t L g p r) (n : ∀ x ∈ kwl, ¬ wI t L (sk t L p) x) : r = .inl (1, (sk t L p : Int)) := by
  rcases D with ⟨y, hy, Wy, -⟩ | ⟨-, e⟩
  · exact absurd Wy (n y hy)
  · exact e
theorem stP.sk {r : PRes Hp} (D : stP t L g p r) : stP t L g (sk t L p) r := by
  unfold stP at D ⊢
  rw [sk_sk]
  exact D
theorem yw_step {x row : Int} {A B : Hp → Prop} (H : wr x row) (sp : sk t L p = p) (Y : YS t L h p) (k1 : wI t L p x → ∀ h1, Fr h h1 tyL [] → YS t L h1 (p + (slen x).toNat) → A h1) (k0 : ¬ wI t L p x → ∀ h1, Fr h h1 tyL [] → YS t L h1 p → B h1) : C_X12_takes w row h (fun r h3 => (r = 0 ∨ r = 1) → ((r = 0) → B h3) ∧ (¬ (r = 0) → A h3)) := by
  refine y_wd H Y (fun W h1 F1 Y1 _ => ⟨fun c => absurd c (by decide), fun _ => ?_⟩) (fun W h1 F1 Y1 _ => ⟨fun _ => ?_, fun c => absurd rfl c⟩)
  · rw [sp] at W Y1; exact k1 W h1 F1 Y1
  · rw [sp] at W Y1; exact k0 W h1 F1 Y1
theorem yc_statement {res : PRes Hp} (Y : YS t L h p) (sp : sk t L p = p) (G : RG h g) (hc : g 68 44 ≤ p) (r42 : inR (h 68 42)) (e42 : h 68 42 ≠ 70) (D : stP t L g p res)
    (k1 : ∀ p' g' (a' : Nat), res = .inr (p', g') → sk t L a' = sk t L p' → g' 68 44 ≤ a' → ∀ h1, YS t L h1 a' → RG h1 g' → YU h h1 → L_X12_statementTold_215 w h1 K)
    (k0 : ∀ f, res = .inl f → ∀ h1, YB t L h1 f.1 f.2 → YU h h1 → L_X12_statementTold_215 w h1 K) : C_X12_statementTold w h K := by
  have e2 : h 68 2 = (p : Nat) := Y.2.1
  have body : ∀ x ∈ kwl, wI t L p x → bodyP t L g x p (p + (slen x).toNat) res := fun x hx W => by
    have := D.at hx (by rw [sp]; exact W)
    rw [sp] at this; exact this
  have no := fun n => D.no n
  rw [sp] at no
  have pn : ∀ x ∈ kwl, (x : Int) ∈ kwl → g 68 44 + 1 ≤ ((p + (slen x).toNat : Nat) : Int) := fun x hx _ => by have := kwl_n x hx; omega
  refine c_X12_statementTold ⟨r42, fun _ => yw_step wr_1 sp Y (fun W h1 F1 Y1 => ?_) (fun n1 h3 F3 Y3 => yw_step wr_3 sp Y3 (fun W h1 F1 Y1 => ?_) (fun n2 h6 F6 Y6 => yw_step wr_5 sp Y6 (fun W h1 F1 Y1 => ?_) (fun n3 h9 F9 Y9 => yw_step wr_6 sp Y9 (fun W h1 F1 Y1 => ?_) (fun n4 h12 F12 Y12 => yw_step wr_10 sp Y12 (fun W h1 F1 Y1 => ?_) (fun n5 h15 F15 Y15 => yw_step wr_22 sp Y15 (fun W h1 F1 Y1 => ?_) (fun n6 h18 F18 Y18 => yw_step wr_23 sp Y18 (fun W h1 F1 Y1 => ?_) (fun n7 h21 F21 Y21 => yw_step wr_24 sp Y21 (fun W h1 F1 Y1 => ?_) (fun n8 h24 F24 Y24 => ?_)))))))), fun c => absurd e42 c⟩
  · have D1 := body 1001 (by decide) W
    have D1 : bSlope t L g (p + (slen 1001).toNat) res := D1
    have b := pn 1001 (by decide) (by decide)
    exact yc_slope (K := fun _ h2 => L_X12_statementTold_215 w h2 K) Y1 (G.fr F1 (by decide)) D1 (fun p' g' e h2 Y2 G2 P2 => by
      subst e
      exact k1 p' g' p' rfl rfl (by rw [bSlope_44 D1]; have := bSlope.ge _ _ _ D1; omega) h2 Y2 G2 ((YU.ty F1).tr P2)) (fun f e h2 B2 P2 => k0 f e h2 B2 ((YU.ty F1).tr P2))
  · have D1 := body 1003 (by decide) W
    have D1 : bName t L g 0 p (p + (slen 1003).toNat) res := D1
    have b := pn 1003 (by decide) (by decide)
    have F := F3.trans F1
    exact yc_name (K := fun _ h2 => L_X12_statementTold_215 w h2 K) ⟨by decide, by decide⟩ e2 Y1 (G.fr F (by decide)) W.gl D1 (fun p' g' e h2 Y2 G2 P2 => by
      subst e
      exact k1 p' g' p' rfl rfl (by rw [bName_44 D1]; have := bName.ge _ _ _ D1; omega) h2 Y2 G2 ((YU.ty (F.into (by decide))).tr P2)) (fun f e h2 B2 P2 => k0 f e h2 B2 ((YU.ty (F.into (by decide))).tr P2))
  · have D1 := body 1005 (by decide) W
    have D1 : bName t L g 1 p (p + (slen 1005).toNat) res := D1
    have b := pn 1005 (by decide) (by decide)
    have F := (F3.trans F6).trans F1
    exact yc_name (K := fun _ h2 => L_X12_statementTold_215 w h2 K) ⟨by decide, by decide⟩ e2 Y1 (G.fr F (by decide)) W.gl D1 (fun p' g' e h2 Y2 G2 P2 => by
      subst e
      exact k1 p' g' p' rfl rfl (by rw [bName_44 D1]; have := bName.ge _ _ _ D1; omega) h2 Y2 G2 ((YU.ty (F.into (by decide))).tr P2)) (fun f e h2 B2 P2 => k0 f e h2 B2 ((YU.ty (F.into (by decide))).tr P2))
  · have D1 := body 1006 (by decide) W
    have D1 : bBank t L g p (p + (slen 1006).toNat) res := D1
    have b := pn 1006 (by decide) (by decide)
    have F := ((F3.trans F6).trans F9).trans F1
    exact yc_bank (K := fun _ h2 => L_X12_statementTold_215 w h2 K) e2 Y1 (G.fr F (by decide)) W.gl D1 (fun p' g' e h2 Y2 G2 P2 => by
      subst e
      exact k1 p' g' p' rfl rfl (by rw [bBank_44 D1]; have := bBank.ge _ _ _ D1; omega) h2 Y2 G2 ((YU.ty (F.into (by decide))).tr P2)) (fun f e h2 B2 P2 => k0 f e h2 B2 ((YU.ty (F.into (by decide))).tr P2))
  · have D1 := body 1010 (by decide) W
    have D1 : bSum t L g 0 p (p + (slen 1010).toNat) res := D1
    have b := pn 1010 (by decide) (by decide)
    have F := (((F3.trans F6).trans F9).trans F12).trans F1
    exact yc_sum (K := fun _ h2 => L_X12_statementTold_215 w h2 K) (Or.inl rfl) e2 Y1 (G.fr F (by decide)) b D1 (fun p' g' e le h2 Y2 G2 P2 => k1 p' g' _ e (sk_sk t L p') (by omega) h2 Y2 G2 ((YU.ty (F.into (by decide))).tr P2)) (fun f e h2 B2 P2 => k0 f e h2 B2 ((YU.ty (F.into (by decide))).tr P2))
  · have D1 := body 1022 (by decide) W
    have D1 : bSum t L g 1 p (p + (slen 1022).toNat) res := D1
    have b := pn 1022 (by decide) (by decide)
    have F := ((((F3.trans F6).trans F9).trans F12).trans F15).trans F1
    exact yc_sum (K := fun _ h2 => L_X12_statementTold_215 w h2 K) (Or.inr rfl) e2 Y1 (G.fr F (by decide)) b D1 (fun p' g' e le h2 Y2 G2 P2 => k1 p' g' _ e (sk_sk t L p') (by omega) h2 Y2 G2 ((YU.ty (F.into (by decide))).tr P2)) (fun f e h2 B2 P2 => k0 f e h2 B2 ((YU.ty (F.into (by decide))).tr P2))
  · have D1 := body 1023 (by decide) W
    have D1 : bSet t L g 0 1 99 (p + (slen 1023).toNat) res := D1
    have b := pn 1023 (by decide) (by decide)
    have F := (((((F3.trans F6).trans F9).trans F12).trans F15).trans F18).trans F1
    exact yc_set (K := fun _ h2 => L_X12_statementTold_215 w h2 K) ⟨by decide, by decide⟩ ⟨by decide, by decide⟩ ⟨by decide, by decide⟩ Y1 (G.fr F (by decide)) D1 (fun p' g' e h2 Y2 G2 P2 => by
      subst e
      exact k1 p' g' p' rfl rfl (by rw [bSet_44 D1]; have := bSet.ge _ _ _ D1; omega) h2 Y2 G2 ((YU.ty (F.into (by decide))).tr P2)) (fun f e h2 B2 P2 => k0 f e h2 B2 ((YU.ty (F.into (by decide))).tr P2))
  · have D1 := body 1024 (by decide) W
    have D1 : bSet t L g 1 1 99 (p + (slen 1024).toNat) res := D1
    have b := pn 1024 (by decide) (by decide)
    have F := ((((((F3.trans F6).trans F9).trans F12).trans F15).trans F18).trans F21).trans F1
    exact yc_set (K := fun _ h2 => L_X12_statementTold_215 w h2 K) ⟨by decide, by decide⟩ ⟨by decide, by decide⟩ ⟨by decide, by decide⟩ Y1 (G.fr F (by decide)) D1 (fun p' g' e h2 Y2 G2 P2 => by
      subst e
      exact k1 p' g' p' rfl rfl (by rw [bSet_44 D1]; have := bSet.ge _ _ _ D1; omega) h2 Y2 G2 ((YU.ty (F.into (by decide))).tr P2)) (fun f e h2 B2 P2 => k0 f e h2 B2 ((YU.ty (F.into (by decide))).tr P2))
  · have F0 := ((((((F3.trans F6).trans F9).trans F12).trans F15).trans F18).trans F21).trans F24
    refine y_wdAsks wr_25 Y24 (fun W h1 F1 Y1 => ?_) (fun W h1 F1 B1 => yb_number B1 (fun h32 q32 => ?_))
    · rw [sp] at W Y1
      have D1 := body 1025 (by decide) W
      have D1 : bSet t L g 2 0 50 (p + (slen 1025).toNat) res := D1
      have b := pn 1025 (by decide) (by decide)
      have F := F0.trans F1
      exact yc_set (K := fun _ h2 => L_X12_statementTold_215 w h2 K) ⟨by decide, by decide⟩ ⟨by decide, by decide⟩ ⟨by decide, by decide⟩ Y1 (G.fr F (by decide)) D1 (fun p' g' e h2 Y2 G2 P2 => by
        subst e
        exact k1 p' g' p' rfl rfl (by rw [bSet_44 D1]; have := bSet.ge _ _ _ D1; omega) h2 Y2 G2 ((YU.ty (F.into (by decide))).tr P2)) (fun f e h2 B2 P2 => k0 f e h2 B2 ((YU.ty (F.into (by decide))).tr P2))
    · rw [sp] at W B1
      have F := F0.trans F1
      have F32 : Fr h1 h32 [] [97] := by rw [q32]; exact Fr.row
      refine k0 (1, (p : Int)) (no (fun x hx Wx => ?_)) h32 (B1.fr F32 (by decide)) ((YU.ty (F.into (by decide))).tr (YU.up q32 (by unfold ysp; omega)))
      simp only [List.mem_cons, List.not_mem_nil, or_false] at hx
      rcases hx with rfl | rfl | rfl | rfl | rfl | rfl | rfl | rfl | rfl
      · exact n1 Wx
      · exact n2 Wx
      · exact n3 Wx
      · exact n4 Wx
      · exact n5 Wx
      · exact n6 Wx
      · exact n7 Wx
      · exact n8 Wx
      · exact W Wx
theorem RG.cnt {v v' : Int} (A : RG h g) (q : h' = hu h 68 42 v) : RG h' (hu g 68 42 v') := by
  have er : ∀ o : Int, o ≠ 68 → h' o = h o := fun o n => hu_row q n
  have eg : ∀ o : Int, o ≠ 68 → hu g 68 42 v' o = g o := fun o n => hu_row rfl n
  have e8 : ∀ i : Int, i ≠ 42 → h' 68 i = h 68 i := fun i n => by rw [q, hu_if, if_neg n]
  have g8 : ∀ i : Int, i ≠ 42 → hu g 68 42 v' 68 i = g 68 i := fun i n => by rw [hu_if, if_neg n]
  unfold RG RN3 at *
  rw [er 93 (by decide), er 94 (by decide), er 95 (by decide), er 96 (by decide), er 97 (by decide), er 98 (by decide), er 99 (by decide), er 100 (by decide), eg 93 (by decide), eg 94 (by decide), eg 95 (by decide), eg 96 (by decide), eg 97 (by decide), eg 98 (by decide), eg 99 (by decide), eg 100 (by decide), e8 35 (by decide), e8 44 (by decide), g8 35 (by decide), g8 44 (by decide)]
  exact A
theorem dd_146 {kd pl : Int} (B : YB t L h kd pl) (k : ∀ h57 : Hp, h57 = hu (hu (hu h 68 7 kd) 68 8 pl) 70 1 (h 70 1 + 1) → K (-1) h57) : L_X12_river_146 w h K := by
  refine l_X12_river_146 ⟨B.nz.1, fun _ h49 q49 h51 q51 => ?_, fun c => absurd B.nz.2 c⟩
  have e5 : h51 68 5 = h 68 5 := by rw [q51, hu_if, if_neg (by decide), q49, hu_if, if_neg (by decide)]
  rw [e5]
  refine ⟨B.nz.1, fun c => absurd c B.nz.2, fun _ h57 q57 => k h57 ?_⟩
  have e6 : h49 68 6 = pl := by rw [q49, hu_if, if_neg (by decide)]; exact B.2.2.1
  rw [e6] at q51
  rw [B.2.1] at q49
  have e70 : h51 70 1 = h 70 1 := by rw [q51, hu_ne (by decide), q49, hu_ne (by decide)]
  rw [q57, e70, q51, q49]
theorem yc_loop : ∀ (k : Nat) (h g : Hp) (p : Nat) (res : PRes Hp), YS t L h p → RG h g → g 68 44 ≤ p → h 68 42 = g 68 42 → g 68 42 = 70 - (k : Int) → 1 ≤ g 68 42 → rlP t L k g p res →
    (∀ p' g', res = .inr (p', g') → ∀ h1, YS t L h1 p' → RG h1 g' → h1 68 42 = g' 68 42 → YX h h1 → ∀ h2, h2 = hu (hu h1 68 7 0) 68 8 (-1) → C_X12_stands w h2 (fun _ h3 => K (h3 68 42) h3)) →
    (∀ f, res = .inl f → ∀ h1, YB t L h1 f.1 f.2 → YX h h1 → ∀ h2, h2 = hu (hu (hu h1 68 7 f.1) 68 8 f.2) 70 1 (h1 70 1 + 1) → K (-1) h2) → L_X12_river_146 w h K := by
  intro k
  induction k with
  | zero =>
    intro h g p res Y G hc eg ek g1 D k1 k0
    refine l_X12_river_146 ⟨Y.z.1, fun c => absurd Y.z.2 c, fun _ => Y.look (fun h2 F2 Y2 => ?_)⟩
    have b := byL_q Y2.1 (sk t L p)
    have P2 : YU h h2 := YU.ty (F2.into (by decide))
    have e42 : h2 68 42 = 70 := by rw [F2 68 42 List.not_mem_nil (by decide), eg, ek]; omega
    refine ⟨⟨by omega, by omega⟩, fun c h64 q64 h66 q66 => ?_, fun c => ?_⟩
    · rw [Y2.z.2] at q64
      have e6 : h64 68 6 = -1 := by rw [q64, hu_if, if_neg (by decide)]; exact Y2.1.2.2.2 Y2.z.2
      rw [e6] at q66
      have e5 : h66 68 5 = 0 := by rw [q66, hu_if, if_neg (by decide), q64, hu_if, if_neg (by decide)]; exact Y2.z.2
      rw [e5]
      refine ⟨⟨by decide, by decide⟩, fun _ => ?_, fun c => absurd rfl c⟩
      rcases D with ⟨-, e⟩ | ⟨n, -⟩
      · exact k1 _ g e h2 Y2 (G.fr F2 (by decide)) (by rw [e42, ek]; omega) P2.wd h66 (by rw [q66, q64])
      · exact absurd c n
    · rcases D with ⟨n, -⟩ | ⟨-, e⟩
      · exact absurd n c
      · refine c_X12_statementTold ⟨by rw [e42]; exact ⟨by decide, by decide⟩, fun n => absurd e42 n, fun _ => ?_⟩
        rw [Y2.2.1]
        exact Y2.fail ⟨by decide, by decide⟩ (fun h5 F5 B5 => dd_146 B5 (fun h57 q57 => k0 (5, (sk t L p : Int)) e h5 B5 (P2.tr (YU.ty F5)).wd h57 q57))
  | succ k ih =>
    intro h g p res Y G hc eg ek g1 D k1 k0
    refine l_X12_river_146 ⟨Y.z.1, fun c => absurd Y.z.2 c, fun _ => Y.look (fun h2 F2 Y2 => ?_)⟩
    have b := byL_q Y2.1 (sk t L p)
    have P2 : YU h h2 := YU.ty (F2.into (by decide))
    have e42 : h2 68 42 = g 68 42 := by rw [F2 68 42 List.not_mem_nil (by decide), eg]
    refine ⟨⟨by omega, by omega⟩, fun c h64 q64 h66 q66 => ?_, fun c => ?_⟩
    · rw [Y2.z.2] at q64
      have e6 : h64 68 6 = -1 := by rw [q64, hu_if, if_neg (by decide)]; exact Y2.1.2.2.2 Y2.z.2
      rw [e6] at q66
      have e5 : h66 68 5 = 0 := by rw [q66, hu_if, if_neg (by decide), q64, hu_if, if_neg (by decide)]; exact Y2.z.2
      rw [e5]
      refine ⟨⟨by decide, by decide⟩, fun _ => ?_, fun c => absurd rfl c⟩
      rcases D with ⟨-, e⟩ | ⟨n, -⟩
      · exact k1 _ g e h2 Y2 (G.fr F2 (by decide)) e42 P2.wd h66 (by rw [q66, q64])
      · exact absurd c n
    · rcases D with ⟨n, -⟩ | ⟨-, D⟩
      · exact absurd n c
      have sge := sk_ge t L p
      -- behind a statement that failed
      have fin : ∀ f, res = .inl f → ∀ h1, YB t L h1 f.1 f.2 → YU h2 h1 → L_X12_statementTold_215 w h1 (fun _ h76 => L_X12_river_146 w h76 K) := fun f e h1 B1 P1 => by
        refine l_X12_statementTold_215 (yb_asksSign B1 (fun h77 q77 => ?_))
        have F77 : Fr h1 h77 [(68, 42)] [] := by rw [q77]; exact Fr.cel
        exact dd_146 (B1.fr F77 (by decide)) (fun h57 q57 => k0 f e h77 (B1.fr F77 (by decide)) ((P2.tr P1).wd.tr (YX.c q77)) h57 q57)
      rcases D with ⟨f, D1, e⟩ | ⟨p1, g1', D1, D⟩
      · refine yc_statement Y2 (sk_sk t L p) (G.fr F2 (by decide)) (by omega) (by rw [e42]; exact ⟨by omega, by omega⟩) (by rw [e42]; omega) D1.sk (fun p' g' a' e' => ?_) (fun f' e' h1 B1 P1 => ?_)
        · exact nomatch e'
        · have e' := Sum.inl.inj e'
          subst e'
          exact fin f e h1 B1 P1
      · have e42' := stP_42 D1
        refine yc_statement Y2 (sk_sk t L p) (G.fr F2 (by decide)) (by omega) (by rw [e42]; exact ⟨by omega, by omega⟩) (by rw [e42]; omega) D1.sk (fun p' g' a' e' sa la h3 Y3 G3 P3 => ?_) (fun f' e' => ?_)
        · have ee := Sum.inr.inj e'
          have ep : p1 = p' := congrArg Prod.fst ee
          have eg' : g1' = g' := congrArg Prod.snd ee
          subst ep; subst eg'
          have c3 : h3 68 42 = g 68 42 := by rw [P3 68 42 (by unfold ysp; omega), e42]
          have sD : ∀ r, pSg t L 59 p1 r → pSg t L 59 a' r := fun r x => by
            unfold pSg at x ⊢
            rw [sa]; exact x
          rcases D with ⟨f, D2, e⟩ | ⟨p2, u, D2, D⟩
          · refine l_X12_statementTold_215 (yf_sign ⟨by decide, by decide⟩ ⟨by omega, by omega⟩ Y3 (sD _ D2) (fun h75 F75 B75 h77 q77 => ?_))
            have F77 : Fr h75 h77 [(68, 42)] [] := by rw [q77]; exact Fr.cel
            exact dd_146 (B75.fr F77 (by decide)) (fun h57 q57 => k0 f e h77 (B75.fr F77 (by decide)) (((P2.tr P3).tr (YU.ty F75)).wd.tr (YX.c q77)) h57 q57)
          · have pg := pSg.ge _ _ _ (sD _ D2)
            refine l_X12_statementTold_215 (yo_sign ⟨by decide, by decide⟩ ⟨by omega, by omega⟩ Y3 (sD _ D2) (fun h75 F75 Y75 h77 q77 => ?_))
            have F77 : Fr h75 h77 [(68, 42)] [] := by rw [q77]; exact Fr.cel
            have c75 : h75 68 42 = g 68 42 := by rw [F75 68 42 List.not_mem_nil (by decide), c3]
            have Pn : YX h h77 := ((P2.tr P3).tr (YU.ty F75)).wd.tr (YX.c q77)
            have n42 : hu g1' 68 42 (g 68 42 + 1) 68 42 = g 68 42 + 1 := by rw [hu_if, if_pos rfl]
            have n44 : hu g1' 68 42 (g 68 42 + 1) 68 44 = g1' 68 44 := by rw [hu_if, if_neg (by decide)]
            exact ih h77 (hu g1' 68 42 (g 68 42 + 1)) p2 res (Y75.fr F77 (by decide)) ((G3.fr F75 (by decide)).cnt q77) (by rw [n44]; omega) (by rw [n42, q77, hu_if, if_pos rfl, c75]) (by rw [n42, ek]; omega) (by rw [n42]; omega) D (fun p' g' e h1 Y1 G1 z42 P1 => k1 p' g' e h1 Y1 G1 z42 (Pn.tr P1)) (fun f e h1 B1 P1 => k0 f e h1 B1 (Pn.tr P1))
        · exact nomatch e'
end L4J
