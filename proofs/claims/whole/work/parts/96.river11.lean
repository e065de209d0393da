/-! one statement of the class, whole -/
section L4B
variable {w : Wd} {h h' h0 h1 h2 g g' : Hp} {K : Int → Hp → Prop} {t : Int → Int} {L p q : Nat} {r : Int}
theorem x_statement (hr : r = 6 ∨ r = 23) (hr2 : h 60 2 = r) (A : CRv h g r) (X : XS t L h p) (hc : g 68 44 ≤ p)
    (k1 : ∀ p' g', stP t L g p (.inr (p', g')) → g' 68 44 ≤ p' → p < p' → ∀ h1, XS t L h1 p' → CRv h1 g' r → PV r h h1 → K 1 h1)
    (k0 : ∀ f, stP t L g p (.inl f) → ∀ h1, XB t L h1 f.1 f.2 → PV r h h1 → K 0 h1) : C_X8_statement w h K := by
  have n1 := sk_ge t L p
  have sks := sk_sk t L p
  have e60 : ∀ h1 : Hp, Fr h h1 txL [] → h1 60 2 = r := fun h1 F => by rw [F 60 2 List.not_mem_nil (by decide)]; exact hr2
  have body : ∀ x ∈ kwl, wI t L (sk t L p) x → ∀ res, bodyP t L g x (sk t L p) (sk t L p + (slen x).toNat) res → stP t L g p res := fun x hx W res D => Or.inl ⟨x, hx, W, D⟩
  refine c_X8_statement ?_
  refine x_wd st_1 (by decide +kernel) X (fun W h1 G1 X1 e3 _ => ⟨fun c => absurd c (by decide), fun _ => ?_⟩) (fun n1 h1 G1 X1 _ => ⟨fun _ => ?_, fun c => absurd rfl c⟩)
  · have F1 : Fr h h1 txL [] := G1
    have B := body 1001 (by decide) W
    have gl := W.gl
    have sl : 0 < slen 1001 := by decide +kernel
    have P : PV r h h1 := PV.tx F1
    have A' := A.tx hr F1
    exact x_slope hr (e60 _ F1) A' X1 (fun p' g' D l h9 X9 A9 P9 _ => k1 p' g' (B _ (by unfold bodyP;  rw [if_pos rfl]; exact D)) (by rw [bSlope_44 D]; omega) (by omega) h9 X9 A9 (P.tr P9)) (fun f D h9 B9 P9 _ => k0 f (B _ (by unfold bodyP;  rw [if_pos rfl]; exact D)) h9 B9 (P.tr P9))
  have F1 : Fr h h1 txL [] := G1
  refine x_wd st_3 (by decide +kernel) X1 (fun W h2 G2 X2 e3 _ => ⟨fun c => absurd c (by decide), fun _ => ?_⟩) (fun n2 h2 G2 X2 _ => ⟨fun _ => ?_, fun c => absurd rfl c⟩)
  · have F2 : Fr h h2 txL [] := ((F1.trans G2).into (by decide))
    rw [sks] at W X2 e3
    have B := body 1003 (by decide) W
    have gl := W.gl
    have sl : 0 < slen 1003 := by decide +kernel
    have P : PV r h h2 := PV.tx F2
    have A' := A.tx hr F2
    exact x_addName (k := 0) (fun h9 k => l_X8_statement_72 k) (by decide) hr (e60 _ F2) A' X2 gl e3 (fun p' g' D l h9 X9 A9 P9 => k1 p' g' (B _ (by unfold bodyP; rw [if_neg (by decide)]; rw [if_pos rfl]; exact D)) (by rw [bName_44 D]; omega) (by omega) h9 X9 A9 (P.tr P9)) (fun f D h9 B9 P9 => k0 f (B _ (by unfold bodyP; rw [if_neg (by decide)]; rw [if_pos rfl]; exact D)) h9 B9 (P.tr P9))
  rw [sks] at n2 X2
  have F2 : Fr h h2 txL [] := ((F1.trans G2).into (by decide))
  refine x_wd st_5 (by decide +kernel) X2 (fun W h3 G3 X3 e3 _ => ⟨fun c => absurd c (by decide), fun _ => ?_⟩) (fun n3 h3 G3 X3 _ => ⟨fun _ => ?_, fun c => absurd rfl c⟩)
  · have F3 : Fr h h3 txL [] := ((F2.trans G3).into (by decide))
    rw [sks] at W X3 e3
    have B := body 1005 (by decide) W
    have gl := W.gl
    have sl : 0 < slen 1005 := by decide +kernel
    have P : PV r h h3 := PV.tx F3
    have A' := A.tx hr F3
    exact x_addName (k := 1) (fun h9 k => l_X8_statement_129 k) (by decide) hr (e60 _ F3) A' X3 gl e3 (fun p' g' D l h9 X9 A9 P9 => k1 p' g' (B _ (by unfold bodyP; rw [if_neg (by decide)]; rw [if_neg (by decide)]; rw [if_pos rfl]; exact D)) (by rw [bName_44 D]; omega) (by omega) h9 X9 A9 (P.tr P9)) (fun f D h9 B9 P9 => k0 f (B _ (by unfold bodyP; rw [if_neg (by decide)]; rw [if_neg (by decide)]; rw [if_pos rfl]; exact D)) h9 B9 (P.tr P9))
  rw [sks] at n3 X3
  have F3 : Fr h h3 txL [] := ((F2.trans G3).into (by decide))
  refine x_wd st_6 (by decide +kernel) X3 (fun W h4 G4 X4 e3 _ => ⟨fun c => absurd c (by decide), fun _ => ?_⟩) (fun n4 h4 G4 X4 _ => ⟨fun _ => ?_, fun c => absurd rfl c⟩)
  · have F4 : Fr h h4 txL [] := ((F3.trans G4).into (by decide))
    rw [sks] at W X4 e3
    have B := body 1006 (by decide) W
    have gl := W.gl
    have sl : 0 < slen 1006 := by decide +kernel
    have P : PV r h h4 := PV.tx F4
    have A' := A.tx hr F4
    exact x_addBank (fun h9 k => l_X8_statement_193 k) hr (e60 _ F4) A' X4 gl e3 (fun p' g' D l h9 X9 A9 P9 => k1 p' g' (B _ (by unfold bodyP; rw [if_neg (by decide)]; rw [if_neg (by decide)]; rw [if_neg (by decide)]; rw [if_pos rfl]; exact D)) (by rw [bBank_44 D]; omega) (by omega) h9 X9 A9 (P.tr P9)) (fun f D h9 B9 P9 => k0 f (B _ (by unfold bodyP; rw [if_neg (by decide)]; rw [if_neg (by decide)]; rw [if_neg (by decide)]; rw [if_pos rfl]; exact D)) h9 B9 (P.tr P9))
  rw [sks] at n4 X4
  have F4 : Fr h h4 txL [] := ((F3.trans G4).into (by decide))
  refine x_wd st_10 (by decide +kernel) X4 (fun W h5 G5 X5 e3 _ => ⟨fun c => absurd c (by decide), fun _ => ?_⟩) (fun n5 h5 G5 X5 _ => ⟨fun _ => ?_, fun c => absurd rfl c⟩)
  · have F5 : Fr h h5 txL [] := ((F4.trans G5).into (by decide))
    rw [sks] at W X5 e3
    have B := body 1010 (by decide) W
    have gl := W.gl
    have sl : 0 < slen 1010 := by decide +kernel
    have P : PV r h h5 := PV.tx F5
    have A' := A.tx hr F5
    exact x_addSum (a := 0) (fun h9 k => l_X8_statement_253 k) (by decide) hr (e60 _ F5) A' X5 e3 (by omega) (fun p' g' D l44 l h9 X9 A9 P9 => k1 p' g' (B _ (by unfold bodyP; rw [if_neg (by decide)]; rw [if_neg (by decide)]; rw [if_neg (by decide)]; rw [if_neg (by decide)]; rw [if_pos rfl]; exact D)) l44 (by omega) h9 X9 A9 (P.tr P9)) (fun f D h9 B9 P9 => k0 f (B _ (by unfold bodyP; rw [if_neg (by decide)]; rw [if_neg (by decide)]; rw [if_neg (by decide)]; rw [if_neg (by decide)]; rw [if_pos rfl]; exact D)) h9 B9 (P.tr P9))
  rw [sks] at n5 X5
  have F5 : Fr h h5 txL [] := ((F4.trans G5).into (by decide))
  refine x_wd st_22 (by decide +kernel) X5 (fun W h6 G6 X6 e3 _ => ⟨fun c => absurd c (by decide), fun _ => ?_⟩) (fun n6 h6 G6 X6 _ => ⟨fun _ => ?_, fun c => absurd rfl c⟩)
  · have F6 : Fr h h6 txL [] := ((F5.trans G6).into (by decide))
    rw [sks] at W X6 e3
    have B := body 1022 (by decide) W
    have gl := W.gl
    have sl : 0 < slen 1022 := by decide +kernel
    have P : PV r h h6 := PV.tx F6
    have A' := A.tx hr F6
    exact x_addSum (a := 1) (fun h9 k => l_X8_statement_313 k) (by decide) hr (e60 _ F6) A' X6 e3 (by omega) (fun p' g' D l44 l h9 X9 A9 P9 => k1 p' g' (B _ (by unfold bodyP; rw [if_neg (by decide)]; rw [if_neg (by decide)]; rw [if_neg (by decide)]; rw [if_neg (by decide)]; rw [if_neg (by decide)]; rw [if_pos rfl]; exact D)) l44 (by omega) h9 X9 A9 (P.tr P9)) (fun f D h9 B9 P9 => k0 f (B _ (by unfold bodyP; rw [if_neg (by decide)]; rw [if_neg (by decide)]; rw [if_neg (by decide)]; rw [if_neg (by decide)]; rw [if_neg (by decide)]; rw [if_pos rfl]; exact D)) h9 B9 (P.tr P9))
  rw [sks] at n6 X6
  have F6 : Fr h h6 txL [] := ((F5.trans G6).into (by decide))
  refine x_wd st_23 (by decide +kernel) X6 (fun W h7 G7 X7 e3 _ => ⟨fun c => absurd c (by decide), fun _ => ?_⟩) (fun n7 h7 G7 X7 _ => ⟨fun _ => ?_, fun c => absurd rfl c⟩)
  · have F7 : Fr h h7 txL [] := ((F6.trans G7).into (by decide))
    rw [sks] at W X7 e3
    have B := body 1023 (by decide) W
    have gl := W.gl
    have sl : 0 < slen 1023 := by decide +kernel
    have P : PV r h h7 := PV.tx F7
    have A' := A.tx hr F7
    exact x_setOne (i := 0) (by decide) (by decide) hr (e60 _ F7) A' X7 (fun p' g' D e44 l h9 X9 A9 P9 => k1 p' g' (B _ (by unfold bodyP; rw [if_neg (by decide)]; rw [if_neg (by decide)]; rw [if_neg (by decide)]; rw [if_neg (by decide)]; rw [if_neg (by decide)]; rw [if_neg (by decide)]; rw [if_pos rfl]; exact D)) (by rw [e44]; omega) (by omega) h9 X9 A9 (P.tr P9)) (fun f D h9 B9 P9 => k0 f (B _ (by unfold bodyP; rw [if_neg (by decide)]; rw [if_neg (by decide)]; rw [if_neg (by decide)]; rw [if_neg (by decide)]; rw [if_neg (by decide)]; rw [if_neg (by decide)]; rw [if_pos rfl]; exact D)) h9 B9 (P.tr P9))
  rw [sks] at n7 X7
  have F7 : Fr h h7 txL [] := ((F6.trans G7).into (by decide))
  refine x_wd st_24 (by decide +kernel) X7 (fun W h8 G8 X8 e3 _ => ⟨fun c => absurd c (by decide), fun _ => ?_⟩) (fun n8 h8 G8 X8 _ => ⟨fun _ => ?_, fun c => absurd rfl c⟩)
  · have F8 : Fr h h8 txL [] := ((F7.trans G8).into (by decide))
    rw [sks] at W X8 e3
    have B := body 1024 (by decide) W
    have gl := W.gl
    have sl : 0 < slen 1024 := by decide +kernel
    have P : PV r h h8 := PV.tx F8
    have A' := A.tx hr F8
    exact x_setOne (i := 1) (by decide) (by decide) hr (e60 _ F8) A' X8 (fun p' g' D e44 l h9 X9 A9 P9 => k1 p' g' (B _ (by unfold bodyP; rw [if_neg (by decide)]; rw [if_neg (by decide)]; rw [if_neg (by decide)]; rw [if_neg (by decide)]; rw [if_neg (by decide)]; rw [if_neg (by decide)]; rw [if_neg (by decide)]; rw [if_pos rfl]; exact D)) (by rw [e44]; omega) (by omega) h9 X9 A9 (P.tr P9)) (fun f D h9 B9 P9 => k0 f (B _ (by unfold bodyP; rw [if_neg (by decide)]; rw [if_neg (by decide)]; rw [if_neg (by decide)]; rw [if_neg (by decide)]; rw [if_neg (by decide)]; rw [if_neg (by decide)]; rw [if_neg (by decide)]; rw [if_pos rfl]; exact D)) h9 B9 (P.tr P9))
  rw [sks] at n8 X8
  have F8 : Fr h h8 txL [] := ((F7.trans G8).into (by decide))
  refine x_wd st_25 (by decide +kernel) X8 (fun W h9 G9 X9 e3 _ => ⟨fun c => absurd c (by decide), fun _ => ?_⟩) (fun n9 h9 G9 X9 _ => ⟨fun _ => ?_, fun c => absurd rfl c⟩)
  · have F9 : Fr h h9 txL [] := ((F8.trans G9).into (by decide))
    rw [sks] at W X9 e3
    have B := body 1025 (by decide) W
    have gl := W.gl
    have sl : 0 < slen 1025 := by decide +kernel
    have P : PV r h h9 := PV.tx F9
    have A' := A.tx hr F9
    exact x_setOne (i := 2) (by decide) (by decide) hr (e60 _ F9) A' X9 (fun p' g' D e44 l h9 X9 A9 P9 => k1 p' g' (B _ (by unfold bodyP; rw [if_neg (by decide)]; rw [if_neg (by decide)]; rw [if_neg (by decide)]; rw [if_neg (by decide)]; rw [if_neg (by decide)]; rw [if_neg (by decide)]; rw [if_neg (by decide)]; rw [if_neg (by decide)];  exact D)) (by rw [e44]; omega) (by omega) h9 X9 A9 (P.tr P9)) (fun f D h9 B9 P9 => k0 f (B _ (by unfold bodyP; rw [if_neg (by decide)]; rw [if_neg (by decide)]; rw [if_neg (by decide)]; rw [if_neg (by decide)]; rw [if_neg (by decide)]; rw [if_neg (by decide)]; rw [if_neg (by decide)]; rw [if_neg (by decide)];  exact D)) h9 B9 (P.tr P9))
  rw [sks] at n9 X9
  have F9 : Fr h h9 txL [] := ((F8.trans G9).into (by decide))
  refine x_failHere X9.1 X9.2.2.2 X9.2.1 (fun h10 F10 B10 _ => ?_)
  refine l_X8_statement_419 ⟨B10.nz.1, fun _ => k0 (1, (sk t L p : Int)) (Or.inr ⟨fun x hx => ?_, rfl⟩) h10 B10 ((PV.tx F9).tr (PV.tx (F10.into (by decide)))), fun c => absurd B10.nz.2 c⟩
  simp only [List.mem_cons, List.not_mem_nil, or_false] at hx
  rcases hx with rfl | rfl | rfl | rfl | rfl | rfl | rfl | rfl | rfl <;> assumption
end L4B
