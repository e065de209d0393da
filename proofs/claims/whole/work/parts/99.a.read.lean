/-! the class reads a river, whole -/
def rdP (t : Int → Int) (L : Nat) : Nat → PRes Hp → Prop := pB (pWd t L 1000) (fun _ => pB (pNum t L 3 8) (fun v => pB (pSg t L 59) (fun _ => rlP t L 69 (gI v))))
section L4E
variable {w : Wd} {h h' h0 h1 h2 g g' : Hp} {K : Int → Hp → Prop} {t : Int → Int} {L p q : Nat} {r : Int}
theorem Z0.tx (Z : Z0 h r) (hr : r = 6 ∨ r = 23) (F : Fr h h' txL []) : Z0 h' r := by
  have er : ∀ o : Int, r ≤ o → h' o = h o := fun o x => funext (fun i => F o i List.not_mem_nil (fun q => by simp at q; omega))
  unfold Z0 at Z ⊢
  rw [er (r + 1) (by omega), er (r + 3) (by omega), er (r + 5) (by omega), er (r + 7) (by omega), er (r + 11) (by omega), er (r + 13) (by omega), er (r + 15) (by omega), er r (by omega)]
  exact Z
theorem x_read (hr : r = 6 ∨ r = 23) (X : XS t L h p)
    (k1 : ∀ p' g', rdP t L p (.inr (p', g')) → ∀ h1, XS t L h1 p' → CRv h1 g' r → PV r (hu h 60 2 r) h1 → K 1 h1)
    (k0 : ∀ f, rdP t L p (.inl f) → ∀ h1, XB t L h1 f.1 f.2 → PV r (hu h 60 2 r) h1 → K 0 h1) : C_X8_read w r h K := by
  have n1 := sk_ge t L p
  refine c_X8_read (ob7 hr) (fun h1 q1 => ?_)
  rw [← q1] at k1 k0
  have e60 : h1 60 2 = r := by rw [q1, hu_if, if_pos rfl]
  have X1 : XS t L h1 p := X.row (kd := 0) (hu_row q1 (by decide)) (hu_row q1 (by decide))
  rw [e60]
  refine ⟨ob7 hr, x_clear7 hr (fun h2 Z2 fr2 => ?_)⟩
  have P2 : PV r h1 h2 := fun o i m1 m2 m3 => by rw [fr2 o m1]
  have X2 : XS t L h2 p := X1.row (kd := 0) (fr2 1 (by omega)) (fr2 2 (by omega))
  have r2 : h2 60 2 = r := by rw [fr2 60 (by omega)]; exact e60
  refine l_X8_read_14 ⟨⟨by decide, by decide⟩, fun c => absurd c (by decide), fun _ => x_isMore X2 (fun nb h3 F3 X3 _ => ⟨fun c => absurd c (by decide), fun _ => ⟨⟨by decide, by decide⟩, fun _ => ⟨⟨by decide, by decide⟩, fun c => absurd rfl c, fun _ => ?_⟩, fun c => absurd (by decide) c⟩⟩) (fun nb h3 F3 X3 _ => ⟨fun _ => ?_, fun c => absurd rfl c⟩)⟩
  · have Z3 := Z2.tx hr F3
    have P3 := P2.tr (PV.tx F3)
    have r3 : h3 60 2 = r := by rw [F3 60 2 List.not_mem_nil (by decide)]; exact r2
    refine c_X8_reaches (x_nwd st_0 (by decide +kernel) X3 (fun W4 h4 F4 X4 _ => ⟨fun _ => ?_, fun c => absurd (by decide) c⟩) (fun W4 h4 F4 B4 _ => ⟨fun c => absurd rfl c, fun _ _ => ⟨fun _ => k0 (1, (sk t L p : Int)) (Or.inl ⟨_, ⟨by rw [sk_sk] at W4; exact W4, rfl⟩, rfl⟩) h4 (by rw [sk_sk] at B4; exact B4) (P3.tr (PV.tx F4)), fun c => absurd rfl c⟩⟩))
    rw [sk_sk] at W4 X4
    have D4 : pWd t L 1000 p (.inr (sk t L p + (slen 1000).toNat, ())) := ⟨W4, rfl⟩
    obtain ⟨p4, hp4⟩ : ∃ p4, p4 = sk t L p + (slen 1000).toNat := ⟨_, rfl⟩
    rw [← hp4] at X4 D4
    have Z4 := Z3.tx hr F4
    have P4 := P3.tr (PV.tx F4)
    have r4 : h4 60 2 = r := by rw [F4 60 2 List.not_mem_nil (by decide)]; exact r3
    have n4 := sk_ge t L p4
    rw [r4]
    refine ⟨ob7 hr, x_number X4 ⟨by decide, by decide⟩ ⟨by decide, by decide⟩ (fun v n nv h5 F5 X5 => ?_) (fun kd pl nf h5 F5 B5 => ⟨⟨by decide, by decide⟩, fun h6 q6 => ?_⟩)⟩
    · have v0 := nv.2.2.2.2.2.2.2
      have vb : 3 ≤ v ∧ v ≤ 8 := v0
      have Z5 := Z4.tx hr F5
      have P5 := P4.tr (PV.tx F5)
      refine ⟨⟨by omega, by omega⟩, fun h6 q6 => ?_⟩
      rw [show max 0 v = v by omega] at q6
      have X6 : XS t L h6 (sk t L p4 + n) := X5.row (kd := 0) (hu_row q6 (by omega)) (hu_row q6 (by omega))
      have Z6 : Z0 h6 r := by
        have er : ∀ o : Int, o ≠ r → h6 o = h5 o := fun o x => hu_row q6 x
        have e0 : ∀ j : Int, j ≠ 12 → h6 r j = h5 r j := fun j x => by rw [q6, hu_if, if_neg x]
        unfold Z0 at Z5 ⊢
        rw [er (r + 1) (by omega), er (r + 3) (by omega), er (r + 5) (by omega), er (r + 7) (by omega), er (r + 11) (by omega), er (r + 13) (by omega), er (r + 15) (by omega), e0 11 (by decide), e0 13 (by decide), e0 14 (by decide), e0 15 (by decide)]
        exact Z5
      have e12 : h6 r 12 = v := by rw [q6, hu_if, if_pos rfl]
      have P6 := P5.tr (PV.row (by omega) q6)
      have r6 : h6 60 2 = r := by rw [hu_row q6 (by omega), F5 60 2 List.not_mem_nil (by decide)]; exact r4
      have D6 : pNum t L 3 8 p4 (.inr (sk t L p4 + n, v)) := ⟨n, nv, rfl⟩
      generalize sk t L p4 + n = p6 at X6 D6
      refine ⟨X6.zz.1, fun c => absurd c X6.zz.2, fun _ _ => ⟨fun c => absurd c (by decide), fun _ => ?_⟩⟩
      refine x_needSign X6 ⟨by decide, by decide⟩ (fun b7 lt7 h7 F7 X7 _ _ => ⟨fun _ => ?_, fun c => absurd (by decide) c⟩) (fun b7 h7 F7 B7 _ => ⟨fun c => absurd rfl c, fun _ => k0 (1, (sk t L p6 : Int)) (Or.inr ⟨p4, (), D4, Or.inr ⟨p6, v, D6, Or.inl ⟨_, ⟨b7, rfl⟩, rfl⟩⟩⟩) h7 B7 (P6.tr (PV.tx F7))⟩)
      have Z7 := Z6.tx hr F7
      have r7 : h7 60 2 = r := by rw [F7 60 2 List.not_mem_nil (by decide)]; exact r6
      have e12' : h7 r 12 = v := by exact (F7 r 12 List.not_mem_nil (by rcases hr with rfl | rfl <;> decide)).trans e12
      rw [r7]
      refine ⟨ob7 hr, fun h8 q8 => ?_⟩
      rw [Z7.2.2.2.2.2.2.2.1] at q8
      have A8 := Z7.cr hr vb e12' q8
      have P8 := (P6.tr (PV.tx F7)).tr (PV.row (by omega) q8)
      have up : ∀ res, rlP t L 69 (gI v) (sk t L p6 + 1) res → rdP t L p res := fun res D => Or.inr ⟨p4, (), D4, Or.inr ⟨p6, v, D6, Or.inr ⟨_, (), ⟨b7, rfl⟩, D⟩⟩⟩
      exact x_loop hr 69 h8 (gI v) K (sk t L p6 + 1) (by rw [hu_row q8 (by omega)]; exact r7) A8 (X7.row (kd := 0) (hu_row q8 (by omega)) (hu_row q8 (by omega))) (by show (0 : Int) ≤ _; omega) rfl (by show (1 : Int) ≤ 1; decide) (fun p' g' D h9 X9 A9 P9 => k1 p' g' (up _ D) h9 X9 A9 (P8.tr P9)) (fun f D h9 B9 P9 => k0 f (up _ D) h9 B9 (P8.tr P9))
    · have B6 : XB t L h6 kd pl := B5.pf (hu_row q6 (by omega)) (hu_row q6 (by omega))
      exact ⟨B6.nz.1, fun _ _ => ⟨fun _ => k0 (kd, pl) (Or.inr ⟨p4, (), D4, Or.inl ⟨(kd, pl), nf, rfl⟩⟩) h6 B6 ((P4.tr (PV.tx F5)).tr (PV.row (by omega) q6)), fun c => absurd rfl c⟩, fun c => absurd B6.nz.2 c⟩
  · have Z3 := Z2.tx hr F3
    have r3 : h3 60 2 = r := by rw [F3 60 2 List.not_mem_nil (by decide)]; exact r2
    rw [r3, Z3.2.2.2.2.2.2.2.1]
    refine ⟨ob7 hr, ⟨by decide, by decide⟩, fun c => absurd c (by decide), fun _ => x_failHere X3.1 X3.2.2.2 X3.2.1 (fun h4 F4 B4 _ => ⟨fun _ => k0 (1, (sk t L p : Int)) (Or.inl ⟨_, ⟨fun W => ?_, rfl⟩, rfl⟩) h4 B4 ((P2.tr (PV.tx F3)).tr (PV.tx (F4.into (by decide)))), fun c => absurd rfl c⟩)⟩
    have := W.lt (show wOK 1000 by decide +kernel)
    omega
end L4E
