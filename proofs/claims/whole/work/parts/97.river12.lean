/-! the class reads a river's text -/
def rlP (t : Int → Int) (L : Nat) : Nat → Hp → Nat → PRes Hp → Prop
  | 0, g, p, r => (byL t L (sk t L p) = -1 ∧ r = .inr (sk t L p, g)) ∨ (byL t L (sk t L p) ≠ -1 ∧ r = .inl (5, (sk t L p : Int)))
  | k + 1, g, p, r => (byL t L (sk t L p) = -1 ∧ r = .inr (sk t L p, g)) ∨ (byL t L (sk t L p) ≠ -1 ∧ pB (stP t L g) (fun g' => pB (pSg t L 59) (fun _ => rlP t L k (hu g' 68 42 (g 68 42 + 1)))) p r)
section L4C
variable {w : Wd} {h h' h0 h1 h2 g g' : Hp} {K : Int → Hp → Prop} {t : Int → Int} {L p q : Nat} {r : Int}
theorem CRv.count {v : Int} (A : CRv h g r) (hr : r = 6 ∨ r = 23) (q : h' = hu h r 11 v) : CRv h' (hu g 68 42 v) r := by
  obtain ⟨a1, a2, a3, a4, a5, a6, a7, a8, a9, a10, a11, a12, a13, a14, a15⟩ := A
  have er : ∀ o : Int, o ≠ r → h' o = h o := fun o n => hu_row q n
  have e0 : ∀ j : Int, h' r j = if j = 11 then v else h r j := fun j => by rw [q, hu_if]
  have eg : ∀ o : Int, o ≠ 68 → hu g 68 42 v o = g o := fun o n => hu_row rfl n
  have g0 : ∀ j : Int, hu g 68 42 v 68 j = if j = 42 then v else g 68 j := fun j => by rw [hu_if]
  have lk : ∀ {o k : Int} {m : Nat}, o ≠ r → o + 1 ≠ r → LK h g o k m → LK h' (hu g 68 42 v) o k m := fun x y B => (B.fr (by rw [er _ x]) (er _ y)).gg (eg 93 (by decide)) (eg 94 (by decide))
  have fs : ∀ {f a : Int}, f ≠ r → f + 1 ≠ r → FS h g f a → FS h' (hu g 68 42 v) f a := fun x y B => by
    unfold FS at B ⊢
    rw [er _ x, er _ y, eg 98 (by decide), eg 99 (by decide), eg 100 (by decide), g0, if_neg (by decide)]
    exact B
  refine ⟨by rw [e0, if_neg (by decide), g0, if_neg (by decide)]; exact a1, lk (by omega) (by omega) a2, lk (by omega) (by omega) a3, lk (by omega) (by omega) a4, by rw [er _ (by omega), eg 95 (by decide)]; exact a5, fun b b0 b1 => ?_, by rw [eg 93 (by decide), er (r + 11) (by omega)]; exact a7, by rw [e0, if_neg (by decide), eg 97 (by decide)]; exact a8, by rw [e0, if_neg (by decide), eg 97 (by decide)]; exact a9, by rw [e0, if_neg (by decide), eg 97 (by decide)]; exact a10, fs (by omega) (by omega) a11, fs (by omega) (by omega) a12, by rw [g0, if_neg (by decide)]; exact a13, by rw [g0, if_neg (by decide)]; exact a14, by rw [e0, if_pos rfl, g0, if_pos rfl]⟩
  rw [eg 93 (by decide)] at b1
  have c := a6 b b0 b1
  unfold CB at c ⊢
  rw [er (r + 8) (by omega), er (r + 9) (by omega), er (r + 10) (by omega), er (r + 11) (by omega), er (r + 12) (by omega), eg 93 (by decide), eg 96 (by decide), g0, if_neg (by decide)]
  exact c
theorem x_isMore (X : XS t L h p) (k1 : byL t L (sk t L p) ≠ -1 → ∀ h1, Fr h h1 txL [] → XS t L h1 (sk t L p) → K 1 h1) (k0 : byL t L (sk t L p) = -1 → ∀ h1, Fr h h1 txL [] → XS t L h1 (sk t L p) → K 0 h1) : C_X10_isMore w h K := by
  refine c_X10_isMore (XS.next X (fun h2 F2 X2 e3 => ?_))
  have l := X2.2.2.1
  have l2 := X2.1.2.1
  rw [X2.2.1, X2.1.1]
  refine ⟨⟨by omega, by omega⟩, ⟨by omega, by omega⟩, fun c => k0 (if_neg (by omega)) h2 F2 X2, fun c => k1 (fun x => ?_) h2 F2 X2⟩
  have lt : sk t L p < L := by omega
  rw [byL_in lt] at x
  have := (X2.1.2.2.1 _ lt).1
  omega
theorem stP_42 {p' : Nat} (D : stP t L g p (.inr (p', g'))) : g' 68 42 = g 68 42 := by
  have nm : ∀ {k : Int} {q p : Nat}, bName t L g k q p (.inr (p', g')) → g' 68 42 = g 68 42 := fun D => by
    rcases D with ⟨-, e⟩ | ⟨-, D⟩
    · cases e
    · obtain ⟨p1, a1, -, D⟩ := D.ok
      cases D
      rw [hu_row rfl (by decide), hu_row rfl (by decide)]
  have sm : ∀ {a : Int} {q p : Nat}, bSum t L g a q p (.inr (p', g')) → g' 68 42 = g 68 42 := fun D => by
    rcases D with ⟨-, e⟩ | ⟨-, res, -, e⟩
    · cases e
    · rcases res with f | x
      · cases e
      · cases e
        exact gS_o (by decide) (by decide) (by decide) (by decide)
  have se : ∀ {i lo hi : Int} {p : Nat}, bSet t L g i lo hi p (.inr (p', g')) → g' 68 42 = g 68 42 := fun D => by
    obtain ⟨p1, a1, -, D⟩ := D.ok
    cases D
    rw [hu_row rfl (by decide)]
  rcases D with ⟨x, hx, -, D⟩ | ⟨-, e⟩
  · unfold bodyP at D
    split at D
    · obtain ⟨p1, a1, -, D⟩ := D.ok
      obtain ⟨p2, a2, -, D⟩ := D.ok
      obtain ⟨p3, a3, -, D⟩ := D.ok
      cases D
      rw [hu_row rfl (by decide)]
    · split at D
      · exact nm D
      · split at D
        · exact nm D
        · split at D
          · rcases D with ⟨-, e⟩ | ⟨-, D⟩
            · cases e
            · obtain ⟨p1, a1, -, D⟩ := D.ok
              obtain ⟨p2, a2, -, D⟩ := D.ok
              obtain ⟨p3, a3, -, D⟩ := D.ok
              obtain ⟨p4, a4, -, D⟩ := D.ok
              obtain ⟨p5, a5, -, D⟩ := D.ok
              obtain ⟨p6, a6, -, D⟩ := D.ok
              obtain ⟨p7, a7, -, D⟩ := D.ok
              obtain ⟨p8, a8, -, D⟩ := D.ok
              obtain ⟨p9, a9, -, D⟩ := D.ok
              obtain ⟨p10, a10, -, D⟩ := D.ok
              obtain ⟨p11, a11, -, D⟩ := D.ok
              cases D
              rw [gB_o (by decide) (by decide) (by decide)]
          · split at D
            · exact sm D
            · split at D
              · exact sm D
              · split at D
                · exact se D
                · split at D
                  · exact se D
                  · exact se D
  · cases e
theorem x_loop (hr : r = 6 ∨ r = 23) : ∀ k : Nat, ∀ (h g : Hp) (K : Int → Hp → Prop) (p : Nat), h 60 2 = r → CRv h g r → XS t L h p → g 68 44 ≤ p → g 68 42 = 70 - (k : Int) → 1 ≤ g 68 42 →
    (∀ p' g', rlP t L k g p (.inr (p', g')) → ∀ h1, XS t L h1 p' → CRv h1 g' r → PV r h h1 → K 1 h1) →
    (∀ f, rlP t L k g p (.inl f) → ∀ h1, XB t L h1 f.1 f.2 → PV r h h1 → K 0 h1) → L_X8_read_14 w (70 - (k : Int)) h K := by
  intro k
  induction k with
  | zero =>
    intro h g K p e60 A X hc ec e1 k1 k0
    refine l_X8_read_14 ⟨⟨by omega, by omega⟩, fun c => absurd c (by omega), fun _ => x_isMore X (fun nb h2 F2 X2 _ => ⟨fun c => absurd c (by decide), fun _ => ⟨⟨by omega, by omega⟩, fun c => absurd (by omega) c, fun _ => ?_⟩⟩) (fun nb h2 F2 X2 _ => ⟨fun _ => ?_, fun c => absurd rfl c⟩)⟩
    · rw [X2.2.1]
      exact x_fail X2.1 X2.2.2.2 ⟨by decide, by decide⟩ (fun h5 F5 B5 _ => k0 (5, (sk t L p : Int)) (Or.inr ⟨nb, rfl⟩) h5 B5 ((PV.tx F2).tr (PV.tx (F5.into (by decide)))))
    · have A2 := A.tx hr F2
      rw [F2 60 2 List.not_mem_nil (by decide), e60, A2.2.2.2.2.2.2.2.2.2.2.2.2.2.2]
      exact ⟨ob7 hr, ⟨by omega, by omega⟩, fun _ => k1 _ g (Or.inl ⟨nb, rfl⟩) h2 X2 A2 (PV.tx F2), fun c => absurd (by omega) c⟩
  | succ k ih =>
    intro h g K p e60 A X hc ec e1 k1 k0
    have n1 := sk_ge t L p
    refine l_X8_read_14 ⟨⟨by omega, by omega⟩, fun c => absurd c (by omega), fun _ => x_isMore X (fun nb h2 F2 X2 _ => ⟨fun c => absurd c (by decide), fun _ => ⟨⟨by omega, by omega⟩, fun _ => ⟨⟨by omega, by omega⟩, fun _ => ?_, fun c => absurd (fun x => by omega) c⟩, fun c => absurd (fun x => by omega) c⟩⟩) (fun nb h2 F2 X2 _ => ⟨fun _ => ?_, fun c => absurd rfl c⟩)⟩
    · have A2 := A.tx hr F2
      have r2 : h2 60 2 = r := by rw [F2 60 2 List.not_mem_nil (by decide)]; exact e60
      have stE : ∀ res, stP t L g (sk t L p) res → stP t L g p res := fun res D => by
        unfold stP at D ⊢
        rw [sk_sk] at D
        exact D
      refine x_statement hr r2 A2 X2 (by omega) (fun p3 g3 D3 l44 l3 h3 X3 A3 P3 _ => ⟨fun c => absurd c (by decide), fun _ => ?_⟩) (fun f D3 h3 B3 P3 _ => ⟨fun _ => k0 f (Or.inr ⟨nb, Or.inl ⟨f, stE _ D3, rfl⟩⟩) h3 B3 ((PV.tx F2).tr P3), fun c => absurd rfl c⟩)
      have e42 : g3 68 42 = g 68 42 := stP_42 D3
      have r3 : h3 60 2 = r := by rw [P3 60 2 (by omega) (by decide) (by decide)]; exact r2
      refine x_needSign X3 ⟨by decide, by decide⟩ (fun b4 lt4 h4 F4 X4 _ _ => ⟨fun _ => ?_, fun c => absurd (by decide) c⟩) (fun b4 h4 F4 B4 _ => ⟨fun c => absurd rfl c, fun _ => ?_⟩)
      · have r4 : h4 60 2 = r := by rw [F4 60 2 List.not_mem_nil (by decide)]; exact r3
        have A4 := A3.tx hr F4
        have n3 := sk_ge t L p3
        rw [r4]
        refine ⟨ob7 hr, fun h5 q5 => ?_⟩
        rw [A4.2.2.2.2.2.2.2.2.2.2.2.2.2.2, e42] at q5
        have A5 := A4.count hr q5
        have P5 : PV r h h5 := ((PV.tx F2).tr P3).tr ((PV.tx F4).tr (PV.row (by omega) q5))
        have i5 : ∀ res, rlP t L k (hu g3 68 42 (g 68 42 + 1)) (sk t L p3 + 1) res → rlP t L (k + 1) g p res := fun res D => Or.inr ⟨nb, Or.inr ⟨p3, g3, stE _ D3, Or.inr ⟨_, (), ⟨b4, rfl⟩, D⟩⟩⟩
        have c44 : hu g3 68 42 (g 68 42 + 1) 68 44 = g3 68 44 := by rw [hu_if, if_neg (by decide)]
        have c42 : hu g3 68 42 (g 68 42 + 1) 68 42 = g 68 42 + 1 := by rw [hu_if, if_pos rfl]
        have e := ih h5 (hu g3 68 42 (g 68 42 + 1)) K (sk t L p3 + 1) (by rw [hu_row q5 (by omega)]; exact r4) A5 (X4.row (kd := 0) (hu_row q5 (by omega)) (hu_row q5 (by omega))) (by rw [c44]; omega) (by rw [c42]; omega) (by rw [c42]; omega) (fun p' g' D h6 X6 A6 P6 => k1 p' g' (i5 _ D) h6 X6 A6 (P5.tr P6)) (fun f D h6 B6 P6 => k0 f (i5 _ D) h6 B6 (P5.tr P6))
        rw [show (70 - ((k + 1 : Nat) : Int)) + 1 = 70 - (k : Int) by omega]
        exact e
      · exact k0 (1, (sk t L p3 : Int)) (Or.inr ⟨nb, Or.inr ⟨p3, g3, stE _ D3, Or.inl ⟨_, ⟨b4, rfl⟩, rfl⟩⟩⟩) h4 B4 (((PV.tx F2).tr P3).tr (PV.tx F4))
    · have A2 := A.tx hr F2
      rw [F2 60 2 List.not_mem_nil (by decide), e60, A2.2.2.2.2.2.2.2.2.2.2.2.2.2.2]
      exact ⟨ob7 hr, ⟨by omega, by omega⟩, fun _ => k1 _ g (Or.inl ⟨nb, rfl⟩) h2 X2 A2 (PV.tx F2), fun c => absurd (by omega) c⟩
end L4C
