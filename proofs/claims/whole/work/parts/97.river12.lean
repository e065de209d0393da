/-! the class reads a river's text -/
def rlP (t : Int → Int) (L : Nat) : Nat → Hp → Nat → PRes Hp → Prop
  | 0, g, p, r => (byL t L (sk t L p) = -1 ∧ r = .inr (sk t L p, g)) ∨ (byL t L (sk t L p) ≠ -1 ∧ r = .inl (5, (sk t L p : Int)))
  | k + 1, g, p, r => (byL t L (sk t L p) = -1 ∧ r = .inr (sk t L p, g)) ∨ (byL t L (sk t L p) ≠ -1 ∧ pB (stP t L g) (fun g' => pB (pSg t L 59) (fun _ => rlP t L k (hu g' 68 42 (g 68 42 + 1)))) p r)
section L4C
variable {w : Wd} {h h' h0 h1 h2 g g' : Hp} {K : Int → Hp → Prop} {t : Int → Int} {L p q : Nat} {r : Int}
theorem CRv.count {v : Int} (A : CRv h g r) (hr : r = 6 ∨ r = 23) (q : h' = hu h r 11 v) : CRv h' (hu g 68 42 v) r := by
  obtain ⟨a1, a2, a3, a4, a5, a6, a7, a8, a9, a10, a11, a12, a13, a14, a15⟩ := A
  have er : ∀ o : Int, o ≠ r → h' o = h o := fun o n => hu_row q n
  have e0 : ∀ j : Int, h' r j = if j = 11 then v else h r j := fun j => by rw [q, hu_if]
  have eg : ∀ o : Int, o ≠ 68 → hu g 68 42 v o = g o := fun o n => hu_row rfl n
  have g0 : ∀ j : Int, hu g 68 42 v 68 j = if j = 42 then v else g 68 j := fun j => by rw [hu_if]
  have lk : ∀ {o k : Int} {m : Nat}, o ≠ r → o + 1 ≠ r → LK h g o k m → LK h' (hu g 68 42 v) o k m := fun x y B => (B.fr (by rw [er _ x]) (er _ y)).gg (eg 93 (by decide)) (eg 94 (by decide))
  have fs : ∀ {f a : Int}, f ≠ r → f + 1 ≠ r → FS h g f a → FS h' (hu g 68 42 v) f a := fun x y B => by
    unfold FS at B ⊢
    rw [er _ x, er _ y, eg 98 (by decide), eg 99 (by decide), eg 100 (by decide), g0, if_neg (by decide)]
    exact B
  refine ⟨by rw [e0, if_neg (by decide), g0, if_neg (by decide)]; exact a1, lk (by omega) (by omega) a2, lk (by omega) (by omega) a3, lk (by omega) (by omega) a4, by rw [er _ (by omega), eg 95 (by decide)]; exact a5, fun b b0 b1 => ?_, by rw [eg 93 (by decide), er (r + 11) (by omega)]; exact a7, by rw [e0, if_neg (by decide), eg 97 (by decide)]; exact a8, by rw [e0, if_neg (by decide), eg 97 (by decide)]; exact a9, by rw [e0, if_neg (by decide), eg 97 (by decide)]; exact a10, fs (by omega) (by omega) a11, fs (by omega) (by omega) a12, by rw [g0, if_neg (by decide)]; exact a13, by rw [g0, if_neg (by decide)]; exact a14, by rw [e0, if_pos rfl, g0, if_pos rfl]⟩
  rw [eg 93 (by decide)] at b1
  have c := a6 b b0 b1
  unfold CB at c ⊢
  rw [er (r + 8) (by omega), er (r + 9) (by omega), er (r + 10) (by omega), er (r + 11) (by omega), er (r + 12) (by omega), eg 93 (by decide), eg 96 (by decide), g0, if_neg (by decide)]
  exact c
end L4C
