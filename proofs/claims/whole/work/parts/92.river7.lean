/-! a river's statements on the class's side: a bank -/
/-- equal off the text's reading -/
def E1 (h S : Hp) : Prop := ∀ o i : Int, ¬ (o = 1 ∧ 2 ≤ i ∧ i ≤ 5) → h o i = S o i
theorem E1.r {h S : Hp} (E : E1 h S) (o : Int) (n : o ≠ 1) : h o = S o := funext (fun i => E o i (fun x => n x.1))
theorem E1.tx {h h1 S : Hp} (E : E1 h S) (F : Fr h h1 txL []) : E1 h1 S := fun o i n => by
  rw [← E o i n]; exact F o i List.not_mem_nil (fun q => by simp at q; omega)
theorem E1.up {h h1 S : Hp} {o i v : Int} (E : E1 h S) (ho : o ≠ 1) (q : h1 = hu h o i v) : E1 h1 (hu S o i v) := fun o' j n => by
  by_cases d : o' = o
  · subst d; rw [q, hu_if, hu_if, E o' j n]
  · rw [hu_row q d, hu_row rfl d, E o' j n]
def S5 (S : Hp) (r b a c s n z : Int) : Hp := hu (hu (hu (hu (hu S (r + 8) b a) (r + 9) b c) (r + 10) b s) (r + 11) b n) (r + 12) b z
section L3X
variable {w : Wd} {h h' h0 h1 h2 g g' : Hp} {K : Int → Hp → Prop} {t : Int → Int} {L p q : Nat} {r b v : Int}
theorem XB.nz {kd pl : Int} (B : XB t L h kd pl) : inR (h 1 4) ∧ h 1 4 ≠ 0 := by
  have := B.2.2.2
  rw [B.2.1]
  exact ⟨⟨by omega, by omega⟩, by omega⟩
theorem XS.zz (X : XS t L h p) : inR (h 1 4) ∧ ¬ (h 1 4 ≠ 0) := by rw [X.2.2.2]; exact ⟨⟨by decide, by decide⟩, fun c => c rfl⟩
theorem db_234 {kd pl : Int} (B : XB t L h kd pl) (k : K 0 h) : L_X8_bankTold_234 w h K := l_X8_bankTold_234 ⟨B.nz.1, fun _ => k, fun c => absurd B.nz.2 c⟩
theorem db_193 {kd pl : Int} (B : XB t L h kd pl) (k : K 0 h) : L_X8_bankTold_193 w b h K := l_X8_bankTold_193 ⟨B.nz.1, fun _ => db_234 B k, fun c => absurd B.nz.2 c⟩
theorem db_152 {kd pl : Int} (B : XB t L h kd pl) (k : K 0 h) : L_X8_bankTold_152 w b h K := l_X8_bankTold_152 ⟨B.nz.1, fun _ => db_193 B k, fun c => absurd B.nz.2 c⟩
theorem db_104 {kd pl : Int} (B : XB t L h kd pl) (k : K 0 h) : L_X8_bankTold_104 w b h K := l_X8_bankTold_104 ⟨B.nz.1, fun _ => db_152 B k, fun c => absurd B.nz.2 c⟩
theorem pv_of {S : Hp} (E : E1 h S) (hr : r = 6 ∨ r = 23) (H : ∀ o : Int, ¬ (r ≤ o ∧ o < r + 17) → S o = h0 o) : PV r h0 h := fun o i m1 m2 m3 => by
  rw [E o i m2, H o m1]
/-- one of the three numbers of a bank -/
theorem xb_104 {S : Hp} (hr : r = 6 ∨ r = 23) (hb : 0 ≤ b ∧ b < 10) (e60 : S 60 2 = r) (e12 : S r 12 = g 68 35 ∧ 3 ≤ g 68 35 ∧ g 68 35 ≤ 8) (E : E1 h S) (X : XS t L h p) {Q : PRes Hp → Prop} {next : Int → Nat → PRes Hp → Prop} (up : ∀ res, pB (pWd t L 1002) (fun _ => pB (pNum t L 0 (g 68 35 - 1)) next) p res → Q res)
    (k1 : ∀ p' x, 0 ≤ x → x ≤ (g 68 35 - 1) → p < p' → (∀ res, next x p' res → Q res) → ∀ h1, XS t L h1 p' → E1 h1 (hu S (r + 10) b x) → L_X8_bankTold_152 w b h1 K) (k0 : ∀ f, Q (.inl f) → ∀ h1 x, XB t L h1 f.1 f.2 → (E1 h1 S ∨ E1 h1 (hu S (r + 10) b x)) → K 0 h1) : L_X8_bankTold_104 w b h K := by
  have n1 := sk_ge t L p
  refine l_X8_bankTold_104 ⟨X.zz.1, fun c => absurd c X.zz.2, fun _ => x_nwd st_2 (by decide +kernel) X (fun W2 h2 F2 X2 _ => ⟨fun c => absurd c (by decide), fun _ => ?_⟩) (fun W2 h2 F2 B2 _ => ⟨fun _ => db_152 B2 (k0 (1, (sk t L p : Int)) (up _ (Or.inl ⟨_, ⟨W2, rfl⟩, rfl⟩)) h2 0 B2 (Or.inl (E.tx F2))), fun c => absurd rfl c⟩)⟩
  have E2 := E.tx F2
  have r2 : h2 60 2 = r := by rw [E2.r 60 (by decide)]; exact e60
  have D2 : pWd t L 1002 p (.inr (sk t L p + (slen 1002).toNat, ())) := ⟨W2, rfl⟩
  have sl : 0 < slen 1002 := by decide +kernel
  obtain ⟨p2, hp2⟩ : ∃ p2, p2 = sk t L p + (slen 1002).toNat := ⟨_, rfl⟩
  rw [← hp2] at X2 D2
  have n2 := sk_ge t L p2
  rw [r2]
  have e12b : h2 r 12 = g 68 35 := by rw [E2.r r (by omega)]; exact e12.1
  rw [e12b]
  have e12c := e12.2
  refine ⟨ob7 hr, ob7 hr, x_number X2 ⟨by omega, by omega⟩ ⟨by omega, by omega⟩ (fun x m nx h3 F3 X3 => ⟨hb, fun h4 q4 => ?_⟩) (fun kd pl nf h3 F3 B3 => ⟨hb, fun h4 q4 => ?_⟩)⟩
  · have x0 := nx.2.2.2.2.2.2.2
    have m1 := nx.2.1
    exact k1 (sk t L p2 + m) x x0.1 x0.2 (by omega) (fun res D => up res (Or.inr ⟨p2, (), D2, Or.inr ⟨_, x, ⟨m, nx, rfl⟩, D⟩⟩)) h4 (X3.row (kd := 0) (hu_row q4 (by omega)) (hu_row q4 (by omega))) ((E2.tx F3).up (by omega) q4)
  · have B4 : XB t L h4 kd pl := B3.pf (hu_row q4 (by omega)) (hu_row q4 (by omega))
    exact db_152 B4 (k0 (kd, pl) (up _ (Or.inr ⟨p2, (), D2, Or.inl ⟨(kd, pl), nf, rfl⟩⟩)) h4 _ B4 (Or.inr ((E2.tx F3).up (by omega) q4)))
theorem xb_152 {S : Hp} (hr : r = 6 ∨ r = 23) (hb : 0 ≤ b ∧ b < 10) (e60 : S 60 2 = r) (e12 : S r 12 = g 68 35 ∧ 3 ≤ g 68 35 ∧ g 68 35 ≤ 8) (E : E1 h S) (X : XS t L h p) {Q : PRes Hp → Prop} {next : Int → Nat → PRes Hp → Prop} (up : ∀ res, pB (pWd t L 1008) (fun _ => pB (pNum t L 0 99) next) p res → Q res)
    (k1 : ∀ p' x, 0 ≤ x → x ≤ 99 → p < p' → (∀ res, next x p' res → Q res) → ∀ h1, XS t L h1 p' → E1 h1 (hu S (r + 11) b x) → L_X8_bankTold_193 w b h1 K) (k0 : ∀ f, Q (.inl f) → ∀ h1 x, XB t L h1 f.1 f.2 → (E1 h1 S ∨ E1 h1 (hu S (r + 11) b x)) → K 0 h1) : L_X8_bankTold_152 w b h K := by
  have n1 := sk_ge t L p
  refine l_X8_bankTold_152 ⟨X.zz.1, fun c => absurd c X.zz.2, fun _ => x_nwd st_8 (by decide +kernel) X (fun W2 h2 F2 X2 _ => ⟨fun c => absurd c (by decide), fun _ => ?_⟩) (fun W2 h2 F2 B2 _ => ⟨fun _ => db_193 B2 (k0 (1, (sk t L p : Int)) (up _ (Or.inl ⟨_, ⟨W2, rfl⟩, rfl⟩)) h2 0 B2 (Or.inl (E.tx F2))), fun c => absurd rfl c⟩)⟩
  have E2 := E.tx F2
  have r2 : h2 60 2 = r := by rw [E2.r 60 (by decide)]; exact e60
  have D2 : pWd t L 1008 p (.inr (sk t L p + (slen 1008).toNat, ())) := ⟨W2, rfl⟩
  have sl : 0 < slen 1008 := by decide +kernel
  obtain ⟨p2, hp2⟩ : ∃ p2, p2 = sk t L p + (slen 1008).toNat := ⟨_, rfl⟩
  rw [← hp2] at X2 D2
  have n2 := sk_ge t L p2
  rw [r2]
  refine ⟨ob7 hr, x_number X2 ⟨by omega, by omega⟩ ⟨by omega, by omega⟩ (fun x m nx h3 F3 X3 => ⟨hb, fun h4 q4 => ?_⟩) (fun kd pl nf h3 F3 B3 => ⟨hb, fun h4 q4 => ?_⟩)⟩
  · have x0 := nx.2.2.2.2.2.2.2
    have m1 := nx.2.1
    exact k1 (sk t L p2 + m) x x0.1 x0.2 (by omega) (fun res D => up res (Or.inr ⟨p2, (), D2, Or.inr ⟨_, x, ⟨m, nx, rfl⟩, D⟩⟩)) h4 (X3.row (kd := 0) (hu_row q4 (by omega)) (hu_row q4 (by omega))) ((E2.tx F3).up (by omega) q4)
  · have B4 : XB t L h4 kd pl := B3.pf (hu_row q4 (by omega)) (hu_row q4 (by omega))
    exact db_193 B4 (k0 (kd, pl) (up _ (Or.inr ⟨p2, (), D2, Or.inl ⟨(kd, pl), nf, rfl⟩⟩)) h4 _ B4 (Or.inr ((E2.tx F3).up (by omega) q4)))
theorem xb_193 {S : Hp} (hr : r = 6 ∨ r = 23) (hb : 0 ≤ b ∧ b < 10) (e60 : S 60 2 = r) (e12 : S r 12 = g 68 35 ∧ 3 ≤ g 68 35 ∧ g 68 35 ≤ 8) (E : E1 h S) (X : XS t L h p) {Q : PRes Hp → Prop} {next : Int → Nat → PRes Hp → Prop} (up : ∀ res, pB (pWd t L 1009) (fun _ => pB (pNum t L 1 9) next) p res → Q res)
    (k1 : ∀ p' x, 1 ≤ x → x ≤ 9 → p < p' → (∀ res, next x p' res → Q res) → ∀ h1, XS t L h1 p' → E1 h1 (hu S (r + 12) b x) → L_X8_bankTold_234 w h1 K) (k0 : ∀ f, Q (.inl f) → ∀ h1 x, XB t L h1 f.1 f.2 → (E1 h1 S ∨ E1 h1 (hu S (r + 12) b x)) → K 0 h1) : L_X8_bankTold_193 w b h K := by
  have n1 := sk_ge t L p
  refine l_X8_bankTold_193 ⟨X.zz.1, fun c => absurd c X.zz.2, fun _ => x_nwd st_9 (by decide +kernel) X (fun W2 h2 F2 X2 _ => ⟨fun c => absurd c (by decide), fun _ => ?_⟩) (fun W2 h2 F2 B2 _ => ⟨fun _ => db_234 B2 (k0 (1, (sk t L p : Int)) (up _ (Or.inl ⟨_, ⟨W2, rfl⟩, rfl⟩)) h2 0 B2 (Or.inl (E.tx F2))), fun c => absurd rfl c⟩)⟩
  have E2 := E.tx F2
  have r2 : h2 60 2 = r := by rw [E2.r 60 (by decide)]; exact e60
  have D2 : pWd t L 1009 p (.inr (sk t L p + (slen 1009).toNat, ())) := ⟨W2, rfl⟩
  have sl : 0 < slen 1009 := by decide +kernel
  obtain ⟨p2, hp2⟩ : ∃ p2, p2 = sk t L p + (slen 1009).toNat := ⟨_, rfl⟩
  rw [← hp2] at X2 D2
  have n2 := sk_ge t L p2
  rw [r2]
  refine ⟨ob7 hr, x_number X2 ⟨by omega, by omega⟩ ⟨by omega, by omega⟩ (fun x m nx h3 F3 X3 => ⟨hb, fun h4 q4 => ?_⟩) (fun kd pl nf h3 F3 B3 => ⟨hb, fun h4 q4 => ?_⟩)⟩
  · have x0 := nx.2.2.2.2.2.2.2
    have m1 := nx.2.1
    exact k1 (sk t L p2 + m) x x0.1 x0.2 (by omega) (fun res D => up res (Or.inr ⟨p2, (), D2, Or.inr ⟨_, x, ⟨m, nx, rfl⟩, D⟩⟩)) h4 (X3.row (kd := 0) (hu_row q4 (by omega)) (hu_row q4 (by omega))) ((E2.tx F3).up (by omega) q4)
  · have B4 : XB t L h4 kd pl := B3.pf (hu_row q4 (by omega)) (hu_row q4 (by omega))
    exact db_234 B4 (k0 (kd, pl) (up _ (Or.inr ⟨p2, (), D2, Or.inl ⟨(kd, pl), nf, rfl⟩⟩)) h4 _ B4 (Or.inr ((E2.tx F3).up (by omega) q4)))
end L3X
