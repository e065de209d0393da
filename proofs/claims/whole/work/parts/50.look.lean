/-! pairs of calls that only look: answers like, all stays -/
abbrev PI (c : Int) (z : Int) : Int → Hp → Prop := fun z2 h2 => z2 = z ∧ Inv (c + 1) h2
section L2V
variable {w : Wd} {c : Int} {h h0 : Hp} {K : Int → Hp → Prop}
theorem fin_look {h1 h2 : Hp} (I : Inv c h) (F1 : Fr h h1 imL imR) (B : BD h1) (F2 : Fr h1 h2 [(68, 50)] (105 :: yfR)) : Inv (c + 1) h2 :=
  I.look (by omega) (F1.trans F2) (B.fr F2 (by decide)) (by decide) (by decide) (by decide) (by decide) (by decide) (by decide) (by decide) (by decide) (by decide) (by decide)
theorem q_status (I : Inv c h) (hc : c ≤ 512) {a : Int} (ha : inR a) : C_X11_status w a h (fun z h1 => inR z ∧ C_X12_status w a h1 (PI c z)) := by
  have P := p_status (w := w) ha I.1.2.1 (by omega)
  refine CGm.mono P (fun z h1 q => ⟨q.1, CGm.mono q.2 (fun z2 h2 q2 => ⟨q2.1, by rw [q2.2]; exact I.up (by omega)⟩)⟩)
theorem q_fault (I : Inv c h) {a : Int} (ha : inR a) : C_X11_fault w a h (fun z h1 => inR z ∧ C_X12_fault w a h1 (PI c z)) := by
  refine CGm.mono (p_fault (w := w) ha I.1.2.2.1) (fun z h1 q => ⟨q.1, CGm.mono q.2 (fun z2 h2 q2 => ⟨q2.1, by rw [q2.2]; exact I.up (by omega)⟩)⟩)
theorem q_octet (I : Inv c h) {a : Int} (ha : inR a) : C_X11_octet w a h (fun z h1 => inR z ∧ C_X12_octet w a h1 (PI c z)) := by
  refine CGm.mono (p_octet (w := w) ha I.1.2.2.2.2.2) (fun z h1 q => ⟨q.1, CGm.mono q.2 (fun z2 h2 q2 => ⟨q2.1, by rw [q2.2]; exact I.up (by omega)⟩)⟩)
theorem lA_b2 (Q : Q0 h) {x : Int} (hx : 0 ≤ x ∧ x < 8) : 0 ≤ lA h x ∧ lA h x ≤ 990 := lA_b Q.1 Q.2.1 hx
theorem GS.sums {g : Int → Int} {r : Int} (R : RR h r) (G : GS h g) : 0 ≤ sm 8 (fun r => g (1 + r)) ∧ sm 8 (fun r => g (1 + r)) ≤ 24 ∧ 0 ≤ sm 10 (fun b => g (9 + b)) ∧ sm 10 (fun b => g (9 + b)) ≤ 990 ∧ 0 ≤ sm 10 (fun b => g (19 + b)) ∧ sm 10 (fun b => g (19 + b)) ≤ 990 ∧ 0 ≤ sm 80 (fun k => g (29 + k)) ∧ sm 80 (fun k => g (29 + k)) ≤ 990 := by
  have e : sm 80 (fun k => g (29 + k)) = sm 8 (fun r => sm 10 (fun b => g (29 + 10 * r + b))) := by
    rw [show (80 : Nat) = 10 * 8 from rfl, sm_rows]
    refine sm_congr fun x x0 x1 => sm_congr fun b b0 b1 => ?_
    rw [show 29 + (10 * x + b) = 29 + 10 * x + b by omega]
  rw [e]
  obtain ⟨g1, g2, g3, g4, g5⟩ := G
  have t := tAll_b R
  have n1 := sm_nonneg (n := 8) (f := fun r => sm 10 (fun b => g (29 + 10 * r + b))) (fun x x0 x1 => sm_nonneg fun b b0 b1 => (g4 x b x0 x1 b0 b1).1)
  have n2 := sm_nonneg (n := 10) (f := fun b => g (9 + b)) (fun b b0 b1 => (g3 b b0 b1).1)
  have n3 := sm_nonneg (n := 10) (f := fun b => g (19 + b)) (fun b b0 b1 => (g3 b b0 b1).2.2.1)
  have n4 := sm_le_c (n := 8) (f := fun r => g (1 + r)) (c := 3) (fun x x0 x1 => by have := g2 x x0 x1; omega)
  omega
theorem q_has (I : Inv c h) {a : Int} (ha : inR a) : C_X11_has w a h (fun z h1 => inR z ∧ C_X12_has w a h1 (PI c z)) := by
  have Q := I.q0
  have P := I.2.2.2.2.1
  refine x_has Q P.2.2.2.1 ha ⟨?_, y_has ha ⟨rfl, I.up (by omega)⟩⟩
  have n1 := Q.1.nr
  have n2 := Q.1.nb
  have n3 := Q.1.ow
  have n4 := Q.1.co
  have n5 := Q.1.se
  have n6 := Q.2.1.1
  have n7 := GS.sums Q.1 Q.2.1
  have n8 := P.2.2.2.2
  unfold hasF
  generalize sm 8 (fun r => h 104 (1 + r)) = s1 at *
  generalize sm 10 (fun b => h 104 (9 + b)) = s2 at *
  generalize sm 10 (fun b => h 104 (19 + b)) = s3 at *
  generalize sm 80 (fun b => h 104 (29 + b)) = s4 at *
  repeat' split
  all_goals exact ⟨by omega, by omega⟩
theorem q_bank (I : Inv c h) {a b : Int} (ha : inR a) (hb : inR b) : C_X11_bank w a b h (fun z h1 => inR z ∧ C_X12_bank w a b h1 (PI c z)) := by
  have Q := I.q0
  refine x_bank Q ha hb ⟨?_, y_bank Q.1 ha hb ⟨rfl, I.up (by omega)⟩⟩
  have n2 := Q.1.nb
  have n1 := Q.1.nr
  have n3 := Q.1.ow
  have n4 := Q.1.co
  unfold bankF
  split
  · rename_i g
    have B := Q.1.bk g.1 g.2
    have G3 := Q.2.1.2.2.1 a g.1 (by omega)
    have G4 := (Q.2.1.bnd Q.1).2.1 a g.1 (by omega)
    have S := sm_le_c (n := nrN h) (f := fun r => h 104 (29 + 10 * r + a)) (c := 990) (fun x x0 x1 => ⟨(Q.2.1.2.2.2.1 x a x0 (by omega) g.1 (by omega)).1, (Q.2.1.bnd Q.1).2.2 x a x0 (by omega) g.1 (by omega)⟩)
    have h8 : (nrN h : Int) ≤ 8 := by omega
    have : (nrN h : Int) * 990 ≤ 8 * 990 := Int.mul_le_mul_of_nonneg_right h8 (by decide)
    generalize sm (nrN h) (fun r => h 104 (29 + 10 * r + a)) = s1 at *
    repeat' split
    all_goals exact ⟨by omega, by omega⟩
  · exact ⟨by decide, by decide⟩
theorem maF_b {x : Int} : ∀ n : Nat, ∀ o : Int, 0 ≤ o → o + n ≤ 5 → -1 ≤ maF h x n o ∧ maF h x n o ≤ 5 := by
  intro n
  induction n with
  | zero => intro o h0 h1; exact ⟨by show (-1 : Int) ≤ -1; omega, by show (-1 : Int) ≤ 5; omega⟩
  | succ n ih =>
    intro o h0 h1
    unfold maF
    split
    · omega
    · exact ih (o + 1) (by omega) (by omega)
theorem q_reach (I : Inv c h) {a b : Int} (ha : inR a) (hb : inR b) : C_X11_reach w a b h (fun z h1 => inR z ∧ C_X12_reach w a b h1 (PI c z)) := by
  have Q := I.q0
  refine x_reach Q ha hb ⟨?_, y_reach Q ha hb ⟨rfl, I.up (by omega)⟩⟩
  have n1 := Q.1.nr
  have n3 := Q.1.ow
  unfold reachF
  split
  · rename_i g
    have l := lA_b2 Q (x := a) ⟨g.1, by omega⟩
    have s := Q.1.sl a g.1 (by omega)
    have G2 := Q.2.1.2.1 a g.1 (by omega)
    have m := maF_b (h := h) (x := a) (h 93 3).toNat 0 (by omega) (by omega)
    have f := lfF_b (h := h) (n := a.toNat)
    have t := ltF_b (h := h) (m := nrN h - 1 - a.toNat) (x := a)
    have v : h 97 3 ≤ lA h a → -1 ≤ voF h a.toNat ∧ voF h a.toNat ≤ 5 := fun q => by
      have f' := lfF_b (h := h) (n := a.toNat)
      have t' := ltF_b (h := h) (m := nrN h - 1 - a.toNat) (x := (a.toNat : Nat))
      have e : ((a.toNat : Nat) : Int) = a := by omega
      have q := vB_b Q (f := lfF h a.toNat) (n := (ltF h (nrN h - 1 - a.toNat) (a.toNat : Nat) + 1 - lfF h a.toNat).toNat) ⟨by omega, by omega⟩ (h 93 3).toNat
      unfold voF
      omega
    repeat' split
    all_goals exact ⟨by omega, by omega⟩
  · exact ⟨by decide, by decide⟩
theorem q_lies (I : Inv c h) {a b : Int} (ha : inR a) (hb : inR b) : C_X11_lies w a b h (fun z h1 => inR z ∧ C_X12_lies w a b h1 (PI c z)) := by
  have Q := I.q0
  refine x_lies Q ha hb ⟨?_, y_lies Q.1 ha hb ⟨rfl, I.up (by omega)⟩⟩
  have n1 := Q.1.nr
  have n2 := Q.1.nb
  unfold liesF
  split
  · rename_i g
    have G := Q.2.1.2.2.2.1 a b g.1.1 (by omega) g.2.1 (by omega)
    have G2 := (Q.2.1.bnd Q.1).2.2 a b g.1.1 (by omega) g.2.1 (by omega)
    exact ⟨by omega, by omega⟩
  · exact ⟨by decide, by decide⟩
theorem share_b {p q : Int} (hp : 0 ≤ p ∧ p ≤ q) (hq : q ≤ 1000000) (h0 : 0 < q) : 0 ≤ 1000 * p / q ∧ 1000 * p / q ≤ 1000 := by
  refine ⟨Int.ediv_nonneg (by omega) (by omega), ?_⟩
  have : 1000 * p / q < 1001 := (Int.ediv_lt_iff_lt_mul h0).mpr (by omega)
  omega
theorem q_share (I : Inv c h) {a b : Int} (ha : inR a) (hb : inR b) : C_X11_share w a b h (fun z h1 => inR z ∧ C_X12_share w a b h1 (PI c z)) := by
  have Q := I.q0
  refine x_share Q ha hb ⟨?_, y_share Q ha hb ⟨rfl, I.up (by omega)⟩⟩
  have n1 := Q.1.nr
  unfold shareF
  split
  · rename_i g
    have l := lA_b2 Q (x := a) ⟨g.1.1, by omega⟩
    have o := oA_b Q.1 Q.2.1 (x := a) (a := b) ⟨g.1.1, by omega⟩
    split
    · exact ⟨by decide, by decide⟩
    · have := share_b (p := oA h a b) (q := lA h a) o (by omega) (by omega)
      exact ⟨by omega, by omega⟩
  · exact ⟨by decide, by decide⟩
theorem q_tint (I : Inv c h) {a b : Int} (ha : inR a) (hb : inR b) : C_X11_tint w a b h (fun z h1 => inR z ∧ C_X12_tint w a b h1 (PI c z)) := by
  have Q := I.q0
  refine x_tint Q ha hb ⟨?_, y_tint Q ha hb ⟨rfl, I.up (by omega)⟩⟩
  have n1 := Q.1.nr
  unfold tintF
  split
  · rename_i g
    have l := lA_b2 Q (x := a) ⟨g.1.1, by omega⟩
    have o := cA_b Q.1 Q.2.1 (x := a) (a := b) ⟨g.1.1, by omega⟩
    exact ⟨by omega, by omega⟩
  · exact ⟨by decide, by decide⟩
theorem x_letterOf {o a b n : Int} {nA : Nat} (ho : Ob 4 o) (hA : Ar 0 nA (o + 1)) (ha : inR a) (hb : inR b) (hn : h o 1 = n) (hn2 : 0 ≤ n ∧ n ≤ nA) (k1 : 0 ≤ a ∧ a < n → 0 ≤ b ∧ b < 6 → (0 ≤ a ∧ a < nA) ∧ inR (h (o + 1) a) ∧ K (h (o + 1) a / 2 ^ (Int.toNat (5 * (5 - b))) % 32) h) (k0 : ¬ ((0 ≤ a ∧ a < n) ∧ 0 ≤ b ∧ b < 6) → K (-1) h) : C_X4_letterOf w o a b h K := by
  have hs := Ar.small hA
  refine c_X4_letterOf ho hA ?_
  rw [hn]
  refine ⟨ha, fun _ => k0 (by omega), fun _ => ⟨ha, ⟨by omega, by omega⟩, fun _ => k0 (by omega), fun _ => ⟨ha, fun q => k0 (by have q : a ≥ (nA : Int) := q; omega), fun _ => ⟨hb, fun _ => k0 (by omega), fun _ => ⟨hb, fun _ => ?_, fun _ => k0 (by omega)⟩⟩⟩⟩⟩
  have := k1 (by omega) (by omega)
  exact ⟨this.1, this.2.1, ⟨by omega, by omega⟩, this.2.2⟩
theorem y_letter {a b d n : Int} (ha : inR a) (hb : inR b) (hd : inR d) (hn : 0 ≤ a → a ≤ 2 → h 93 (3 + a) = n ∧ 0 ≤ n ∧ n ≤ 10) (k1 : 0 ≤ a → a ≤ 2 → 0 ≤ b → b < n → 0 ≤ d → d < 6 → ∃ p, NmR p (h 94 (30 + 10 * a + b)) ∧ (∀ l n, NmR p (h 94 (30 + 10 * a + b)) → p = hp l 6 → h 94 (30 + 10 * a + b) = hv l n → n ≤ 6 → (∀ k : Nat, k < n → 1 ≤ l k ∧ l k ≤ 26) → (∀ k : Nat, n ≤ k → l k = 0) → K (l d.toNat) h)) (k0 : ¬ ((0 ≤ a ∧ a ≤ 2) ∧ (0 ≤ b ∧ b < n) ∧ 0 ≤ d ∧ d < 6) → K (-1) h) : C_X12_letter w a b d h K := by
  refine c_X12_letter ⟨ha, ⟨by omega, by omega⟩, fun _ => k0 (by omega), fun _ => ⟨⟨by omega, by omega⟩, fun _ => k0 (by omega), fun _ => ?_⟩⟩
  obtain ⟨e, n0, n1⟩ := hn (by omega) (by omega)
  rw [e]
  refine ⟨hb, ⟨by omega, by omega⟩, ⟨by omega, by omega⟩, ⟨by omega, by omega⟩, fun _ => k0 (by omega), fun _ => ⟨⟨by omega, by omega⟩, ⟨by omega, by omega⟩, fun _ => k0 (by omega), fun _ => ⟨hd, ⟨by omega, by omega⟩, fun _ => k0 (by omega), fun _ => ⟨⟨by omega, by omega⟩, fun _ => k0 (by omega), fun _ => ⟨⟨by omega, by omega⟩, ?_⟩⟩⟩⟩⟩
  obtain ⟨p, N, kk⟩ := k1 (by omega) (by omega) (by omega) (by omega) (by omega) (by omega)
  obtain ⟨l, m, m1, m2, m3, m4, m5, m6⟩ := id N
  have kk := kk l m N m5 m6 m2 m3 m4
  rw [m6]
  have := y_letter69 (w := w) (k := d.toNat) m2 (by omega) m3 m4 kk m 0 (by omega)
  rw [show ((d.toNat : Nat) : Int) = d by omega] at this
  exact this
theorem q_letter (I : Inv c h) {a b d : Int} (ha : inR a) (hb : inR b) (hd : inR d) : C_X11_letter w a b d h (fun z h1 => inR z ∧ C_X12_letter w a b d h1 (PI c z)) := by
  have Q := I.q0
  have N := I.2.1.2.2.2
  have n2 := Q.1.nb
  have n3 := Q.1.ow
  have n4 := Q.1.co
  have ob := Q.1.ob
  have ii := I.up (c' := c + 1) (by omega)
  have hn : 0 ≤ a → a ≤ 2 → 0 ≤ h 93 (3 + a) ∧ h 93 (3 + a) ≤ 10 := fun q1 q2 => by
    rcases (show a = 0 ∨ a = 1 ∨ a = 2 by omega) with rfl | rfl | rfl
    · have : h 93 (3 + 0) = h 93 3 := rfl
      omega
    · have : h 93 (3 + 1) = h 93 4 := rfl
      omega
    · have : h 93 (3 + 2) = h 93 5 := rfl
      omega
  have no : ¬ ((0 ≤ a ∧ a ≤ 2) ∧ (0 ≤ b ∧ b < h 93 (3 + a)) ∧ 0 ≤ d ∧ d < 6) → inR (-1) ∧ C_X12_letter w a b d h (PI c (-1)) := fun q => ⟨⟨by decide, by decide⟩, y_letter ha hb hd (n := h 93 (3 + a)) (fun q1 q2 => ⟨rfl, hn q1 q2⟩) (fun q1 q2 q3 q4 q5 q6 => absurd ⟨⟨q1, q2⟩, ⟨q3, q4⟩, q5, q6⟩ q) (fun _ => ⟨rfl, ii⟩)⟩
  have ye : ∀ o : Int, o = h 0 4 + 2 + 2 * a → 0 ≤ a → a ≤ 2 → (0 ≤ b ∧ b < h 93 (3 + a)) → (0 ≤ d ∧ d < 6) → inR (h o b) ∧ (inR (h o b / 2 ^ (Int.toNat (5 * (5 - d))) % 32) ∧ C_X12_letter w a b d h (PI c (h o b / 2 ^ (Int.toNat (5 * (5 - d))) % 32))) := fun o eo q1 q2 q3 q4 => by
    have M := N a b q1 (by omega) q3.1 q3.2
    rw [← eo] at M
    obtain ⟨l, m, m1, m2, m3, m4, m5, m6, m7⟩ := M.digits
    have e := hp_at m7 (k := d.toNat) (by omega)
    rw [show ((d.toNat : Nat) : Int) = d by omega, ← m5] at e
    have b7 := m7 d.toNat
    rw [e.1]
    refine ⟨e.2, ⟨by omega, by omega⟩, y_letter ha hb hd (n := h 93 (3 + a)) (fun q1 q2 => ⟨rfl, hn q1 q2⟩) (fun _ _ _ _ _ _ => ⟨h o b, M, fun l' n' _ p5 p6 p2 p3 p4 => ⟨?_, ii⟩⟩) (fun q => absurd ⟨⟨q1, q2⟩, q3, q4⟩ q)⟩
    have b8 : ∀ k : Nat, 0 ≤ l' k ∧ l' k ≤ 31 := fun k => by
      by_cases q : k < n'
      · have := p3 k q; omega
      · have := p4 k (by omega); omega
    have e' := hp_at b8 (k := d.toNat) (by omega)
    rw [← p5, show ((d.toNat : Nat) : Int) = d by omega] at e'
    rw [← e'.1, e.1]
  refine c_X11_letter ⟨ha, fun q => ⟨ob, ?_⟩, fun q => ⟨ob, ?_⟩, fun q => ⟨ob, ?_⟩, fun q => no (by omega)⟩
  · subst q
    refine x_letterOf (nA := 5) (n := h 93 3) ?_ ?_ hb hd n3.1 ⟨by omega, by omega⟩ (fun q1 q2 => ?_) (fun q => no (fun q2 => q ⟨q2.2.1, q2.2.2⟩))
    · rcases Q.1.1 with e | e <;> rw [e] <;> exact ⟨by decide, rfl⟩
    · rcases Q.1.1 with e | e <;> rw [e] <;> exact ⟨by decide, rfl⟩
    · have := ye (h 0 4 + 1 + 1) (by omega) (by omega) (by omega) q1 q2
      exact ⟨⟨by omega, by omega⟩, this⟩
  · subst q
    refine x_letterOf (nA := 5) (n := h 93 4) ?_ ?_ hb hd n4.1 ⟨by omega, by omega⟩ (fun q1 q2 => ?_) (fun q => no (fun q2 => q ⟨q2.2.1, q2.2.2⟩))
    · rcases Q.1.1 with e | e <;> rw [e] <;> exact ⟨by decide, rfl⟩
    · rcases Q.1.1 with e | e <;> rw [e] <;> exact ⟨by decide, rfl⟩
    · have := ye (h 0 4 + 3 + 1) (by omega) (by omega) (by omega) q1 q2
      exact ⟨⟨by omega, by omega⟩, this⟩
  · subst q
    refine x_letterOf (nA := 10) (n := h 93 5) ?_ ?_ hb hd (by rw [n2.1]; exact n2.2.2) ⟨by omega, by omega⟩ (fun q1 q2 => ?_) (fun q => no (fun q2 => q ⟨q2.2.1, q2.2.2⟩))
    · rcases Q.1.1 with e | e <;> rw [e] <;> exact ⟨by decide, rfl⟩
    · rcases Q.1.1 with e | e <;> rw [e] <;> exact ⟨by decide, rfl⟩
    · have := ye (h 0 4 + 5 + 1) (by omega) (by omega) (by omega) q1 q2
      exact ⟨⟨by omega, by omega⟩, this⟩
end L2V
