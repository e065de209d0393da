/-! a year, pure: what a flood and the sea's interest leave -/
def hdP (h : Hp) (st : Int → Int) (lv : Int) (g : Int → Int) (b : Int) : Int := g (9 + b) - (if b < nbN h then cuP h st lv (g 0) b (g (9 + b)) else 0)
def s1P (h : Hp) (st : Int → Int) (lv : Int) (g : Int → Int) (b : Int) : Int := g (19 + b) + (if b < nbN h then caP h st lv g b (nrN h) else 0)
def lyP (h : Hp) (st : Int → Int) (lv : Int) (g : Int → Int) (x b : Int) : Int := g (29 + 10 * x + b) + (if x < nrN h ∧ b < nbN h then sdP h st lv g b x.toNat else 0)
def pdP (h : Hp) (st : Int → Int) (lv : Int) (g : Int → Int) (x b : Int) : Int := lyP h st lv g x b * h 97 5 / 100
def pdK (h : Hp) (st : Int → Int) (lv : Int) (g : Int → Int) (k : Int) : Int := pdP h st lv g (k / 10) (k % 10)
def s2P (h : Hp) (st : Int → Int) (lv : Int) (g : Int → Int) (n : Nat) (b : Int) : Int := s1P h st lv g b + sm n (fun k => if k % 10 = b then pdK h st lv g k else 0)
def yrP (h : Hp) (st : Int → Int) (lv : Int) (g : Int → Int) (i : Int) : Int := if i = 0 then g 0 + 1 else if i < 9 then g i else if i < 19 then hdP h st lv g (i - 9) else if i < 29 then s2P h st lv g 80 (i - 19) else lyP h st lv g ((i - 29) / 10) ((i - 29) % 10) - pdP h st lv g ((i - 29) / 10) ((i - 29) % 10)
theorem sm_neg {n : Nat} {f : Int → Int} : sm n (fun i => -f i) = -sm n f := by
  induction n with
  | zero => rfl
  | succ n ih => show sm n (fun i => -f i) + -f n = -(sm n f + f n); rw [ih]; omega
theorem sm_pick {n : Nat} {a : Int} (ha : 0 ≤ a ∧ a < n) {v : Int} : sm n (fun b => if a = b then v else 0) = v := by
  induction n with
  | zero => omega
  | succ n ih =>
    show sm n (fun b => if a = b then v else 0) + (if a = n then v else 0) = v
    by_cases q : a = n
    · rw [if_pos q, sm_zero (fun i i0 i1 => by rw [if_neg (by omega)])]; omega
    · rw [if_neg q, ih ⟨ha.1, by omega⟩]; omega
section L2X
variable {h0 : Hp} {r lv : Int} {st g : Int → Int}
theorem yr_0 : yrP h0 st lv g 0 = g 0 + 1 := rfl
theorem yr_st {x : Int} (hx : 0 ≤ x ∧ x < 8) : yrP h0 st lv g (1 + x) = g (1 + x) := by
  unfold yrP
  rw [if_neg (by omega), if_pos (by omega)]
theorem yr_h {b : Int} (hb : 0 ≤ b ∧ b < 10) : yrP h0 st lv g (9 + b) = hdP h0 st lv g b := by
  unfold yrP
  rw [if_neg (by omega), if_neg (by omega), if_pos (by omega), show 9 + b - 9 = b by omega]
theorem yr_s {b : Int} (hb : 0 ≤ b ∧ b < 10) : yrP h0 st lv g (19 + b) = s2P h0 st lv g 80 b := by
  unfold yrP
  rw [if_neg (by omega), if_neg (by omega), if_neg (by omega), if_pos (by omega), show 19 + b - 19 = b by omega]
theorem yr_l {x b : Int} (hx : 0 ≤ x ∧ x < 8) (hb : 0 ≤ b ∧ b < 10) : yrP h0 st lv g (29 + 10 * x + b) = lyP h0 st lv g x b - pdP h0 st lv g x b := by
  unfold yrP
  rw [if_neg (by omega), if_neg (by omega), if_neg (by omega), if_neg (by omega), show (29 + 10 * x + b - 29) / 10 = x by omega, show (29 + 10 * x + b - 29) % 10 = b by omega]
theorem ca_sum {b : Int} (hp : 0 ≤ plP h0 b) (n : Nat) : caP h0 st lv g b n + sm n (fun x => sdP h0 st lv g b x.toNat) = if plP h0 b < n then cuP h0 st lv (g 0) b (g (9 + b)) else 0 := by
  induction n with
  | zero => rw [if_neg (by omega)]; rfl
  | succ n ih =>
    have e : sm (n + 1) (fun x => sdP h0 st lv g b x.toNat) = sm n (fun x => sdP h0 st lv g b x.toNat) + sdP h0 st lv g b n := rfl
    rw [e, caP_s]
    have e2 : crP h0 st lv g b n = caP h0 st lv g b n + (if plP h0 b = n then cuP h0 st lv (g 0) b (g (9 + b)) else 0) := rfl
    rw [e2]
    by_cases q : plP h0 b = n
    · rw [if_pos q, if_pos (by omega)]
      rw [if_neg (by omega)] at ih
      omega
    · rw [if_neg q]
      by_cases q2 : plP h0 b < n
      · rw [if_pos q2] at ih; rw [if_pos (by omega)]; omega
      · rw [if_neg q2] at ih; rw [if_neg (by omega)]; omega
theorem ly_b (C : CX h0 r lv st g) {x b : Int} (hx : 0 ≤ x ∧ x < 8) (hb : 0 ≤ b ∧ b < 10) : 0 ≤ lyP h0 st lv g x b ∧ lyP h0 st lv g x b ≤ 1245 ∧ 0 ≤ pdP h0 st lv g x b ∧ pdP h0 st lv g x b ≤ lyP h0 st lv g x b ∧ 0 ≤ lyP h0 st lv g x b * h0 97 5 ∧ lyP h0 st lv g x b * h0 97 5 < 2147483648 := by
  have G := C.2.2.2.2.2
  have g1 := (G.2.2.2.1 x b hx.1 hx.2 hb.1 hb.2).1
  have g2 := (G.bnd C.1).2.2 x b hx.1 hx.2 hb.1 hb.2
  have c := cr_b C hb x.toNat
  have e := C.1.se.2.2.2
  have l : 0 ≤ lyP h0 st lv g x b ∧ lyP h0 st lv g x b ≤ 1245 := by
    unfold lyP
    split <;> omega
  have m1 : 0 ≤ lyP h0 st lv g x b * h0 97 5 := Int.mul_nonneg l.1 e.1
  have m2 : lyP h0 st lv g x b * h0 97 5 ≤ lyP h0 st lv g x b * 50 := Int.mul_le_mul_of_nonneg_left e.2 l.1
  have p : pdP h0 st lv g x b = lyP h0 st lv g x b * h0 97 5 / 100 := rfl
  rw [p]
  omega
theorem hd_b (C : CX h0 r lv st g) {b : Int} (hb : 0 ≤ b ∧ b < 10) : 0 ≤ hdP h0 st lv g b ∧ hdP h0 st lv g b ≤ g (9 + b) ∧ 0 ≤ s1P h0 st lv g b ∧ (nbN h0 ≤ b → hdP h0 st lv g b = 0 ∧ s1P h0 st lv g b = 0) := by
  have G := C.2.2.2.2.2
  have n := C.1.nb
  have g1 := G.2.2.1 b hb.1 hb.2
  have c := cuP_b (h := h0) (st := st) (lv := lv) (yr := g 0) (b := b) g1.1
  have c2 := cr_b C hb (nrN h0)
  unfold hdP s1P
  by_cases q : b < nbN h0
  · rw [if_pos q, if_pos q]; omega
  · rw [if_neg q, if_neg q]; have := g1.2.2.2 (by omega); omega
/-- a good state stays good over a year -/
theorem gs_year (C : CX h0 r lv st g) (hy : g 0 < 999) : GS h0 (yrP h0 st lv g) := by
  have G := C.2.2.2.2.2
  have R := C.1
  have n := R.nb
  have nr := R.nr
  have g1 := G.1
  have pk0 : ∀ k : Int, 0 ≤ k → k < 80 → 0 ≤ pdK h0 st lv g k := fun k k0 k1 => (ly_b C (x := k / 10) (b := k % 10) ⟨by omega, by omega⟩ ⟨by omega, by omega⟩).2.2.1
  refine ⟨by rw [yr_0]; omega, fun x x0 x1 => by rw [yr_st ⟨x0, x1⟩]; exact G.2.1 x x0 x1, fun b b0 b1 => ?_, fun x b x0 x1 b0 b1 => ?_, ?_⟩
  · rw [yr_h ⟨b0, b1⟩, yr_s ⟨b0, b1⟩]
    have d := hd_b C ⟨b0, b1⟩
    have g3 := G.2.2.1 b b0 b1
    have s : 0 ≤ sm 80 (fun k => if k % 10 = b then pdK h0 st lv g k else 0) := sm_nonneg fun k k0 k1 => by
      split
      · exact pk0 k k0 k1
      · exact Int.le_refl _
    refine ⟨d.1, by omega, by unfold s2P; omega, fun q => ?_⟩
    have d4 := d.2.2.2 (by omega)
    refine ⟨d4.1, ?_⟩
    unfold s2P
    rw [d4.2, sm_zero (fun k k0 k1 => ?_)]
    · rfl
    · by_cases e : k % 10 = b
      · rw [if_pos e]
        have z : lyP h0 st lv g (k / 10) (k % 10) = 0 := by
          unfold lyP
          rw [if_neg (by omega), (G.2.2.2.1 (k / 10) (k % 10) (by omega) (by omega) (by omega) (by omega)).2 (Or.inr (by omega))]; rfl
        unfold pdK pdP
        rw [z]; simp
      · rw [if_neg e]
  · rw [yr_l ⟨x0, x1⟩ ⟨b0, b1⟩]
    have l := ly_b C ⟨x0, x1⟩ ⟨b0, b1⟩
    refine ⟨by omega, fun q => ?_⟩
    have z : lyP h0 st lv g x b = 0 := by
      unfold lyP
      rw [if_neg (by omega), (G.2.2.2.1 x b x0 x1 b0 b1).2 q]; rfl
    omega
  · have e1 : sm 8 (fun x => sm 10 (fun b => yrP h0 st lv g (29 + 10 * x + b))) = sm 8 (fun x => sm 10 (fun b => lyP h0 st lv g x b)) - sm 8 (fun x => sm 10 (fun b => pdP h0 st lv g x b)) := by
      have : sm 8 (fun x => sm 10 (fun b => yrP h0 st lv g (29 + 10 * x + b))) = sm 8 (fun x => sm 10 (fun b => lyP h0 st lv g x b) + -sm 10 (fun b => pdP h0 st lv g x b)) := sm_congr fun x x0 x1 => by
        rw [← sm_neg, ← sm_add]
        exact sm_congr fun b b0 b1 => by rw [yr_l ⟨x0, x1⟩ ⟨b0, b1⟩]; omega
      rw [this, sm_add, sm_neg]; omega
    have e2 : sm 10 (fun b => yrP h0 st lv g (9 + b)) = sm 10 (fun b => hdP h0 st lv g b) := sm_congr fun b b0 b1 => yr_h ⟨b0, b1⟩
    have e3 : sm 10 (fun b => yrP h0 st lv g (19 + b)) = sm 10 (fun b => s1P h0 st lv g b) + sm 80 (pdK h0 st lv g) := by
      have : sm 10 (fun b => yrP h0 st lv g (19 + b)) = sm 10 (fun b => s1P h0 st lv g b + sm 80 (fun k => if k % 10 = b then pdK h0 st lv g k else 0)) := sm_congr fun b b0 b1 => yr_s ⟨b0, b1⟩
      rw [this, sm_add, sm_swap]
      exact congrArg (fun z => sm 10 (fun b => s1P h0 st lv g b) + z) (sm_congr fun k k0 k1 => sm_pick (n := 10) (a := k % 10) ⟨by omega, by omega⟩)
    have e4 : sm 80 (pdK h0 st lv g) = sm 8 (fun x => sm 10 (fun b => pdP h0 st lv g x b)) := by
      rw [show (80 : Nat) = 10 * 8 from rfl, sm_rows]
      refine sm_congr fun x x0 x1 => sm_congr fun b b0 b1 => ?_
      unfold pdK
      rw [show (10 * x + b) / 10 = x by omega, show (10 * x + b) % 10 = b by omega]
    have e5 : sm 8 (fun x => sm 10 (fun b => lyP h0 st lv g x b)) = sm 8 (fun x => sm 10 (fun b => g (29 + 10 * x + b))) + sm 10 (fun b => if b < nbN h0 then sm (nrN h0) (fun x => sdP h0 st lv g b x.toNat) else 0) := by
      have : sm 8 (fun x => sm 10 (fun b => lyP h0 st lv g x b)) = sm 8 (fun x => sm 10 (fun b => g (29 + 10 * x + b)) + sm 10 (fun b => if x < nrN h0 ∧ b < nbN h0 then sdP h0 st lv g b x.toNat else 0)) := sm_congr fun x x0 x1 => by
        rw [← sm_add]; rfl
      rw [this, sm_add]
      refine congrArg (fun z => sm 8 (fun x => sm 10 (fun b => g (29 + 10 * x + b))) + z) ?_
      rw [sm_swap]
      refine sm_congr fun b b0 b1 => ?_
      by_cases q : b < nbN h0
      · rw [if_pos q, sm_more (n := nrN h0) (m := 8) nr.2.1 (fun x x0 x1 => by rw [if_neg (by omega)])]
        exact sm_congr fun x x0 x1 => if_pos ⟨x1, q⟩
      · rw [if_neg q, sm_zero (fun x x0 x1 => by rw [if_neg (by omega)])]
    have e6 : sm 10 (fun b => hdP h0 st lv g b) + sm 10 (fun b => s1P h0 st lv g b) + sm 10 (fun b => if b < nbN h0 then sm (nrN h0) (fun x => sdP h0 st lv g b x.toNat) else 0) = sm 10 (fun b => g (9 + b)) + sm 10 (fun b => g (19 + b)) := by
      rw [← sm_add, ← sm_add, ← sm_add]
      refine sm_congr fun b b0 b1 => ?_
      unfold hdP s1P
      by_cases q : b < nbN h0
      · rw [if_pos q, if_pos q, if_pos q]
        have pb : 0 ≤ plP h0 b ∧ plP h0 b < h0 68 36 := (R.bk b0 q).2.2.1.2
        have cs := ca_sum (h0 := h0) (st := st) (lv := lv) (g := g) (b := b) pb.1 (nrN h0)
        rw [if_pos (by omega)] at cs
        omega
      · rw [if_neg q, if_neg q, if_neg q]; omega
    have g5 := G.2.2.2.2
    rw [e1, e2, e3, e4]
    omega
end L2X
