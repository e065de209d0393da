/-! a flood's sums on both sides -/
def tkP (h : Hp) (st : Int → Int) (lv : Int) (g : Int → Int) : Int := sm (nbN h) (fun b => cuP h st lv (g 0) b (g (9 + b)))
def swP (h : Hp) (st : Int → Int) (lv : Int) (g : Int → Int) : Int := sm (nbN h) (fun b => caP h st lv g b (nrN h))
def siP (h : Hp) (st : Int → Int) (lv : Int) (g : Int → Int) (x : Nat) : Int := sm (nbN h) (fun b => sdP h st lv g b x)
def saP (h : Hp) (st : Int → Int) (lv : Int) (g : Int → Int) : Int := sm (nrN h) (fun x => siP h st lv g x.toNat)
def msP (h : Hp) (st : Int → Int) (lv : Int) (g : Int → Int) : Nat → Int × Int
  | 0 => (-1, 0)
  | n + 1 => if siP h st lv g n ≤ (msP h st lv g n).2 then msP h st lv g n else (n, siP h st lv g n)
abbrev imL : List (Int × Int) := [(52, 4), (61, 5), (61, 6), (61, 7)]
abbrev imR : List Int := [53, 54, 62, 63, 64, 65]
def lgP (h : Hp) (g : Int → Int) (x : Int) : Int := sm (nbN h) (fun b => g (29 + 10 * x + b))
def ogP (h : Hp) (g : Int → Int) (x a : Int) : Int := sm (nbN h) (fun b => if h 96 (50 + 5 * b + 0) = a then g (29 + 10 * x + b) else 0)
section L2T
variable {w : Wd} {h h0 : Hp} {K : Int → Hp → Prop} {r s lv : Int} {st g : Int → Int}
theorem si_b (C : CX h0 r lv st g) (x : Nat) : 0 ≤ siP h0 st lv g x ∧ siP h0 st lv g x ≤ 2550 := by
  have hn := C.1.nb
  have := sm_le_c (n := nbN h0) (f := fun b => sdP h0 st lv g b x) (c := 255) (fun b b0 b1 => by have := cr_b C (b := b) ⟨b0, by omega⟩ x; omega)
  have h8 : (nbN h0 : Int) ≤ 10 := by omega
  have : (nbN h0 : Int) * 255 ≤ 10 * 255 := Int.mul_le_mul_of_nonneg_right h8 (by decide)
  unfold siP
  omega
theorem tk_b (C : CX h0 r lv st g) : 0 ≤ tkP h0 st lv g ∧ tkP h0 st lv g ≤ 2550 := by
  have hn := C.1.nb
  have := sm_le_c (n := nbN h0) (f := fun b => cuP h0 st lv (g 0) b (g (9 + b))) (c := 255) (fun b b0 b1 => by have := cr_b C (b := b) ⟨b0, by omega⟩ 0; omega)
  have h8 : (nbN h0 : Int) ≤ 10 := by omega
  have : (nbN h0 : Int) * 255 ≤ 10 * 255 := Int.mul_le_mul_of_nonneg_right h8 (by decide)
  unfold tkP
  omega
theorem sw_b (C : CX h0 r lv st g) : 0 ≤ swP h0 st lv g ∧ swP h0 st lv g ≤ 2550 := by
  have hn := C.1.nb
  have := sm_le_c (n := nbN h0) (f := fun b => caP h0 st lv g b (nrN h0)) (c := 255) (fun b b0 b1 => by have := cr_b C (b := b) ⟨b0, by omega⟩ (nrN h0); omega)
  have h8 : (nbN h0 : Int) ≤ 10 := by omega
  have : (nbN h0 : Int) * 255 ≤ 10 * 255 := Int.mul_le_mul_of_nonneg_right h8 (by decide)
  unfold swP
  omega
theorem sa_b (C : CX h0 r lv st g) : 0 ≤ saP h0 st lv g ∧ saP h0 st lv g ≤ 20400 := by
  have hn := C.1.nr
  have := sm_le_c (n := nrN h0) (f := fun x => siP h0 st lv g x.toNat) (c := 2550) (fun b b0 b1 => si_b C _)
  have h8 : (nrN h0 : Int) ≤ 8 := by omega
  have : (nrN h0 : Int) * 2550 ≤ 8 * 2550 := Int.mul_le_mul_of_nonneg_right h8 (by decide)
  unfold saP
  omega
theorem ms_b (C : CX h0 r lv st g) (n : Nat) : -1 ≤ (msP h0 st lv g n).1 ∧ (msP h0 st lv g n).1 ≤ n ∧ 0 ≤ (msP h0 st lv g n).2 ∧ (msP h0 st lv g n).2 ≤ 2550 := by
  induction n with
  | zero => exact ⟨by show (-1 : Int) ≤ -1; omega, by show (-1 : Int) ≤ _; omega, by show (0 : Int) ≤ 0; omega, by show (0 : Int) ≤ 2550; omega⟩
  | succ n ih =>
    have := si_b C n
    unfold msP
    split
    · omega
    · dsimp only; omega
/-! the class -/
theorem x_aim (R : RR h0 r) (e : r = h0 0 4) (hs : s = 40 ∨ s = 45) (S : Sl h0 h) (X : SX h s g) (B : BD h) (k : ∀ h1, Fr h h1 [(61, 5), (61, 6), (61, 7)] [62] → AX h0 h1 r s lv (sN g) g → K 0 h1) : C_X0_aim w r s lv h K := by
  refine c_X0_aim R.ob (ob9 hs) (fun h1 e1 h3 e3 h5 e5 h7 e7 => ?_)
  have F1 : Fr h h1 [(61, 5)] [] := by rw [e1]; exact Fr.cel
  have F3 : Fr h1 h3 [(61, 6)] [] := by rw [e3]; exact Fr.cel
  have F5 : Fr h3 h5 [(61, 7)] [] := by rw [e5]; exact Fr.cel
  have F7 : Fr h5 h7 [] [62] := by rw [e7]; exact Fr.cpy
  have F : Fr h h7 [(61, 5), (61, 6), (61, 7)] [62] := (F1.trans (F3.trans (F5.trans F7))).into rfl
  have S7 : Sl h h7 := Sl.of (by rw [S.1, ← e]; exact R.1) F (by decide)
  have r61 : h7 61 = h5 61 := by rw [e7]; funext j; exact hcpy_ne (by decide)
  refine k h7 F ⟨S.tr S7, ?_, ?_, ?_, fun x x0 x1 => ?_, X.fr hs F (by decide), B.fr F (by decide)⟩
  · rw [r61, e5, hu_if, if_neg (by decide), e3, hu_if, if_neg (by decide), e1, hu_if, if_pos rfl]
  · rw [r61, e5, hu_if, if_neg (by decide), e3, hu_if, if_pos rfl]
  · rw [r61, e5, hu_if, if_pos rfl]
  · have q : h7 62 x = h5 (s + 1) x := by
      rw [e7]; unfold hcpy
      rw [if_pos ⟨rfl, by omega, by omega⟩]
      congr 1; omega
    rw [q, hu_row e5 (by omega), hu_row e3 (by omega), hu_row e1 (by omega)]
    exact X.2.1 x x0 x1
theorem x_imagine (C : CX h0 r lv (sN g) g) (S : Sl h0 h) (X : SX h 40 g) (B : BD h) (k : ∀ h1, Fr h h1 imL imR → AX h0 h1 r 40 lv (sN g) g → FV h0 (sN g) lv g h1 (nrN h0) 0 → K 0 h1) : C_X11_imagine w lv h K := by
  have hnr := C.1.nr
  have e4 : h 0 4 = r := by rw [S.1]; exact C.2.1.symm
  refine c_X11_imagine ?_
  rw [e4]
  refine ⟨C.1.ob, x_aim C.1 C.2.1 (Or.inl rfl) S X B (fun h3 F3 A3 => ?_)⟩
  have e34 : h3 0 4 = r := by rw [A3.1.1]; exact C.2.1.symm
  have e12 : h3 r 12 = nrN h0 := by rw [A3.row C (o := r) (by omega) (by omega)]; exact hnr.2.2.1
  rw [e34, e12]
  refine ⟨C.1.ob, x_run C (Or.inl rfl) A3 (f := 0) (t := nrN h0) (Nat.le_refl _) (by omega) ⟨fun x b b0 b1 q => by omega, fun b b0 b1 q => ?_⟩ (fun h7 F7 A7 V7 => k h7 ((F3.trans F7).into rfl) A7 V7)⟩
  have pb : 0 ≤ plP h0 b ∧ plP h0 b < h0 68 36 := (C.1.bk b0 b1).2.2.1.2
  omega
theorem x_taken (C : CX h0 r lv st g) (A : AX h0 h r s lv st g) (V : FV h0 st lv g h (nrN h0) 0) (k : K (tkP h0 st lv g) h) : C_X0_taken w h K := by
  have hn := C.1.nb
  have hnr := C.1.nr
  refine c_X0_taken ?_
  suffices ∀ j m : Nat, m + j = nbN h0 → L_X0_taken_4 w (sm m (fun b => cuP h0 st lv (g 0) b (g (9 + b)))) m h K from this (nbN h0) 0 (by omega)
  intro j
  induction j with
  | zero =>
    intro m e
    obtain rfl : m = nbN h0 := e
    refine l_X0_taken_4 ?_
    rw [A.2.1, A.row C (o := r + 5) (by omega) (by omega), hn.2.2]
    exact ⟨C.1.ob, ⟨by omega, by omega⟩, ⟨by omega, by omega⟩, fun _ => k, fun c => absurd (Int.le_refl _) c⟩
  | succ j ih =>
    intro m e
    have pb : 0 ≤ plP h0 m ∧ plP h0 m < h0 68 36 := (C.1.bk (b := m) (by omega) (by omega)).2.2.1.2
    have q := ih (m + 1) (by omega)
    refine l_X0_taken_4 ?_
    rw [A.2.1, A.row C (o := r + 5) (by omega) (by omega), hn.2.2, V.2 m (by omega) (by omega) (Or.inl (by omega))]
    exact ⟨C.1.ob, ⟨by omega, by omega⟩, ⟨by omega, by omega⟩, fun c => absurd c (by omega), fun _ => ⟨⟨by omega, by omega⟩, q⟩⟩
theorem x_toSea (C : CX h0 r lv st g) (A : AX h0 h r s lv st g) (V : FV h0 st lv g h (nrN h0) 0) (k : K (swP h0 st lv g) h) : C_X0_toSea w h K := by
  have hn := C.1.nb
  have hnr := C.1.nr
  refine c_X0_toSea ?_
  suffices ∀ j m : Nat, m + j = nbN h0 → L_X0_toSea_4 w (sm m (fun b => caP h0 st lv g b (nrN h0))) m h K from this (nbN h0) 0 (by omega)
  intro j
  induction j with
  | zero =>
    intro m e
    obtain rfl : m = nbN h0 := e
    refine l_X0_toSea_4 ?_
    rw [A.2.1, A.row C (o := r + 5) (by omega) (by omega), hn.2.2]
    exact ⟨C.1.ob, ⟨by omega, by omega⟩, ⟨by omega, by omega⟩, fun _ => k, fun c => absurd (Int.le_refl _) c⟩
  | succ j ih =>
    intro m e
    have pb : 0 ≤ plP h0 m ∧ plP h0 m < h0 68 36 := (C.1.bk (b := m) (by omega) (by omega)).2.2.1.2
    have q := ih (m + 1) (by omega)
    have v := (V.1 (nrN h0 - 1) m (by omega) (by omega) (Or.inl (by omega))).2
    rw [show ((nrN h0 - 1 : Nat) : Int) = (nrN h0 : Int) - 1 by omega, show nrN h0 - 1 + 1 = nrN h0 by omega] at v
    refine l_X0_toSea_4 ?_
    rw [A.2.1, A.row C (o := r + 5) (by omega) (by omega), hn.2.2, A.row C (o := r) (by omega) (by omega), hnr.2.2.1, v]
    exact ⟨C.1.ob, ⟨by omega, by omega⟩, ⟨by omega, by omega⟩, fun c => absurd c (by omega), fun _ => ⟨C.1.ob, ⟨by omega, by omega⟩, fun c => absurd c (by omega), fun _ => ⟨C.1.ob, ⟨by omega, by omega⟩, q⟩⟩⟩
/-- all that the sums of what settled ask -/
def AL (h0 h : Hp) (r : Int) : Prop := Sl h0 h ∧ h 61 5 = r
theorem AX.al (A : AX h0 h r s lv st g) : AL h0 h r := ⟨A.1, A.2.1⟩
theorem AL.row (A : AL h0 h r) (C : CX h0 r lv st g) {o : Int} (h1 : r ≤ o) (h2 : o < r + 17) : h o = h0 o := A.1.2.2.2.1 o (by rw [← C.2.1]; exact h1) (by rw [← C.2.1]; exact h2)
theorem x_settledIn (C : CX h0 r lv st g) (A : AL h0 h r) {t x : Nat} (V : FV h0 st lv g h t 0) (hx : x < t) (ht : t ≤ 8) (k : K (siP h0 st lv g x) h) : C_X0_settledIn w x h K := by
  have hn := C.1.nb
  refine c_X0_settledIn ?_
  suffices ∀ j m : Nat, m + j = nbN h0 → L_X0_settledIn_4 w x (sm m (fun b => sdP h0 st lv g b x)) m h K from this (nbN h0) 0 (by omega)
  intro j
  induction j with
  | zero =>
    intro m e
    obtain rfl : m = nbN h0 := e
    refine l_X0_settledIn_4 ?_
    rw [A.2, A.row C (o := r + 5) (by omega) (by omega), hn.2.2]
    exact ⟨C.1.ob, ⟨by omega, by omega⟩, ⟨by omega, by omega⟩, fun _ => k, fun c => absurd (Int.le_refl _) c⟩
  | succ j ih =>
    intro m e
    have q := ih (m + 1) (by omega)
    have v := (V.1 x m (by omega) (by omega) (Or.inl hx)).1
    refine l_X0_settledIn_4 ?_
    rw [A.2, A.row C (o := r + 5) (by omega) (by omega), hn.2.2, v]
    exact ⟨C.1.ob, ⟨by omega, by omega⟩, ⟨by omega, by omega⟩, fun c => absurd c (by omega), fun _ => ⟨⟨by omega, by omega⟩, q⟩⟩
theorem x_settledGrains (C : CX h0 r lv st g) (A : AL h0 h r) (V : FV h0 st lv g h (nrN h0) 0) (k : K (saP h0 st lv g) h) : C_X0_settledGrains w h K := by
  have hnr := C.1.nr
  refine c_X0_settledGrains ?_
  suffices ∀ j m : Nat, m + j = nrN h0 → L_X0_settledGrains_4 w (sm m (fun x => siP h0 st lv g x.toNat)) m h K from this (nrN h0) 0 (by omega)
  intro j
  induction j with
  | zero =>
    intro m e
    obtain rfl : m = nrN h0 := e
    refine l_X0_settledGrains_4 ?_
    rw [A.2, A.row C (o := r) (by omega) (by omega), hnr.2.2.1]
    exact ⟨C.1.ob, ⟨by omega, by omega⟩, ⟨by omega, by omega⟩, fun _ => k, fun c => absurd (Int.le_refl _) c⟩
  | succ j ih =>
    intro m e
    have q := ih (m + 1) (by omega)
    refine l_X0_settledGrains_4 ?_
    rw [A.2, A.row C (o := r) (by omega) (by omega), hnr.2.2.1]
    exact ⟨C.1.ob, ⟨by omega, by omega⟩, ⟨by omega, by omega⟩, fun c => absurd c (by omega), fun _ => x_settledIn C A V (x := m) (by omega) hnr.2.1 q⟩
theorem x_mostSettled (C : CX h0 r lv st g) (A : AX h0 h r s lv st g) (V : FV h0 st lv g h (nrN h0) 0) (k : K (msP h0 st lv g (nrN h0)).1 h) : C_X0_mostSettled w h K := by
  have hnr := C.1.nr
  refine c_X0_mostSettled ?_
  suffices ∀ j m : Nat, m + j = nrN h0 → L_X0_mostSettled_6 w (msP h0 st lv g m).1 (msP h0 st lv g m).2 m h K from this (nrN h0) 0 (by omega)
  intro j
  induction j with
  | zero =>
    intro m e
    obtain rfl : m = nrN h0 := e
    refine l_X0_mostSettled_6 ?_
    rw [A.2.1, A.row C (o := r) (by omega) (by omega), hnr.2.2.1]
    exact ⟨C.1.ob, ⟨by omega, by omega⟩, ⟨by omega, by omega⟩, fun _ => k, fun c => absurd (Int.le_refl _) c⟩
  | succ j ih =>
    intro m e
    have q := ih (m + 1) (by omega)
    have b := si_b C m
    have b2 := ms_b C m
    refine l_X0_mostSettled_6 ?_
    rw [A.2.1, A.row C (o := r) (by omega) (by omega), hnr.2.2.1]
    refine ⟨C.1.ob, ⟨by omega, by omega⟩, ⟨by omega, by omega⟩, fun c => absurd c (by omega), fun _ => x_settledIn C A.al V (x := m) (by omega) hnr.2.1 ⟨⟨by omega, by omega⟩, ⟨by omega, by omega⟩, fun c => ?_, fun c => x_settledIn C A.al V (x := m) (by omega) hnr.2.1 ?_⟩⟩
    · rw [show msP h0 st lv g (m + 1) = msP h0 st lv g m from if_pos c] at q; exact q
    · rw [show msP h0 st lv g (m + 1) = ((m : Int), siP h0 st lv g m) from if_neg c] at q; exact q
theorem x_lyingG (R : RR h0 r) (G : GS h0 g) (X : SX h s g) (hs : s = 40 ∨ s = 45) {x : Int} (hx : 0 ≤ x ∧ x < 8) (k : K (lgP h0 g x) h) : C_X9_lyingIn w s x h K := by
  have hn := R.nb
  refine s_lyingIn (ob9 hs) hx ?_
  have e : sm 10 (fun b => h (s + 2) (x * 10 + b)) = lgP h0 g x := by
    unfold lgP
    rw [← sm_more (n := nbN h0) (m := 10) (by omega) (fun b q0 q1 => (G.2.2.2.1 x b hx.1 hx.2 (by omega) q1).2 (Or.inr (by omega)))]
    exact sm_congr fun b q0 q1 => X.2.2.2 x b hx.1 hx.2 q0 q1
  rw [e]; exact k
theorem lg_b (R : RR h0 r) (G : GS h0 g) {x : Int} (hx : 0 ≤ x ∧ x < 8) : 0 ≤ lgP h0 g x ∧ lgP h0 g x ≤ 990 := by
  have hn := R.nb
  have b := (G.bnd R).1 x hx.1 hx.2
  have e : sm 10 (fun b => g (29 + 10 * x + b)) = lgP h0 g x := sm_more (by omega) (fun b q0 q1 => (G.2.2.2.1 x b hx.1 hx.2 (by omega) q1).2 (Or.inr (by omega)))
  rw [← e]; exact b
theorem og_b (R : RR h0 r) (G : GS h0 g) {x a : Int} (hx : 0 ≤ x ∧ x < 8) : 0 ≤ ogP h0 g x a ∧ ogP h0 g x a ≤ lgP h0 g x := by
  have hn := R.nb
  have q : ∀ b : Int, 0 ≤ b → b < nbN h0 → 0 ≤ g (29 + 10 * x + b) := fun b h0 h1 => (G.2.2.2.1 x b hx.1 hx.2 h0 (by omega)).1
  refine ⟨sm_nonneg fun b h0 h1 => ?_, sm_le fun b h0 h1 => ?_⟩
  · split
    · exact q b h0 h1
    · exact Int.le_refl _
  · split
    · exact Int.le_refl _
    · exact q b h0 h1
theorem x_ownedG (R : RR h0 r) (e : r = h0 0 4) (S : Sl h0 h) (X : SX h s g) (hs : s = 40 ∨ s = 45) {x a : Int} (hx : 0 ≤ x ∧ x < 8) (ha : inR a) (k : K (ogP h0 g x a) h) : C_X9_owned w s r x a h K := by
  have hb := R.nb
  have ho := R.ow
  have r5 : h (r + 5) = h0 (r + 5) := S.2.2.2.1 _ (by omega) (by omega)
  have r8 : h (r + 8) = h0 (r + 8) := S.2.2.2.1 _ (by omega) (by omega)
  refine s_owned (nb := nbN h0) (ob9 hs) R.ob (by rw [r5]; exact hb.2.2) hb.2.1 hx ha (fun b h0 h1 => ?_) ?_
  · have := (R.bk h0 h1).1; rw [r8]; exact ⟨by omega, by omega⟩
  · have e : sm (nbN h0) (fun b => if h (r + 8) b = a then h (s + 2) (x * 10 + b) else 0) = ogP h0 g x a := sm_congr fun b h0 h1 => by
      rw [r8, (R.bk h0 h1).1.1, X.2.2.2 x b hx.1 hx.2 h0 (by omega)]
    rw [e]; exact k
theorem x_leftIn (C : CX h0 r lv st g) (hs : s = 40 ∨ s = 45) (A : AX h0 h r s lv st g) {t x : Nat} (V : FV h0 st lv g h t 0) (hx : x < t) (ht : t ≤ 8) (k : K (lgP h0 g x + siP h0 st lv g x) h) : C_X0_leftIn w x h K := by
  refine c_X0_leftIn ?_
  rw [A.2.2.1]
  exact ⟨ob9 hs, x_lyingG C.1 C.2.2.2.2.2 A.2.2.2.2.2.1 hs ⟨by omega, by omega⟩ (x_settledIn C A.al V hx ht k)⟩
/-! the reference -/
theorem y_sumOf {o : Int} {n m : Nat} (ho : Ar 0 n o) (hn : 10 ≤ n) (hm : m ≤ 10) {f : Int → Int} (hf : ∀ b : Int, 0 ≤ b → b < 10 → h o b = if b < m then f b else 0) (k : K (sm m f) h) : C_X12_sumOf w o h K := by
  refine c_X12_sumOf ho ?_
  have e : sm 10 (h o) = sm m f := by
    rw [sm_more (n := m) (m := 10) hm (fun b b0 b1 => by rw [hf b (by omega) b1, if_neg (by omega)])]
    exact sm_congr fun b b0 b1 => by rw [hf b b0 (by omega), if_pos b1]
  rw [← e] at k
  suffices ∀ j i : Nat, i + j = 10 → L_X12_sumOf_4 w o (sm i (h o)) i h K from this 10 0 rfl
  intro j
  induction j with
  | zero => intro i ei; obtain rfl : i = 10 := ei
            exact l_X12_sumOf_4 ho ⟨⟨by omega, by omega⟩, fun _ => k, fun c => absurd (by omega) c⟩
  | succ j ih => intro i ei; exact l_X12_sumOf_4 ho ⟨⟨by omega, by omega⟩, fun c => absurd c (by omega), fun _ => ⟨⟨by omega, by omega⟩, ih (i + 1) (by omega)⟩⟩
theorem y_taken (C : CX h0 r lv st g) (V : YV h0 st lv g h) (k : K (tkP h0 st lv g) h) : C_X12_sumOf w 107 h K := y_sumOf ar_107 (by decide) C.1.nb.2.1 (fun b b0 b1 => (V.1 b b0 b1).2.1) k
theorem y_sea (C : CX h0 r lv st g) (V : YV h0 st lv g h) (k : K (swP h0 st lv g) h) : C_X12_sumOf w 111 h K := y_sumOf ar_111 (by decide) C.1.nb.2.1 (fun b b0 b1 => (V.1 b b0 b1).2.2) k
theorem y_settledIn (C : CX h0 r lv st g) (S : Sl h0 h) (V : YV h0 st lv g h) {x : Nat} (hx : x < nrN h0) (k : K (siP h0 st lv g x) h) : C_X12_settledIn w x h K := by
  have hn := C.1.nb
  have hnr := C.1.nr
  have s5 : h 93 5 = nbN h0 := by rw [S.2.2.2.2.1 5 (by omega)]; exact hn.1
  refine c_X12_settledIn ?_
  suffices ∀ j m : Nat, m + j = nbN h0 → L_X12_settledIn_4 w x (sm m (fun b => sdP h0 st lv g b x)) m h K from this (nbN h0) 0 (by omega)
  intro j
  induction j with
  | zero =>
    intro m e
    obtain rfl : m = nbN h0 := e
    exact l_X12_settledIn_4 ⟨⟨by omega, by omega⟩, ⟨by omega, by omega⟩, fun _ => k, fun c => absurd (by omega) c⟩
  | succ j ih =>
    intro m e
    have q := ih (m + 1) (by omega)
    have v := (V.2 x m (by omega) (by omega) (by omega)).1
    rw [if_pos ⟨hx, by omega⟩] at v
    refine l_X12_settledIn_4 ⟨⟨by omega, by omega⟩, ⟨by omega, by omega⟩, fun c => absurd c (by omega), fun _ => ⟨⟨by omega, by omega⟩, ?_⟩⟩
    rw [v]; exact q
theorem y_settledAll (C : CX h0 r lv st g) (S : Sl h0 h) (V : YV h0 st lv g h) (k : K (saP h0 st lv g) h) : C_X12_settledAll w h K := by
  have hnr := C.1.nr
  have s36 : h 68 36 = nrN h0 := by rw [S.2.2.1]; exact hnr.1
  refine c_X12_settledAll ?_
  suffices ∀ j m : Nat, m + j = nrN h0 → L_X12_settledAll_4 w (sm m (fun x => siP h0 st lv g x.toNat)) m h K from this (nrN h0) 0 (by omega)
  intro j
  induction j with
  | zero =>
    intro m e
    obtain rfl : m = nrN h0 := e
    exact l_X12_settledAll_4 ⟨⟨by omega, by omega⟩, ⟨by omega, by omega⟩, fun _ => k, fun c => absurd (by omega) c⟩
  | succ j ih =>
    intro m e
    have q := ih (m + 1) (by omega)
    exact l_X12_settledAll_4 ⟨⟨by omega, by omega⟩, ⟨by omega, by omega⟩, fun c => absurd c (by omega), fun _ => y_settledIn C S V (x := m) (by omega) q⟩
theorem y_mostSettled (C : CX h0 r lv st g) (S : Sl h0 h) (V : YV h0 st lv g h) (k : K (msP h0 st lv g (nrN h0)).1 h) : C_X12_mostSettled w h K := by
  have hnr := C.1.nr
  have s36 : h 68 36 = nrN h0 := by rw [S.2.2.1]; exact hnr.1
  refine c_X12_mostSettled ?_
  suffices ∀ j m : Nat, m + j = nrN h0 → L_X12_mostSettled_6 w (msP h0 st lv g m).1 (msP h0 st lv g m).2 m h K from this (nrN h0) 0 (by omega)
  intro j
  induction j with
  | zero =>
    intro m e
    obtain rfl : m = nrN h0 := e
    exact l_X12_mostSettled_6 ⟨⟨by omega, by omega⟩, ⟨by omega, by omega⟩, fun _ => k, fun c => absurd (by omega) c⟩
  | succ j ih =>
    intro m e
    have q := ih (m + 1) (by omega)
    have b := si_b C m
    have b2 := ms_b C m
    refine l_X12_mostSettled_6 ⟨⟨by omega, by omega⟩, ⟨by omega, by omega⟩, fun c => absurd c (by omega), fun _ => y_settledIn C S V (x := m) (by omega) ⟨⟨by omega, by omega⟩, ⟨by omega, by omega⟩, fun c => y_settledIn C S V (x := m) (by omega) ?_, fun c => ?_⟩⟩
    · rw [show msP h0 st lv g (m + 1) = ((m : Int), siP h0 st lv g m) from if_neg (by omega)] at q; exact q
    · rw [show msP h0 st lv g (m + 1) = msP h0 st lv g m from if_pos (by omega)] at q; exact q
theorem y_wouldLie (C : CX h0 r lv st g) (S : Sl h0 h) (hg : ∀ i : Int, 0 ≤ i → i < 109 → h 104 i = g i) (V : YV h0 st lv g h) {x : Nat} (hx : x < nrN h0) (k : K (lgP h0 g x + siP h0 st lv g x) h) : C_X12_wouldLie w x h K := by
  have hn := C.1.nb
  have hnr := C.1.nr
  have s5 : h 93 5 = nbN h0 := by rw [S.2.2.2.2.1 5 (by omega)]; exact hn.1
  refine c_X12_wouldLie (m_liesAll s5 hn.2.1 ⟨by omega, by omega⟩ (y_settledIn C S V hx ?_))
  have e : sm (nbN h0) (fun b => h 104 (29 + 10 * (x : Int) + b)) = lgP h0 g x := sm_congr fun b b0 b1 => hg _ (by omega) (by omega)
  rw [e]; exact k
end L2T
