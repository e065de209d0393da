/-! what a question is worth, level by level, on both sides -/
theorem evl_cq {kn kn' ly ho f : Int → Int} : ∀ {n : Nat}, (∀ i : Nat, i < n → 0 ≤ f i ∨ f i = -20 ∨ f i = -27 ∨ f i = -28 ∨ (-14 ≤ f i ∧ f i ≤ -1)) → kn 0 = kn' 0 → kn 7 = kn' 7 → kn 8 = kn' 8 → evl kn ly ho f n = evl kn' ly ho f n := by
  intro n
  induction n with
  | zero => intro _ _ _ _; rfl
  | succ n ih =>
    intro hf k0 k7 k8
    show stp kn ly ho (f n) (evl kn ly ho f n) = stp kn' ly ho (f n) (evl kn' ly ho f n)
    rw [ih (fun i hi => hf i (by omega)) k0 k7 k8]
    rcases hf n (by omega) with g | g | g | g | g
    · rw [stp_p g, stp_p g]
    · rw [stp_k (by omega), stp_k (by omega), g]; exact congrArg (· :: _) k0
    · rw [stp_k (by omega), stp_k (by omega), g]; exact congrArg (· :: _) k7
    · rw [stp_k (by omega), stp_k (by omega), g]; exact congrArg (· :: _) k8
    · have a : ¬ 0 ≤ f n := by omega
      have b : ¬ f n ≤ -20 := by omega
      simp only [stp, if_neg a, if_neg b]
theorem qR.st {s c : Int} (h : qR s c) : 0 ≤ s ∨ s = -20 ∨ s = -27 ∨ s = -28 ∨ (-14 ≤ s ∧ s ≤ -1) := by
  unfold qR at h; omega
def KQ (h : Hp) (st : Int → Int) (lv : Int) (g : Int → Int) (j : Int) : Int := if j = 0 then lv else if j = 7 then tkP h st lv g else if j = 8 then swP h st lv g else 0
def LQ (h : Hp) (st : Int → Int) (lv : Int) (g : Int → Int) (a : Int) : Int := if 0 ≤ a ∧ a < nrN h then lgP h g a + siP h st lv g a.toNat else 0
def HQ (h : Hp) (st : Int → Int) (lv : Int) (g : Int → Int) (b : Int) : Int := if 0 ≤ b ∧ b < nbN h then g (9 + b) - cuP h st lv (g 0) b (g (9 + b)) else 0
def WQ (h : Hp) (f : Int → Int) (n : Nat) (lv : Int) : Int := (evl (KQ h (sN (h 104)) lv (h 104)) (LQ h (sN (h 104)) lv (h 104)) (HQ h (sN (h 104)) lv (h 104)) f n).headD 0
section L5L
variable {w : Wd} {h h0 h1 h2 : Hp} {K : Int → Hp → Prop} {r s lv c : Int} {st g f : Int → Int} {N : Nat}
theorem KQ_b (C : CX h0 r lv st g) (j : Int) : -1000000 ≤ KQ h0 st lv g j ∧ KQ h0 st lv g j ≤ 1000000 := by
  have a := tk_b C; have b := sw_b C; have l := C.2.2.2.1
  unfold KQ
  split
  · omega
  · split
    · omega
    · split <;> omega
theorem LQ_b (C : CX h0 r lv st g) (a : Int) : 0 ≤ LQ h0 st lv g a ∧ LQ h0 st lv g a ≤ 10000 := by
  have nr := C.1.nr
  unfold LQ
  split
  · rename_i q
    have l := lg_b C.1 C.2.2.2.2.2 (x := a) ⟨by omega, by omega⟩
    have s := si_b C a.toNat
    omega
  · omega
theorem HQ_b (C : CX h0 r lv st g) (b : Int) : 0 ≤ HQ h0 st lv g b ∧ HQ h0 st lv g b ≤ 10000 := by
  have nb := C.1.nb
  unfold HQ
  split
  · rename_i q
    have e := C.2.2.2.2.2.hl (b := b) ⟨by omega, by omega⟩
    have c := cuP_b (h := h0) (st := st) (lv := lv) (yr := g 0) (b := b) e.1
    omega
  · omega
theorem BD.up {o i v : Int} (B : BD h) (q : h1 = hu h o i v) (hv : -1000000 ≤ v ∧ v ≤ 1000000) : BD h1 := by
  intro j j0
  have b := B j j0
  have e : ∀ o' : Int, h1 o' j = v ∨ h1 o' j = h o' j := fun o' => by
    rw [q]; unfold hu
    split
    · exact Or.inl rfl
    · exact Or.inr rfl
  refine ⟨fun x => ?_, fun x => ?_, fun x => ?_⟩
  · have := b.1 x; rcases e 54 with e | e <;> rw [e] <;> omega
  · have := b.2.1 x; rcases e 55 with e | e <;> rw [e] <;> omega
  · have := b.2.2 x; rcases e 56 with e | e <;> rw [e] <;> omega
abbrev taR : List Int := [54, 55, 56]
theorem x_tell86 (C : CX h0 r lv st g) (k : ∀ h1, Fr h h1 [] taR → AX h0 h1 r 40 lv st g → (h1 54 = h 54) → (h1 55 = h 55) → (∀ b : Int, 0 ≤ b → b < 10 → h1 56 b = HQ h0 st lv g b) → K 0 h1) : ∀ j n : Nat, n + j = 10 → ∀ h5 : Hp, AX h0 h5 r 40 lv st g → FV h0 st lv g h5 (nrN h0) 0 → Fr h h5 [] taR → h5 54 = h 54 → h5 55 = h 55 → (∀ b : Int, 0 ≤ b → b < n → h5 56 b = HQ h0 st lv g b) → L_X0_tellAll_86 w n h5 K := by
  have nb := C.1.nb
  have cr := C.rr
  intro j
  induction j with
  | zero =>
    intro n e h5 A V F e4 e5 W
    obtain rfl : n = 10 := e
    exact l_X0_tellAll_86 ⟨⟨by omega, by omega⟩, fun _ => k h5 F A e4 e5 (fun b b0 b1 => W b b0 (by omega)), fun c => absurd (by omega) c⟩
  | succ j ih =>
    intro n e h5 A V F e4 e5 W
    have e61 := A.2.1
    have e62 := A.2.2.1
    have rw5 : h5 (r + 5) 1 = nbN h0 := by rw [A.row C (o := r + 5) (by omega) (by omega)]; exact nb.2.2
    have q := HQ_b C n
    have next : ∀ v, v = HQ h0 st lv g n → ∀ h6 : Hp, h6 = hu h5 56 n v → L_X0_tellAll_86 w ((n : Int) + 1) h6 K := fun v ev h6 q6 => by
      have F6 : Fr h5 h6 [] [56] := by rw [q6]; exact Fr.row
      refine ih (n + 1) (by omega) h6 (A.fr C (Or.inl rfl) F6 (by decide) (by decide) (by decide) (A.2.2.2.2.2.2.up q6 (by omega))) (V.fr F6 (by decide)) ((F.trans F6).into (by decide)) (by rw [hu_row q6 (by decide), e4]) (by rw [hu_row q6 (by decide), e5]) (fun b b0 b1 => ?_)
      rw [q6, hu_if]
      by_cases d : b = n
      · rw [if_pos d, ev, d]
      · rw [if_neg d]; exact W b b0 (by omega)
    refine l_X0_tellAll_86 ⟨⟨by omega, by omega⟩, fun c => absurd c (by omega), fun _ => ?_⟩
    rw [e61, e62, rw5]
    refine ⟨C.1.ob, ⟨by omega, by omega⟩, ⟨by omega, by omega⟩, fun c => ⟨⟨by omega, by omega⟩, fun h6 q6 => next 0 ?_ h6 q6⟩, fun c => ⟨ob9 (Or.inl rfl), ⟨by omega, by omega⟩, ⟨by omega, by omega⟩, ⟨by omega, by omega⟩, fun h6 q6 => next _ ?_ h6 q6⟩⟩
    · unfold HQ; rw [if_neg (by omega)]
    · have v63 := V.2 n (by omega) (by omega) (Or.inl (by have := C.1.bk (b := n) (by omega) (by omega); have := C.1.nr; unfold plP; omega))
      have hl := (A.2.2.2.2.2.1.2.2.1 n (by omega) (by omega)).1
      unfold HQ
      rw [if_pos ⟨by omega, by omega⟩, v63, hl]
theorem x_tell43 (C : CX h0 r lv st g) (k : ∀ h1, Fr h h1 [] taR → AX h0 h1 r 40 lv st g → FV h0 st lv g h1 (nrN h0) 0 → (h1 54 = h 54) → (∀ x : Int, 0 ≤ x → x < 8 → h1 55 x = LQ h0 st lv g x) → L_X0_tellAll_86 w 0 h1 K) : ∀ j n : Nat, n + j = 8 → ∀ h5 : Hp, AX h0 h5 r 40 lv st g → FV h0 st lv g h5 (nrN h0) 0 → Fr h h5 [] taR → h5 54 = h 54 → (∀ x : Int, 0 ≤ x → x < n → h5 55 x = LQ h0 st lv g x) → L_X0_tellAll_43 w n h5 K := by
  have nr := C.1.nr
  have cr := C.rr
  intro j
  induction j with
  | zero =>
    intro n e h5 A V F e4 W
    obtain rfl : n = 8 := e
    exact l_X0_tellAll_43 ⟨⟨by omega, by omega⟩, fun _ => k h5 F A V e4 (fun b b0 b1 => W b b0 (by omega)), fun c => absurd (by omega) c⟩
  | succ j ih =>
    intro n e h5 A V F e4 W
    have e61 := A.2.1
    have rw12 : h5 r 12 = nrN h0 := by rw [A.row C (o := r) (by omega) (by omega)]; exact nr.2.2.1
    have q := LQ_b C n
    have next : ∀ v, v = LQ h0 st lv g n → ∀ h6 : Hp, h6 = hu h5 55 n v → L_X0_tellAll_43 w ((n : Int) + 1) h6 K := fun v ev h6 q6 => by
      have F6 : Fr h5 h6 [] [55] := by rw [q6]; exact Fr.row
      refine ih (n + 1) (by omega) h6 (A.fr C (Or.inl rfl) F6 (by decide) (by decide) (by decide) (A.2.2.2.2.2.2.up q6 (by omega))) (V.fr F6 (by decide)) ((F.trans F6).into (by decide)) (by rw [hu_row q6 (by decide), e4]) (fun b b0 b1 => ?_)
      rw [q6, hu_if]
      by_cases d : b = n
      · rw [if_pos d, ev, d]
      · rw [if_neg d]; exact W b b0 (by omega)
    refine l_X0_tellAll_43 ⟨⟨by omega, by omega⟩, fun c => absurd c (by omega), fun _ => ?_⟩
    rw [e61, rw12]
    refine ⟨C.1.ob, ⟨by omega, by omega⟩, ⟨by omega, by omega⟩, fun c => ⟨⟨by omega, by omega⟩, fun h6 q6 => next 0 ?_ h6 q6⟩, fun c => x_leftIn C (Or.inl rfl) A V (x := n) (by omega) nr.2.1 ⟨⟨by omega, by omega⟩, fun h6 q6 => next _ ?_ h6 q6⟩⟩
    · unfold LQ; rw [if_neg (by omega)]
    · unfold LQ; rw [if_pos ⟨by omega, by omega⟩]; rfl
theorem x_tellAll (C : CX h0 r lv st g) (A : AX h0 h r 40 lv st g) (V : FV h0 st lv g h (nrN h0) 0) (k : ∀ h1, Fr h h1 [] taR → AX h0 h1 r 40 lv st g → h1 54 0 = lv → h1 54 7 = tkP h0 st lv g → h1 54 8 = swP h0 st lv g → (∀ x : Int, 0 ≤ x → x < 8 → h1 55 x = LQ h0 st lv g x) → (∀ b : Int, 0 ≤ b → b < 10 → h1 56 b = HQ h0 st lv g b) → K 0 h1) : C_X0_tellAll w h K := by
  have tb := tk_b C
  have sb := sw_b C
  have lb := C.2.2.2.1
  refine c_X0_tellAll (fun h1 q1 => ?_)
  rw [A.2.2.2.1] at q1
  have F1 : Fr h h1 [] [54] := by rw [q1]; exact Fr.row
  have A1 := A.fr C (Or.inl rfl) F1 (by decide) (by decide) (by decide) (A.2.2.2.2.2.2.up q1 (by omega))
  have V1 := V.fr F1 (by decide)
  refine x_taken C A1 V1 (fun h6 q6 => ?_)
  have F6 : Fr h1 h6 [] [54] := by rw [q6]; exact Fr.row
  have A6 := A1.fr C (Or.inl rfl) F6 (by decide) (by decide) (by decide) (A1.2.2.2.2.2.2.up q6 (by omega))
  have V6 := V1.fr F6 (by decide)
  refine x_toSea C A6 V6 (fun h11 q11 => ?_)
  have F11 : Fr h6 h11 [] [54] := by rw [q11]; exact Fr.row
  have A11 := A6.fr C (Or.inl rfl) F11 (by decide) (by decide) (by decide) (A6.2.2.2.2.2.2.up q11 (by omega))
  have V11 := V6.fr F11 (by decide)
  have e54 : ∀ j : Int, h11 54 j = if j = 8 then swP h0 st lv g else if j = 7 then tkP h0 st lv g else if j = 0 then lv else h 54 j := fun j => by rw [q11, hu_if, q6, hu_if, q1, hu_if]
  have Fa : Fr h h11 [] taR := ((F1.trans F6).trans F11).into (by decide)
  refine x_tell43 (h := h11) C (fun h12 F12 A12 V12 e12 W12 => ?_) 8 0 rfl h11 A11 V11 (Fr.into Fr.refl (by decide)) rfl (fun x x0 x1 => absurd x1 (by omega))
  refine x_tell86 (h := h12) C (fun h13 F13 A13 e13 f13 W13 => ?_) 10 0 rfl h12 A12 V12 (Fr.into Fr.refl (by decide)) rfl rfl (fun x x0 x1 => absurd x1 (by omega))
  exact k h13 (((Fa.trans F12).trans F13).into (by decide)) A13 (by rw [e13, e12, e54]; rfl) (by rw [e13, e12, e54]; rfl) (by rw [e13, e12, e54]; rfl) (fun x x0 x1 => by rw [f13]; exact W12 x x0 x1) W13
/-- one level of the class -/
theorem x_level (C : CX h0 r lv (sN (h0 104)) (h0 104)) (S : Sl h0 h) (X : SX h 40 (h0 104)) (B : BD h) {n : Nat} {b : Bool} (hn : h 3 1 = n) (hn2 : n ≤ 1600) (ef : h 4 = f) (W : wff f n b) (fq : ∀ i : Nat, i < n → 0 ≤ f i ∨ f i = -20 ∨ f i = -27 ∨ f i = -28 ∨ (-14 ≤ f i ∧ f i ≤ -1))
    (k : ∀ h1, Fr h h1 imL (imR ++ taR) → BD h1 → VOK [b] [WQ h0 f n lv] → K (WQ h0 f n lv) h1) : C_X0_aim w r 40 lv h (fun _ h11 => (Ob 7 (h11 0 4)) ∧ (C_X0_run w 0 ((h11 (h11 0 4) 12) - 1) h11 (fun _ h15 => C_X0_tellAll w h15 (fun _ h18 => C_X6_reckon w 3 h18 K)))) := by
  have nr := C.1.nr
  have cr := C.rr
  refine x_aim C.1 C.2.1 (Or.inl rfl) S X B (fun h11 F11 A11 => ?_)
  have e4 : h11 0 4 = r := by rw [A11.1.1]; exact C.2.1.symm
  rw [e4, A11.row C (o := r) (by omega) (by omega), nr.2.2.1]
  refine ⟨C.1.ob, x_run (f := 0) C (Or.inl rfl) A11 (Nat.le_refl _) (Nat.zero_le _) ⟨fun x b _ _ o => by omega, fun b b0 b1 o => by have := C.1.bk b0 b1; unfold plP at o; omega⟩ (fun h15 F15 A15 V15 => x_tellAll C A15 V15 (fun h18 F18 A18 a0 a7 a8 a55 a56 => ?_))⟩
  have F : Fr h h18 imL (imR ++ taR) := ((F11.trans F15).trans F18).into (by decide)
  have e31 := (F.cell (C := [(3, 1)]) (W := [4]) (by decide)).1 (3, 1) (by decide)
  have e4r := (F.cell (C := [(3, 1)]) (W := [4]) (by decide)).2 4 (by decide)
  dsimp only at e31
  have B18 := A18.2.2.2.2.2.2
  refine x_reckon (o := 3) (n := n) (b := b) ⟨by decide, rfl⟩ (by decide) (by rw [e31]; exact hn) hn2 (by show wff (h18 4) n b; rw [e4r, ef]; exact W) (fun j j0 j1 => (B18 j j0).1 (by omega)) (fun j j0 j1 => (B18 j j0).2.1 (by omega)) (fun j j0 j1 => (B18 j j0).2.2 (by omega)) (fun v h21 F21 VK ev => ?_)
  have el : knF (h18 55) 8 = LQ h0 (sN (h0 104)) lv (h0 104) := by
    funext j
    unfold knF
    by_cases d : 0 ≤ j ∧ j < ((8 : Nat) : Int)
    · rw [if_pos d]; exact a55 j d.1 (by omega)
    · rw [if_neg d]; unfold LQ; rw [if_neg (by omega)]
  have eh : knF (h18 56) 10 = HQ h0 (sN (h0 104)) lv (h0 104) := by
    have nb := C.1.nb
    funext j
    unfold knF
    by_cases d : 0 ≤ j ∧ j < ((10 : Nat) : Int)
    · rw [if_pos d]; exact a56 j d.1 (by omega)
    · rw [if_neg d]; unfold HQ; rw [if_neg (by omega)]
  have e : v = WQ h0 f n lv := by
    have e4' : h18 (3 + 1) = f := by show h18 4 = f; rw [e4r, ef]
    rw [ev, el, eh, e4']
    unfold WQ
    rw [evl_cq (kn' := KQ h0 (sN (h0 104)) lv (h0 104)) fq]
    · unfold knF KQ; rw [if_pos (by decide), if_pos rfl]; exact a0
    · unfold knF KQ; rw [if_pos (by decide), if_neg (by decide), if_pos rfl]; exact a7
    · unfold knF KQ; rw [if_pos (by decide), if_neg (by decide), if_neg (by decide), if_pos rfl]; exact a8
  subst e
  exact k h21 ((F.trans F21).into (by decide)) (B18.fr F21 (by decide)) VK
/-! all levels: what is told of them -/
def rA (W : Int → Int) (k : Int) : Nat → Int
  | 0 => if k < 2 then -1 else 0
  | n + 1 => if k = 0 then (if W n = 1 ∧ rA W k n = -1 then n else rA W k n) else if k = 1 then (if W n = 1 then n else rA W k n) else if k = 2 then (if W n = 1 then rA W k n + 1 else rA W k n) else if k = 3 then rA W k n + W n else if k = 4 then (if n = 0 ∨ rA W k n < W n then W n else rA W k n) else (if n = 0 ∨ W n < rA W k n then W n else rA W k n)
def aF (W : Int → Int) : Nat → Int
  | 0 => -1
  | n + 1 => if W n ≠ 0 ∧ aF W n = -1 then n else aF W n
def aL (W : Int → Int) : Nat → Int
  | 0 => -1
  | n + 1 => if W n ≠ 0 then n else aL W n
def aO (W : Int → Int) : Nat → Int
  | 0 => 0
  | n + 1 => if W n ≠ 0 then aO W n + 1 else aO W n
def aT (W : Int → Int) : Nat → Int
  | 0 => 0
  | n + 1 => aT W n + W n
def aM (W : Int → Int) : Nat → Int
  | 0 => -1000000
  | n + 1 => max (aM W n) (W n)
def aN (W : Int → Int) : Nat → Int
  | 0 => 1000000
  | n + 1 => min (aN W n) (W n)
theorem aF_b {W : Int → Int} : ∀ n : Nat, -1 ≤ aF W n ∧ aF W n ≤ n ∧ -1 ≤ aL W n ∧ aL W n ≤ n ∧ 0 ≤ aO W n ∧ aO W n ≤ n ∧ (aO W n = 0 ↔ aF W n = -1) := by
  intro n
  induction n with
  | zero => refine ⟨?_, ?_, ?_, ?_, ?_, ?_, ?_⟩ <;> simp [aF, aL, aO]
  | succ n ih =>
    unfold aF aL aO
    split <;> split <;> omega
theorem aT_b {W : Int → Int} : ∀ n : Nat, (∀ i : Nat, i < n → -1000000 ≤ W i ∧ W i ≤ 1000000) → -1000000 * (n : Int) ≤ aT W n ∧ aT W n ≤ 1000000 * n ∧ -1000000 ≤ aM W n ∧ aM W n ≤ 1000000 ∧ -1000000 ≤ aN W n ∧ aN W n ≤ 1000000 := by
  intro n
  induction n with
  | zero => intro _; refine ⟨?_, ?_, ?_, ?_, ?_, ?_⟩ <;> simp [aT, aM, aN]
  | succ n ih =>
    intro hW
    have := hW n (by omega)
    have := ih (fun i hi => hW i (by omega))
    unfold aT aM aN
    omega
theorem rA_f {W : Int → Int} : ∀ n : Nat, (∀ i : Nat, i < n → W i = 0 ∨ W i = 1) → rA W 0 n = aF W n ∧ rA W 1 n = aL W n ∧ rA W 2 n = aO W n := by
  intro n
  induction n with
  | zero => intro _; exact ⟨rfl, rfl, rfl⟩
  | succ n ih =>
    intro h01
    obtain ⟨i1, i2, i3⟩ := ih (fun i hi => h01 i (by omega))
    have w := h01 n (by omega)
    refine ⟨?_, ?_, ?_⟩
    · show (if W n = 1 ∧ rA W 0 n = -1 then (n : Int) else rA W 0 n) = if W n ≠ 0 ∧ aF W n = -1 then (n : Int) else aF W n
      rw [i1]
      split <;> split <;> omega
    · show (if W n = 1 then (n : Int) else rA W 1 n) = if W n ≠ 0 then (n : Int) else aL W n
      rw [i2]
      split <;> split <;> omega
    · show (if W n = 1 then rA W 2 n + 1 else rA W 2 n) = if W n ≠ 0 then aO W n + 1 else aO W n
      rw [i3]
      split <;> split <;> omega
theorem rA_m {W : Int → Int} : ∀ n : Nat, (∀ i : Nat, i < n → -1000000 ≤ W i ∧ W i ≤ 1000000) → rA W 3 n = aT W n ∧ (0 < n → rA W 4 n = aM W n ∧ rA W 5 n = aN W n) := by
  intro n
  induction n with
  | zero => intro _; exact ⟨rfl, fun x => absurd x (Nat.lt_irrefl 0)⟩
  | succ n ih =>
    intro hW
    obtain ⟨i1, i2⟩ := ih (fun i hi => hW i (by omega))
    have w := hW n (by omega)
    refine ⟨?_, fun _ => ⟨?_, ?_⟩⟩
    · show rA W 3 n + W n = aT W n + W n
      rw [i1]
    · show (if n = 0 ∨ rA W 4 n < W n then W n else rA W 4 n) = max (aM W n) (W n)
      by_cases z : n = 0
      · subst z; rw [if_pos (Or.inl rfl)]; show _ = max (-1000000 : Int) _; omega
      · rw [(i2 (by omega)).1]
        split <;> omega
    · show (if n = 0 ∨ W n < rA W 5 n then W n else rA W 5 n) = min (aN W n) (W n)
      by_cases z : n = 0
      · subst z; rw [if_pos (Or.inl rfl)]; show _ = min (1000000 : Int) _; omega
      · rw [(i2 (by omega)).2]
        split <;> omega
end L5L
