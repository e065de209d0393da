/-! pairs: years by the seed; until -/
def drw (s : Int) : Int := (1103515245 * s + 12345) % 2147483648
def seD (s : Int) : Nat → Int
  | 0 => s
  | n + 1 => drw (seD s n)
def lvD (s : Int) (n : Nat) : Int := seD s (n + 1) / 64 % 10
def gyP (h : Hp) (g : Int → Int) (s : Int) : Nat → Int → Int
  | 0 => g
  | n + 1 => yrP h (sN (gyP h g s n)) (lvD s n) (gyP h g s n)
def toP (h : Hp) (g : Int → Int) (s : Int) : Nat → Int
  | 0 => 0
  | n + 1 => toP h g s n + saP h (sN (gyP h g s n)) (lvD s n) (gyP h g s n)
section L2d
variable {w : Wd} {c : Int} {h h0 : Hp} {K : Int → Hp → Prop} {g : Int → Int}
theorem CX.mk {r lv : Int} (R : RR h r) (e : r = h 0 4) (F : FI h) (hl : 0 ≤ lv ∧ lv ≤ 9) (G : GS h g) : CX h r lv (sN g) g := ⟨R, e, F, hl, fun x x0 x1 => by have := G.2.1 x x0 x1; unfold sN; omega, G⟩
theorem sd_b {s : Int} (hs : 0 ≤ s ∧ s < 2147483648) (n : Nat) : 0 ≤ seD s n ∧ seD s n < 2147483648 := by
  cases n with
  | zero => exact hs
  | succ n => unfold seD drw; omega
theorem lv_b {s : Int} (hs : 0 ≤ s ∧ s < 2147483648) (n : Nat) : 0 ≤ lvD s n ∧ lvD s n ≤ 9 := by
  have := sd_b hs (n + 1)
  unfold lvD
  omega
theorem gy_ok {s : Int} (IBh : IB h) (G : GS h g) (hs : 0 ≤ s ∧ s < 2147483648) : ∀ n : Nat, g 0 + n ≤ 999 → GS h (gyP h g s n) ∧ gyP h g s n 0 = g 0 + n := by
  intro n
  induction n with
  | zero => intro _; exact ⟨G, by show g 0 = g 0 + 0; omega⟩
  | succ n ih =>
    intro q
    have a := ih (by omega)
    refine ⟨gs_year (CX.mk IBh.1 rfl IBh.2.2.1 (lv_b hs n) a.1) (by omega), ?_⟩
    show gyP h g s n 0 + 1 = _
    omega
theorem to_b {s : Int} (IBh : IB h) (G : GS h g) (hs : 0 ≤ s ∧ s < 2147483648) : ∀ n : Nat, g 0 + n ≤ 999 → 0 ≤ toP h g s n ∧ toP h g s n ≤ 20400 * n := by
  intro n
  induction n with
  | zero => intro _; exact ⟨by show (0 : Int) ≤ 0; omega, by show (0 : Int) ≤ _; omega⟩
  | succ n ih =>
    intro q
    have a := ih (by omega)
    have b := sa_b (CX.mk IBh.1 rfl IBh.2.2.1 (lv_b hs n) (gy_ok IBh G hs n (by omega)).1)
    unfold toP
    omega
theorem q_years (I : Inv c h) {a : Int} (ha : inR a) : C_X11_years w a h (fun z h1 => inR z ∧ C_X12_years w a h1 (PI c z)) := by
  have R := I.2.1.1
  have nr := R.nr
  have G := I.2.2.1
  have X := I.2.2.2.1
  have P := I.2.2.2.2.1
  have J := I.1.2.2.2.1
  have y := G.1
  have hs : 0 ≤ h 68 63 ∧ h 68 63 < 2147483648 := J.2
  have no : ¬ (0 < nrN h ∧ (1 ≤ a ∧ a ≤ 50) ∧ h 104 0 + a ≤ 999) → C_X11_refuse w 2 h (fun z h1 => inR z ∧ C_X12_years w a h1 (PI c z)) := fun q => by
    refine x_refuse ⟨by decide, by decide⟩ ⟨⟨by decide, by decide⟩, c_X12_years ?_⟩
    rw [hu_ne (show (68 : Int) ≠ 59 by decide), hu_ne (show (104 : Int) ≠ 59 by decide), nr.1]
    exact ⟨⟨by omega, by omega⟩, fun _ h2 e => ⟨rfl, fin_ref I (by decide) e⟩, fun _ => ⟨ha, ⟨by omega, by omega⟩, fun _ h2 e => ⟨rfl, fin_ref I (by decide) e⟩, fun _ => ⟨⟨by omega, by omega⟩, fun _ h2 e => ⟨rfl, fin_ref I (by decide) e⟩, fun _ => ⟨⟨by omega, by omega⟩, fun _ => by omega, fun _ h2 e => ⟨rfl, fin_ref I (by decide) e⟩⟩⟩⟩⟩
  refine c_X11_years ?_
  rw [nr.2.2.1, X.1]
  refine ⟨R.ob, ⟨by omega, by omega⟩, fun _ => no (by omega), fun q0 => ⟨ha, fun _ => no (by omega), fun q1 => ⟨ha, fun _ => no (by omega), fun q2 => ⟨⟨by omega, by omega⟩, fun q3 => ?_, fun _ => no (by omega)⟩⟩⟩⟩
  have p1 := P.1
  have p2 := P.2.2.2.1
  have p3 := P.2.2.2.2.1
  have p4 := P.2.2.2.2.2.1
  have p5 := P.2.1
  have p6 := P.2.2.1
  obtain ⟨N, hN⟩ : ∃ N : Nat, a = N := ⟨a.toNat, by omega⟩
  subst hN
  refine x_store (nx := h 50 1) (cn := h 50 2) rfl ⟨by omega, by omega⟩ rfl ⟨by omega, by omega⟩ X (fun h16 F16 e1 e2 ck k2 => ?_)
  have S16 : Sl h h16 := Sl.of I.2.1.rr F16 (by decide)
  suffices ∀ j n : Nat, n + j = N → ∀ h', Fr h16 h' [(40, 4), (52, 4), (61, 5), (61, 6), (61, 7), (0, 17)] [41, 42, 43, 44, 53, 54, 62, 63, 64, 65] → Sl h h' → SX h' 40 (gyP h (h 104) (h 68 63) n) → BD h' → h' 0 17 = seD (h 68 63) n → L_X11_years_57 w N (toP h (h 104) (h 68 63) n) n h' (fun z h1 => inR z ∧ C_X12_years w N h1 (PI c z)) from this N 0 (by omega) h16 (Fr.into Fr.refl (by decide)) S16 (X.fr (Or.inl rfl) F16 (by decide)) (I.2.2.2.2.2.fr F16 (by decide)) (by rw [show h16 0 17 = h 0 17 from (F16.cell (C := [(0, 17)]) (W := []) (by decide)).1 (0, 17) (by decide)]; exact J.1)
  intro j
  induction j with
  | succ j ih =>
    intro n e h' F' S' X' B' v17
    have sb := sd_b hs (n + 1)
    have lb := lv_b hs n
    have Gn := gy_ok I.2.1 G hs n (by omega)
    refine l_X11_years_57 ⟨⟨by omega, by omega⟩, ⟨by omega, by omega⟩, fun c => absurd c (by omega), fun _ => c_X11_draw (fun h1 q1 => ?_)⟩
    have F1 : Fr h' h1 [(0, 17)] [] := by rw [q1]; exact Fr.cel
    have w17 : h1 0 17 = seD (h 68 63) (n + 1) := by rw [q1, hu_if, if_pos rfl, v17]; rfl
    rw [w17]
    refine ⟨⟨by omega, by omega⟩, fun _ => ⟨sb, ⟨by omega, by omega⟩, ⟨by omega, by omega⟩, ?_⟩, fun c => absurd (by decide) c⟩
    have S1 : Sl h h1 := S'.tr (Sl.of (by rw [S'.1]; exact I.2.1.rr) F1 (by decide))
    refine x_passYear (Or.inl rfl) (CX.mk R rfl I.2.1.2.2.1 lb Gn.1) S1 (X'.fr (Or.inl rfl) F1 (by decide)) (B'.fr F1 (by decide)) (fun h2 F2 S2 X2 B2 => ?_)
    refine ih (n + 1) (by omega) h2 ((F'.trans (F1.trans F2)).into (by decide)) S2 X2 B2 ?_
    rw [← w17]
    exact (F2.cell (C := [(0, 17)]) (W := []) (by decide)).1 (0, 17) (by decide)
  | zero =>
    intro n e h19 F19 S19 X19 B19 v17
    obtain rfl : n = N := e
    have tb := to_b I.2.1 G hs n (by omega)
    refine l_X11_years_57 ⟨⟨by omega, by omega⟩, ⟨by omega, by omega⟩, fun _ => ⟨⟨by omega, by omega⟩, c_X12_years ?_⟩, fun c => absurd (by omega) c⟩
    have F1 := F16.trans F19
    have e104 : h19 104 = h 104 := (F1.cell (C := []) (W := [104]) (by decide)).2 104 (by decide)
    have q := (F1.cell (C := [(68, 61), (68, 62), (68, 63)]) (W := []) (by decide)).1
    have c61 : h19 68 61 = h 68 61 := q (68, 61) (by decide)
    have c62 : h19 68 62 = h 68 62 := q (68, 62) (by decide)
    have c63 : h19 68 63 = h 68 63 := q (68, 63) (by decide)
    rw [(sl_nb I S19).2.2.1, e104]
    refine ⟨⟨by omega, by omega⟩, fun _ => by omega, fun _ => ⟨ha, ⟨by omega, by omega⟩, fun _ => by omega, fun _ => ⟨⟨by omega, by omega⟩, fun _ => by omega, fun _ => ⟨⟨by omega, by omega⟩, fun _ => ?_, fun _ => by omega⟩⟩⟩⟩
    refine y_keeps (nw := h19 68 62) (un := h19 68 61) rfl ⟨by omega, by omega⟩ rfl ⟨by omega, by omega⟩ (fun h13 F13 f1 f2 f3 f4 => ?_)
    have S13 : Sl h h13 := S19.tr (Sl.of (by rw [S19.1]; exact I.2.1.rr) F13 (by decide))
    have e104' : h13 104 = h 104 := by rw [← e104]; exact (F13.cell (C := []) (W := [104]) (by decide)).2 104 (by decide)
    have c63' : h13 68 63 = h 68 63 := by rw [← c63]; exact (F13.cell (C := [(68, 63)]) (W := []) (by decide)).1 (68, 63) (by decide)
    suffices ∀ j m : Nat, m + j = n → ∀ h', Fr h13 h' [(68, 50), (68, 63)] (104 :: 105 :: yfR) → Sl h h' → (∀ i : Int, 0 ≤ i → i < 109 → h' 104 i = gyP h (h 104) (h 68 63) m i) → h' 68 63 = seD (h 68 63) m → L_X12_years_53 w n (toP h (h 104) (h 68 63) m) m h' (PI c (toP h (h 104) (h 68 63) n)) from this n 0 (by omega) h13 (Fr.into Fr.refl (by decide)) S13 (fun i _ _ => by rw [e104']; rfl) c63'
    intro j
    induction j with
    | succ j ih =>
      intro m e h' F' S' V' v63
      have sb := sd_b hs (m + 1)
      have sb0 := sd_b hs m
      have lb := lv_b hs m
      have Gm := gy_ok I.2.1 G hs m (by omega)
      refine l_X12_years_53 ⟨⟨by omega, by omega⟩, ⟨by omega, by omega⟩, fun c => absurd c (by omega), fun _ => c_X12_drawOf ?_⟩
      rw [v63]
      refine ⟨⟨by omega, by omega⟩, fun h1 q1 => ?_⟩
      have F1 : Fr h' h1 [(68, 63)] [] := by rw [q1]; exact Fr.cel
      have w63 : h1 68 63 = seD (h 68 63) (m + 1) := by rw [q1, hu_if, if_pos rfl]; rfl
      rw [w63]
      refine ⟨⟨by omega, by omega⟩, ⟨by omega, by omega⟩, ⟨by omega, by omega⟩, ⟨by omega, by omega⟩, ?_⟩
      have S1 : Sl h h1 := S'.tr (Sl.of (by rw [S'.1]; exact I.2.1.rr) F1 (by decide))
      have r104 : h1 104 = h' 104 := hu_row q1 (by decide)
      refine y_yearGoes (CX.mk R rfl I.2.1.2.2.1 lb Gm.1) S1 (by rw [r104]; exact V') (fun h2 F2 S2 V2 => ?_)
      refine ih (m + 1) (by omega) h2 ((F'.trans (F1.trans F2)).into (by decide)) S2 V2 ?_
      rw [← w63]
      exact (F2.cell (C := [(68, 63)]) (W := []) (by decide)).1 (68, 63) (by decide)
    | zero =>
      intro m e h2 F2 S2 V2 v63
      obtain rfl : m = n := e
      refine l_X12_years_53 ⟨⟨by omega, by omega⟩, ⟨by omega, by omega⟩, fun _ => ⟨rfl, ?_⟩, fun c => absurd (by omega) c⟩
      have FF : Fr h h2 actL actR := (F16.trans (F19.trans (F13.trans F2))).into (by decide)
      refine I.act FF (by decide) (by decide) (by decide) (by decide) (by decide) (by decide) ?_ (gy_ok I.2.1 G hs m (by omega)).1 V2 (X19.fr (Or.inl rfl) (F13.trans F2) (by decide)) ?_ (B19.fr (F13.trans F2) (by decide))
      · have sb := sd_b hs m
        refine ⟨?_, by omega, by omega⟩
        rw [v63, ← v17]
        exact ((F13.trans F2).cell (C := [(0, 17)]) (W := []) (by decide)).1 (0, 17) (by decide)
      · exact pa_fin P G S2 e1 e2 ck k2 (F19.trans (F13.trans F2)) (by decide) F1 (by decide) f1 f2 f3 f4 F2 (by decide)
end L2d
