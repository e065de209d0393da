/-! the pair of until -/
def guP (h : Hp) (g : Int → Int) (lv : Int) : Nat → Int → Int
  | 0 => g
  | n + 1 => yrP h (sN (guP h g lv n)) lv (guP h g lv n)
abbrev majP (h : Hp) (g : Int → Int) (x o : Int) : Prop := 2 * ogP h g x o > lgP h g x
/-- what until answers, from the n-th year on, j left -/
def utP (h : Hp) (g : Int → Int) (lv x o : Int) : Nat → Nat → Int
  | 0, n => if majP h (guP h g lv n) x o then n else -1
  | j + 1, n => if majP h (guP h g lv n) x o then n else if guP h g lv n 0 ≥ 999 then -1 else utP h g lv x o j (n + 1)
section L2e
variable {w : Wd} {c : Int} {h h0 : Hp} {K : Int → Hp → Prop} {g : Int → Int}
theorem gu_ok {lv : Int} (IBh : IB h) (G : GS h g) (hl : 0 ≤ lv ∧ lv ≤ 9) : ∀ n : Nat, g 0 + n ≤ 999 → GS h (guP h g lv n) ∧ guP h g lv n 0 = g 0 + n := by
  intro n
  induction n with
  | zero => intro _; exact ⟨G, by show g 0 = g 0 + 0; omega⟩
  | succ n ih =>
    intro q
    have a := ih (by omega)
    refine ⟨gs_year (CX.mk IBh.1 rfl IBh.2.2.1 hl a.1) (by omega), ?_⟩
    show guP h g lv n 0 + 1 = _
    omega
theorem x_hasMajG {s x o : Int} (IBh : IB h0) (G : GS h0 g) (S : Sl h0 h) (X : SX h s g) (hs : s = 40 ∨ s = 45) (hx : 0 ≤ x ∧ x < 8) (ho : inR o) (k1 : majP h0 g x o → K 1 h) (k0 : ¬ majP h0 g x o → K 0 h) : C_X11_hasMajority w s x o h K := by
  have hl := lg_b IBh.1 G hx
  have hoA := og_b IBh.1 G hx (a := o)
  refine c_X11_hasMajority (ob9 hs) ?_
  rw [S.1]
  exact ⟨IBh.1.ob, x_ownedG IBh.1 rfl S X hs hx ho (x_lyingG IBh.1 G X hs hx ⟨⟨by omega, by omega⟩, ⟨by omega, by omega⟩, fun c => k0 (by unfold majP; omega), fun c => k1 (by unfold majP; omega)⟩)⟩
/-- one owner at most has the majority -/
theorem maj_one {x o1 o2 : Int} (IBh : IB h) (G : GS h g) (hx : 0 ≤ x ∧ x < 8) (hne : o1 ≠ o2) (m1 : majP h g x o1) : ¬ majP h g x o2 := by
  intro m2
  unfold majP at m1 m2
  have hn := IBh.1.nb
  have : ogP h g x o1 + ogP h g x o2 ≤ lgP h g x := by
    unfold ogP lgP
    rw [← sm_add]
    refine sm_le fun b b0 b1 => ?_
    have p := (G.2.2.2.1 x b hx.1 hx.2 b0 (by omega)).1
    by_cases q1 : h 96 (50 + 5 * b + 0) = o1
    · rw [if_pos q1, if_neg (by omega)]; omega
    · rw [if_neg q1]
      by_cases q2 : h 96 (50 + 5 * b + 0) = o2
      · rw [if_pos q2]; omega
      · rw [if_neg q2]; omega
  omega
def mfP (h : Hp) (g : Int → Int) (x : Int) : Nat → Int → Int
  | 0, _ => -1
  | n + 1, o => if 2 * ogP h g x o > lgP h g x then o else mfP h g x n (o + 1)
theorem mf_iff {x o : Int} (IBh : IB h) (G : GS h g) (hx : 0 ≤ x ∧ x < 8) : ∀ (n : Nat) (a : Int), a ≤ o → o < a + n → 0 ≤ a → (mfP h g x n a = o ↔ majP h g x o) := by
  intro n
  induction n with
  | zero => intro a h1 h2; omega
  | succ n ih =>
    intro a h1 h2 h3
    unfold mfP
    by_cases q : 2 * ogP h g x a > lgP h g x
    · rw [if_pos q]
      constructor
      · intro e; subst e; exact q
      · intro m
        by_cases e : a = o
        · exact e
        · exact absurd m (maj_one IBh G hx e q)
    · rw [if_neg q]
      by_cases e : a = o
      · subst e
        constructor
        · intro m
          have : ∀ (n : Nat) (b : Int), a < b → 0 ≤ a → mfP h g x n b ≠ a := by
            intro n
            induction n with
            | zero => intro b _ _ e; have e : (-1 : Int) = a := e; omega
            | succ n ih2 =>
              intro b hb ha
              unfold mfP
              split
              · omega
              · exact ih2 (b + 1) (by omega) ha
          exact absurd m (this n (a + 1) (by omega) h3)
        · intro m; exact absurd m q
      · exact ih (a + 1) (by omega) (by omega) (by omega)
theorem y_majG {x : Int} (IBh : IB h0) (G : GS h0 g) (S : Sl h0 h) (hg : ∀ i : Int, 0 ≤ i → i < 109 → h 104 i = g i) (hx : 0 ≤ x ∧ x < 8) (k : ∀ z, -1 ≤ z ∧ z ≤ 5 → (∀ o : Int, 0 ≤ o → o < h0 93 3 → (z = o ↔ majP h0 g x o)) → K z h) : C_X12_majorityIn w x h K := by
  have ho := IBh.1.ow
  have hn := IBh.1.nb
  have R := IBh.1
  have s3 : h 93 3 = h0 93 3 := S.2.2.2.2.1 3 (by omega)
  have s5 : h 93 5 = nbN h0 := by rw [S.2.2.2.2.1 5 (by omega)]; exact hn.1
  have hl := lg_b R G hx
  have bb : ∀ (n : Nat) (a : Int), 0 ≤ a → a + n ≤ 5 → -1 ≤ mfP h0 g x n a ∧ mfP h0 g x n a ≤ 5 := by
    intro n
    induction n with
    | zero => intro a _ _; exact ⟨by show (-1 : Int) ≤ -1; omega, by show (-1 : Int) ≤ 5; omega⟩
    | succ n ih =>
      intro a a0 a1
      unfold mfP
      split
      · omega
      · exact ih (a + 1) (by omega) (by omega)
  have k := k _ (bb (h0 93 3).toNat 0 (by omega) (by omega)) (fun o o0 o1 => mf_iff IBh G hx (h0 93 3).toNat 0 o0 (by omega) (by omega))
  have lie : ∀ {K : Int → Hp → Prop}, K (lgP h0 g x) h → C_X12_liesAll w x h K := fun k => by
    refine m_liesAll s5 hn.2.1 hx ?_
    have e : sm (nbN h0) (fun b => h 104 (29 + 10 * x + b)) = lgP h0 g x := sm_congr fun b b0 b1 => hg _ (by omega) (by omega)
    rw [e]; exact k
  have own : ∀ {K : Int → Hp → Prop} {a : Int}, inR a → K (ogP h0 g x a) h → C_X12_ownersIn w x a h K := fun {K a} ha k => by
    have s96 : ∀ b : Int, 0 ≤ b → h 96 (50 + 5 * b + 0) = h0 96 (50 + 5 * b + 0) := fun b b0 => S.2.2.2.2.2.2.2.1 _ (by omega)
    refine m_ownersIn s5 hn.2.1 hx ha (fun b b0 b1 => by rw [s96 b b0]; have := (R.bk b0 b1).1; exact ⟨by omega, by omega⟩) ?_
    have e : sm (nbN h0) (fun b => if h 96 (50 + 5 * b + 0) = a then h 104 (29 + 10 * x + b) else 0) = ogP h0 g x a := sm_congr fun b b0 b1 => by
      rw [s96 b b0, hg _ (by omega) (by omega)]
    rw [e]; exact k
  refine c_X12_majorityIn ?_
  suffices ∀ n o : Nat, (o : Int) + n = h0 93 3 → K (mfP h0 g x n o) h → L_X12_majorityIn_2 w x o h K from this (h0 93 3).toNat 0 (by omega) k
  intro n
  induction n with
  | zero => intro o e k; exact l_X12_majorityIn_2 ⟨⟨by omega, by omega⟩, ⟨by omega, by omega⟩, fun _ => k, fun c => absurd (by omega) c⟩
  | succ n ih =>
    intro o e k
    have hoA := og_b R G hx (a := o)
    refine l_X12_majorityIn_2 ⟨⟨by omega, by omega⟩, ⟨by omega, by omega⟩, fun c => absurd c (by omega), fun _ => own ⟨by omega, by omega⟩ (lie ⟨⟨by omega, by omega⟩, ⟨by omega, by omega⟩, fun c => ih (o + 1) (by omega) ?_, fun c => ?_⟩)⟩
    · unfold mfP at k; rwa [if_neg (by omega)] at k
    · unfold mfP at k; rwa [if_pos (by omega)] at k
theorem x_copy (X : SX h 40 g) (k : ∀ h1, Fr h h1 [(45, 4)] [46, 47, 48, 49] → SX h1 45 g → K 0 h1) : C_X9_copy w 45 40 h K := by
  refine c_X9_copy ob_45 ob_40 (fun h1 q1 h3 q3 h5 q5 h7 q7 h9 q9 => ?_)
  have a1 : (40 : Int) + 1 = 41 ∧ (40 : Int) + 2 = 42 ∧ (40 : Int) + 3 = 43 ∧ (40 : Int) + 4 = 44 := by decide
  have a2 : (45 : Int) + 1 = 46 ∧ (45 : Int) + 2 = 47 ∧ (45 : Int) + 3 = 48 ∧ (45 : Int) + 4 = 49 := by decide
  rw [a1.1, a2.1] at q3
  rw [a1.2.1, a2.2.1] at q5
  rw [a1.2.2.1, a2.2.2.1] at q7
  rw [a1.2.2.2, a2.2.2.2] at q9
  have F1 : Fr h h1 [(45, 4)] [] := by rw [q1]; exact Fr.cel
  have F3 : Fr h1 h3 [] [46] := by rw [q3]; exact Fr.cpy
  have F5 : Fr h3 h5 [] [47] := by rw [q5]; exact Fr.cpy
  have F7 : Fr h5 h7 [] [48] := by rw [q7]; exact Fr.cpy
  have F9 : Fr h7 h9 [] [49] := by rw [q9]; exact Fr.cpy
  have G3 := F1.trans F3
  have G5 := G3.trans F5
  have G7 := G5.trans F7
  have z45 := ((F3.trans (F5.trans (F7.trans F9))).cell (C := [(45, 4)]) (W := []) (by decide)).1 (45, 4) (by decide)
  dsimp only at z45
  obtain ⟨x1, x2, x3, x4⟩ := X
  refine k h9 ((G7.trans F9).into (by decide)) ⟨?_, fun x x0 x1' => ?_, fun b b0 b1 => ⟨?_, ?_⟩, fun x b x0 x1' b0 b1 => ?_⟩
  · rw [z45, q1, hu_if, if_pos rfl]; exact x1
  · show h9 46 x = _
    rw [((F5.trans (F7.trans F9)).cell (C := []) (W := [46]) (by decide)).2 46 (by decide), q3, hc_if, if_pos ⟨by omega, by omega⟩, (F1.cell (C := []) (W := [41]) (by decide)).2 41 (by decide), ← x2 x x0 x1']; exact congrArg _ (by omega)
  · show h9 48 b = _
    rw [(F9.cell (C := []) (W := [48]) (by decide)).2 48 (by decide), q7, hc_if, if_pos ⟨by omega, by omega⟩, (G5.cell (C := []) (W := [43]) (by decide)).2 43 (by decide), ← (x3 b b0 b1).1]; exact congrArg _ (by omega)
  · show h9 49 b = _
    rw [q9, hc_if, if_pos ⟨by omega, by omega⟩, (G7.cell (C := []) (W := [44]) (by decide)).2 44 (by decide), ← (x3 b b0 b1).2]; exact congrArg _ (by omega)
  · show h9 47 _ = _
    rw [((F7.trans F9).cell (C := []) (W := [47]) (by decide)).2 47 (by decide), q5, hc_if, if_pos ⟨by omega, by omega⟩, (G3.cell (C := []) (W := [42]) (by decide)).2 42 (by decide), ← x4 x b x0 x1' b0 b1]; exact congrArg _ (by omega)
abbrev unL : List (Int × Int) := [(45, 4), (52, 4), (61, 5), (61, 6), (61, 7), (68, 50)]
abbrev unR : List Int := [46, 47, 48, 49, 53, 54, 62, 63, 64, 65, 114, 104, 105, 102, 103, 106, 107, 108, 109, 110, 111]
theorem q_until (I : Inv c h) {o x lv : Int} (ho : inR o) (hx : inR x) (hlv : inR lv) : C_X11_until w o x lv h (fun z h1 => inR z ∧ C_X12_until w o x lv h1 (PI c z)) := by
  have R := I.2.1.1
  have nr := R.nr
  have ow := R.ow
  have G := I.2.2.1
  have X := I.2.2.2.1
  have ii := I.up (c' := c + 1) (by omega)
  have no : ¬ ((0 ≤ o ∧ o < h 93 3) ∧ (0 ≤ x ∧ x < nrN h) ∧ 0 ≤ lv ∧ lv ≤ 9) → inR (-1) ∧ C_X12_until w o x lv h (PI c (-1)) := fun q => by
    refine ⟨⟨by decide, by decide⟩, c_X12_until ?_⟩
    have no : L_X12_until_23 w h (PI c (-1)) := l_X12_until_23 ⟨rfl, ii⟩
    rw [nr.1]
    exact ⟨ho, ⟨by omega, by omega⟩, ⟨by omega, by omega⟩, fun _ => no, fun _ => ⟨⟨by omega, by omega⟩, ⟨by omega, by omega⟩, fun _ => no, fun _ => ⟨hx, ⟨by omega, by omega⟩, ⟨by omega, by omega⟩, fun _ => no, fun _ => ⟨⟨by omega, by omega⟩, ⟨by omega, by omega⟩, fun _ => no, fun _ => ⟨hlv, ⟨by omega, by omega⟩, fun _ => no, fun _ => ⟨⟨by omega, by omega⟩, fun _ => no, fun _ => by omega⟩⟩⟩⟩⟩⟩
  refine c_X11_until ?_
  rw [ow.1]
  refine ⟨R.ob, ho, fun _ => no (by omega), fun _ => ⟨ho, ⟨by omega, by omega⟩, fun _ => no (by omega), fun _ => ⟨R.ob, x_hasReach R hx (fun g _ => ⟨fun c => absurd c (by decide), fun _ => ⟨hlv, fun _ => no (by omega), fun _ => ⟨hlv, fun _ => no (by omega), fun _ => ?_⟩⟩⟩) (fun g _ => ⟨fun _ => no (fun q => g q.2.1), fun c => absurd rfl c⟩)⟩⟩⟩
  have y := G.1
  have hl : 0 ≤ lv ∧ lv ≤ 9 := by omega
  -- the answer, bounded
  have ub : ∀ (j n : Nat), n + j = 20 → -1 ≤ utP h (h 104) lv x o j n ∧ utP h (h 104) lv x o j n ≤ 20 := by
    intro j
    induction j with
    | zero => intro n e; unfold utP; split <;> omega
    | succ j ih =>
      intro n e
      unfold utP
      split
      · omega
      · split
        · omega
        · exact ih (n + 1) (by omega)
  -- the reference, after the class
  have back : ∀ h1, Fr h h1 [(45, 4), (52, 4), (61, 5), (61, 6), (61, 7)] [46, 47, 48, 49, 53, 54, 62, 63, 64, 65] → BD h1 → inR (utP h (h 104) lv x o 20 0) ∧ C_X12_until w o x lv h1 (PI c (utP h (h 104) lv x o 20 0)) := by
    intro h1 F1 B1
    have S1 : Sl h h1 := Sl.of I.2.1.rr F1 (by decide)
    have e104 : h1 104 = h 104 := (F1.cell (C := []) (W := [104]) (by decide)).2 104 (by decide)
    have u := ub 20 0 rfl
    obtain ⟨z, hz⟩ : ∃ z, z = utP h (h 104) lv x o 20 0 := ⟨_, rfl⟩
    rw [← hz] at u ⊢
    refine ⟨⟨by omega, by omega⟩, c_X12_until ?_⟩
    rw [(sl_nb I S1).2.2.1, show h1 93 3 = h 93 3 from S1.2.2.2.2.1 3 (by omega)]
    refine ⟨ho, ⟨by omega, by omega⟩, ⟨by omega, by omega⟩, fun _ => by omega, fun _ => ⟨⟨by omega, by omega⟩, ⟨by omega, by omega⟩, fun _ => by omega, fun _ => ⟨hx, ⟨by omega, by omega⟩, ⟨by omega, by omega⟩, fun _ => by omega, fun _ => ⟨⟨by omega, by omega⟩, ⟨by omega, by omega⟩, fun _ => by omega, fun _ => ⟨hlv, ⟨by omega, by omega⟩, fun _ => by omega, fun _ => ⟨⟨by omega, by omega⟩, fun _ => by omega, fun _ => ?_⟩⟩⟩⟩⟩⟩
    -- what is put aside comes back
    have L126 : ∀ (n v : Int), (inR n ∧ inR v) → ((v = 0 ∧ z = -1) ∨ (v = 1 ∧ z = n)) → ∀ j m : Nat, m + j = 109 → ∀ h', Fr h h' unL unR → BD h' → (∀ i : Int, 0 ≤ i → i < 109 → h' 114 i = h 104 i) → (∀ i : Int, 0 ≤ i → i < m → h' 104 i = h 104 i) → L_X12_until_126 w n v m h' (PI c z) := by
      intro n v rv hv j
      induction j with
      | zero =>
        intro m e h' F' B' V A
        obtain rfl : m = 109 := e
        have S' : Sl h h' := Sl.of I.2.1.rr F' (by decide)
        have fin : Inv (c + 1) h' := ⟨I.1.fr (by omega) F' (by decide) (by decide) (by decide) (by decide) (by decide) (by decide), I.2.1.sl S', (G.st S').cg (fun i i0 i1 => A i i0 (by omega)), ?_, I.2.2.2.2.1.fr S' F' (by decide), B'⟩
        · refine l_X12_until_126 ⟨⟨by omega, by omega⟩, fun _ => ⟨rv.2, fun q => ⟨?_, fin⟩, fun q => ⟨?_, fin⟩⟩, fun c => absurd (by omega) c⟩
          · show (-1 : Int) = z
            omega
          · show n = z
            omega
        · have c0 := (F'.cell (C := [(40, 4)]) (W := [41, 42, 43, 44]) (by decide))
          have c1 := c0.1 (40, 4) (by decide)
          dsimp only at c1
          refine SX.cg ?_ (fun i i0 i1 => A i i0 (by omega))
          obtain ⟨x1, x2, x3, x4⟩ := X
          refine ⟨by rw [c1]; exact x1, ?_, ?_, ?_⟩
          · show ∀ r : Int, 0 ≤ r → r < 8 → h' 41 r = _
            rw [c0.2 41 (by decide)]; exact x2
          · show ∀ b : Int, 0 ≤ b → b < 10 → h' 43 b = _ ∧ h' 44 b = _
            rw [c0.2 43 (by decide), c0.2 44 (by decide)]; exact x3
          · show ∀ r b : Int, 0 ≤ r → r < 8 → 0 ≤ b → b < 10 → h' 42 _ = _
            rw [c0.2 42 (by decide)]; exact x4
      | succ j ih =>
        intro m e h' F' B' V A
        refine l_X12_until_126 ⟨⟨by omega, by omega⟩, fun c => absurd c (by omega), fun _ => ⟨⟨by omega, by omega⟩, ⟨by omega, by omega⟩, fun h52 q52 => ?_⟩⟩
        have F52 : Fr h' h52 [] [104] := by rw [q52]; exact Fr.row
        refine ih (m + 1) (by omega) h52 ((F'.trans F52).into (by decide)) (B'.fr F52 (by decide)) (by rw [ne_row F52 114 (by decide)]; exact V) (fun i i0 i1 => ?_)
        rw [q52, hu_if]
        by_cases d : i = m
        · rw [if_pos d, d]; exact V m (by omega) (by omega)
        · rw [if_neg d]; exact A i i0 (by omega)
    -- years by the level
    have L107 : ∀ n : Nat, n ≤ 20 → h 104 0 + n ≤ 999 → ∀ h', Fr h h' unL unR → BD h' → Sl h h' → (∀ i : Int, 0 ≤ i → i < 109 → h' 114 i = h 104 i) → (∀ i : Int, 0 ≤ i → i < 109 → h' 104 i = guP h (h 104) lv n i) → z = (if majP h (guP h (h 104) lv n) x o then (n : Int) else -1) → L_X12_until_107 w o x n h' (PI c z) := by
      intro n hn hy h' F' B' S' V A ez
      have Gn := gu_ok I.2.1 G hl n hy
      refine l_X12_until_107 (y_majG I.2.1 Gn.1 S' A ⟨g.1, by omega⟩ (fun m mb mi => ⟨⟨by omega, by omega⟩, ho, fun q => ?_, fun q => ?_⟩))
      · rw [if_neg (fun m => q ((mi o (by omega) (by omega)).mpr m))] at ez
        exact L126 n 0 ⟨⟨by omega, by omega⟩, ⟨by omega, by omega⟩⟩ (Or.inl ⟨rfl, ez⟩) 109 0 (by omega) h' F' B' V (fun i i0 i1 => by omega)
      · rw [if_pos ((mi o (by omega) (by omega)).mp (Classical.not_not.mp q))] at ez
        exact L126 n 1 ⟨⟨by omega, by omega⟩, ⟨by omega, by omega⟩⟩ (Or.inr ⟨rfl, ez⟩) 109 0 (by omega) h' F' B' V (fun i i0 i1 => by omega)
    have L58 : ∀ j n : Nat, n + j = 20 → h 104 0 + n ≤ 999 → ∀ h', Fr h h' unL unR → BD h' → Sl h h' → (∀ i : Int, 0 ≤ i → i < 109 → h' 114 i = h 104 i) → (∀ i : Int, 0 ≤ i → i < 109 → h' 104 i = guP h (h 104) lv n i) → z = utP h (h 104) lv x o j n → L_X12_until_58 w o x lv n h' (PI c z) := by
      intro j
      induction j with
      | zero =>
        intro n e hy h' F' B' S' V A ez
        exact l_X12_until_58 ⟨⟨by omega, by omega⟩, fun _ => L107 n (by omega) hy h' F' B' S' V A ez, fun c => absurd (by omega) c⟩
      | succ j ih =>
        intro n e hy h' F' B' S' V A ez
        have Gn := gu_ok I.2.1 G hl n hy
        have a0 := A 0 (by omega) (by omega)
        refine l_X12_until_58 ?_
        rw [a0, Gn.2]
        refine ⟨⟨by omega, by omega⟩, fun c => absurd c (by omega), fun _ => ⟨⟨by omega, by omega⟩, fun q => L107 n (by omega) hy h' F' B' S' V A ?_, fun q => ?_⟩⟩
        · unfold utP at ez
          rw [Gn.2, if_pos q] at ez
          exact ez
        · refine y_majG I.2.1 Gn.1 S' A ⟨g.1, by omega⟩ (fun m mb mi => ⟨⟨by omega, by omega⟩, ho, fun q2 => L107 n (by omega) hy h' F' B' S' V A ?_, fun q2 => ?_⟩)
          · have mj := (mi o (by omega) (by omega)).mp q2
            unfold utP at ez
            rw [if_pos mj] at ez ⊢
            exact ez
          · have mj : ¬ majP h (guP h (h 104) lv n) x o := fun m => q2 ((mi o (by omega) (by omega)).mpr m)
            unfold utP at ez
            rw [if_neg mj, Gn.2, if_neg q] at ez
            have Cn := CX.mk R rfl I.2.1.2.2.1 hl Gn.1
            have sb := sa_b Cn
            refine y_yearGoes Cn S' A (fun h2 F2 S2 V2 => ⟨⟨by omega, by omega⟩, fun _ => ?_, fun c => absurd (by omega) c⟩)
            exact ih (n + 1) (by omega) (by omega) h2 ((F'.trans F2).into (by decide)) (B'.fr F2 (by decide)) S2 (by rw [(F2.cell (C := []) (W := [114]) (by decide)).2 114 (by decide)]; exact V) V2 ez
    -- what is put aside
    suffices ∀ j m : Nat, m + j = 109 → ∀ h', Fr h1 h' [] [114] → (∀ i : Int, 0 ≤ i → i < m → h' 114 i = h 104 i) → L_X12_until_28 w o x lv m h' (PI c z) from this 109 0 (by omega) h1 (Fr.into Fr.refl (by decide)) (fun i i0 i1 => by omega)
    intro j
    induction j with
    | zero =>
      intro m e h' F' V
      obtain rfl : m = 109 := e
      have FF : Fr h h' unL unR := (F1.trans F').into (by decide)
      refine l_X12_until_28 ⟨⟨by omega, by omega⟩, fun _ => L58 20 0 (by omega) (by omega) h' FF (B1.fr F' (by decide)) (Sl.of I.2.1.rr FF (by decide)) (fun i i0 i1 => V i i0 (by omega)) (fun i i0 i1 => ?_) hz, fun c => absurd (by omega) c⟩
      rw [ne_row F' 104 (by decide), e104]; rfl
    | succ j ih =>
      intro m e h' F' V
      refine l_X12_until_28 ⟨⟨by omega, by omega⟩, fun c => absurd c (by omega), fun _ => ⟨⟨by omega, by omega⟩, ⟨by omega, by omega⟩, fun h23 q23 => ?_⟩⟩
      have F23 : Fr h' h23 [] [114] := by rw [q23]; exact Fr.row
      refine ih (m + 1) (by omega) h23 ((F'.trans F23).into (by decide)) (fun i i0 i1 => ?_)
      rw [q23, hu_if]
      by_cases d : i = m
      · rw [if_pos d, d, ne_row F' 104 (by decide), e104]
      · rw [if_neg d]; exact V i i0 (by omega)
  refine x_copy X (fun h12 F12 X12 => ?_)
  have S12 : Sl h h12 := Sl.of I.2.1.rr F12 (by decide)
  suffices ∀ j n : Nat, n + j = 20 → h 104 0 + n ≤ 999 → ∀ h', Fr h h' [(45, 4), (52, 4), (61, 5), (61, 6), (61, 7)] [46, 47, 48, 49, 53, 54, 62, 63, 64, 65] → BD h' → Sl h h' → SX h' 45 (guP h (h 104) lv n) → utP h (h 104) lv x o 20 0 = utP h (h 104) lv x o j n → L_X11_until_45 w o x lv n h' (fun z h1 => inR z ∧ C_X12_until w o x lv h1 (PI c z)) from this 20 0 (by omega) (by omega) h12 (F12.into (by decide)) (I.2.2.2.2.2.fr F12 (by decide)) S12 X12 rfl
  intro j
  induction j with
  | zero =>
    intro n e hy h' F' B' S' X' ez
    have Gn := gu_ok I.2.1 G hl n hy
    have b := back h' F' B'
    rw [ez] at b
    unfold utP at b
    refine l_X11_until_45 ⟨⟨by omega, by omega⟩, fun c => absurd c (by omega), fun _ => x_hasMajG I.2.1 Gn.1 S' X' (Or.inr rfl) ⟨g.1, by omega⟩ ho (fun m _ => ⟨fun c => absurd c (by decide), fun _ => ?_⟩) (fun m _ => ⟨fun _ => ⟨?_, fun q => ?_, fun _ => ?_⟩, fun c => absurd rfl c⟩)⟩
    · rw [if_pos m] at b; exact b
    · rw [X'.1, Gn.2]; exact ⟨by omega, by omega⟩
    · rw [X'.1, Gn.2] at q
      have Cn := CX.mk R rfl I.2.1.2.2.1 hl Gn.1
      refine x_passYear (Or.inr rfl) Cn S' X' B' (fun h2 F2 S2 X2 B2 => l_X11_until_45 ⟨⟨by omega, by omega⟩, fun _ => ?_, fun c => absurd (by omega) c⟩)
      have b2 := back h2 ((F'.trans F2).into (by decide)) B2
      rw [ez] at b2
      unfold utP at b2
      rw [if_neg m] at b2; exact b2
    · rw [if_neg m] at b; exact b
  | succ j ih =>
    intro n e hy h' F' B' S' X' ez
    have Gn := gu_ok I.2.1 G hl n hy
    have b := back h' F' B'
    rw [ez] at b
    unfold utP at b
    refine l_X11_until_45 ⟨⟨by omega, by omega⟩, fun c => absurd c (by omega), fun _ => x_hasMajG I.2.1 Gn.1 S' X' (Or.inr rfl) ⟨g.1, by omega⟩ ho (fun m _ => ⟨fun c => absurd c (by decide), fun _ => ?_⟩) (fun m _ => ⟨fun _ => ⟨?_, fun q => ?_, fun q => ?_⟩, fun c => absurd rfl c⟩)⟩
    · rw [if_pos m] at b; exact b
    · rw [X'.1, Gn.2]; exact ⟨by omega, by omega⟩
    · rw [X'.1, Gn.2] at q
      have Cn := CX.mk R rfl I.2.1.2.2.1 hl Gn.1
      have e2 : utP h (h 104) lv x o (j + 1) n = utP h (h 104) lv x o j (n + 1) := by
        show (if majP h (guP h (h 104) lv n) x o then (n : Int) else if guP h (h 104) lv n 0 ≥ 999 then -1 else utP h (h 104) lv x o j (n + 1)) = _
        rw [if_neg m, Gn.2, if_neg (by omega)]
      exact x_passYear (Or.inr rfl) Cn S' X' B' (fun h2 F2 S2 X2 B2 => ih (n + 1) (by omega) (by omega) h2 ((F'.trans F2).into (by decide)) B2 S2 X2 (ez.trans e2))
    · rw [X'.1, Gn.2] at q
      rw [if_neg m, Gn.2, if_pos (by omega)] at b; exact b
end L2e
