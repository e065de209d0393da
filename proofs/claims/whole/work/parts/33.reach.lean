/-! islands, lands, votes -/
abbrev joi (h : Hp) (x : Int) : Prop := h 97 3 ≤ lA h x ∧ h 97 3 ≤ lA h (x + 1) ∧ h 97 4 ≤ lA h x + lA h (x + 1)
def maF (h : Hp) (x : Int) : Nat → Int → Int
  | 0, _ => -1
  | n + 1, o => if 2 * oA h x o > lA h x then o else maF h x n (o + 1)
def lfF (h : Hp) : Nat → Int
  | 0 => 0
  | n + 1 => if joi h n then lfF h n else n + 1
def ltF (h : Hp) : Nat → Int → Int
  | 0, x => x
  | m + 1, x => if joi h x then ltF h m (x + 1) else x
def vtF (h : Hp) (f : Int) (n : Nat) (o : Int) : Int := sm n (fun i => oA h (f + i) o)
def vB (h : Hp) (f : Int) (n : Nat) : Nat → Int × Int
  | 0 => (-1, -1)
  | o + 1 => if vtF h f n o ≤ (vB h f n o).2 then vB h f n o else (o, vtF h f n o)
section L2D
variable {w : Wd} {h : Hp} {K : Int → Hp → Prop} {r s : Int}
theorem x_hasMajority (R : RR h (h 0 4)) (G : GS h (h 104)) (S : SX h s (h 104)) (hs : Ob 9 s) {x o : Int} (hx : 0 ≤ x ∧ x < 8) (ho : inR o) (k1 : 2 * oA h x o > lA h x → K 1 h) (k0 : ¬ 2 * oA h x o > lA h x → K 0 h) : C_X11_hasMajority w s x o h K := by
  have hl := lA_b R G hx
  have hoA := oA_b R G hx (a := o)
  exact c_X11_hasMajority hs ⟨R.ob, x_owned R G S hs hx ho (x_lyingIn R G S hs hx ⟨⟨by omega, by omega⟩, ⟨by omega, by omega⟩, fun c => k0 (by omega), fun c => k1 (by omega)⟩)⟩
theorem x_majority (Q : Q0 h) {x : Int} (hx : 0 ≤ x ∧ x < 8) (k : K (maF h x (h 93 3).toNat 0) h) : C_X11_majority w x h K := by
  obtain ⟨R, G, S⟩ := Q
  have ho := R.ow
  refine c_X11_majority ?_
  suffices ∀ n o : Nat, (o : Int) + n = h 93 3 → K (maF h x n o) h → L_X11_majority_2 w x o h K from this (h 93 3).toNat 0 (by omega) k
  intro n
  induction n with
  | zero => intro o e k; exact l_X11_majority_2 ⟨R.ob, ⟨by omega, by omega⟩, ⟨by omega, by omega⟩, fun _ => k, fun c => absurd (by omega) c⟩
  | succ n ih =>
    intro o e k
    refine l_X11_majority_2 ⟨R.ob, ⟨by omega, by omega⟩, ⟨by omega, by omega⟩, fun c => absurd c (by omega), fun _ => x_hasMajority R G S ob_40 hx ⟨by omega, by omega⟩ (fun g _ => ⟨fun c => absurd c (by decide), fun _ => ?_⟩) (fun g _ => ⟨fun _ => ih (o + 1) (by omega) ?_, fun c => absurd rfl c⟩)⟩
    · unfold maF at k; rwa [if_pos g] at k
    · unfold maF at k; rwa [if_neg g] at k
theorem y_majority (Q : Q0 h) {x : Int} (hx : 0 ≤ x ∧ x < 8) (k : K (maF h x (h 93 3).toNat 0) h) : C_X12_majorityIn w x h K := by
  obtain ⟨R, G, S⟩ := Q
  have ho := R.ow
  refine c_X12_majorityIn ?_
  suffices ∀ n o : Nat, (o : Int) + n = h 93 3 → K (maF h x n o) h → L_X12_majorityIn_2 w x o h K from this (h 93 3).toNat 0 (by omega) k
  have hl := lA_b R G hx
  intro n
  induction n with
  | zero => intro o e k; exact l_X12_majorityIn_2 ⟨⟨by omega, by omega⟩, ⟨by omega, by omega⟩, fun _ => k, fun c => absurd (by omega) c⟩
  | succ n ih =>
    intro o e k
    have hoA := oA_b R G hx (a := o)
    refine l_X12_majorityIn_2 ⟨⟨by omega, by omega⟩, ⟨by omega, by omega⟩, fun c => absurd c (by omega), fun _ => y_ownersIn R hx ⟨by omega, by omega⟩ (y_liesAll R hx ⟨⟨by omega, by omega⟩, ⟨by omega, by omega⟩, fun c => ih (o + 1) (by omega) ?_, fun c => ?_⟩)⟩
    · unfold maF at k; rwa [if_neg (by omega)] at k
    · unfold maF at k; rwa [if_pos (by omega)] at k
theorem x_isIsland (Q : Q0 h) {x : Int} (hx : inR x) (k1 : (0 ≤ x ∧ x < nrN h) ∧ h 97 3 ≤ lA h x → K 1 h) (k0 : ¬ ((0 ≤ x ∧ x < nrN h) ∧ h 97 3 ≤ lA h x) → K 0 h) : C_X11_isIsland w x h K := by
  obtain ⟨R, G, S⟩ := Q
  have hr := R.nr
  have hse := R.se.1
  refine c_X11_isIsland ⟨R.ob, x_hasReach R hx (fun g _ => ⟨fun c => absurd c (by decide), fun _ => ?_⟩) (fun g _ => ⟨fun _ => k0 (fun q => g q.1), fun c => absurd rfl c⟩)⟩
  have hl := lA_b R G (x := x) ⟨g.1, by omega⟩
  exact x_lyingIn R G S ob_40 ⟨g.1, by omega⟩ ⟨R.ob, ⟨by omega, by omega⟩, ⟨by omega, by omega⟩, fun c => k0 (by omega), fun c => k1 ⟨g, by omega⟩⟩
theorem y_isIsland (Q : Q0 h) {x : Int} (hx : 0 ≤ x ∧ x < 8) (k1 : h 97 3 ≤ lA h x → K 1 h) (k0 : ¬ h 97 3 ≤ lA h x → K 0 h) : C_X12_isIsland w x h K := by
  obtain ⟨R, G, S⟩ := Q
  have hse := R.se.1
  have hl := lA_b R G hx
  exact c_X12_isIsland (y_liesAll R hx ⟨⟨by omega, by omega⟩, ⟨by omega, by omega⟩, fun c => k0 (by omega), fun c => k1 (by omega)⟩)
theorem x_isJoined (Q : Q0 h) {x : Int} (hx : 0 ≤ x ∧ x < nrN h) (k1 : x + 1 < nrN h ∧ joi h x → K 1 h) (k0 : ¬ (x + 1 < nrN h ∧ joi h x) → K 0 h) : C_X11_isJoined w x h K := by
  have Q' := Q
  obtain ⟨R, G, S⟩ := Q'
  have hr := R.nr
  have hse := R.se.2.1
  refine c_X11_isJoined (x_isIsland Q ⟨by omega, by omega⟩ (fun g1 _ => ⟨fun c => absurd c (by decide), fun _ => x_isIsland Q ⟨by omega, by omega⟩ (fun g2 _ => ⟨fun c => absurd c (by decide), fun _ => ?_⟩) (fun g2 _ => ⟨fun _ => k0 (fun q => g2 ⟨⟨by omega, q.1⟩, q.2.2.1⟩), fun c => absurd rfl c⟩)⟩) (fun g1 _ => ⟨fun _ => k0 (fun q => g1 ⟨hx, q.2.1⟩), fun c => absurd rfl c⟩))
  have hl := lA_b R G (x := x) ⟨by omega, by omega⟩
  have hl2 := lA_b R G (x := x + 1) ⟨by omega, by omega⟩
  exact x_lyingIn R G S ob_40 ⟨by omega, by omega⟩ (x_lyingIn R G S ob_40 ⟨by omega, by omega⟩ ⟨R.ob, ⟨by omega, by omega⟩, ⟨by omega, by omega⟩, fun c => k0 (fun q => absurd q.2.2.2 (by omega)), fun c => k1 ⟨g2.1.2, g1.2, g2.2, by omega⟩⟩)
theorem y_areJoined (Q : Q0 h) {x : Int} (hx : 0 ≤ x ∧ x + 1 < nrN h) (k1 : joi h x → K 1 h) (k0 : ¬ joi h x → K 0 h) : C_X12_areJoined w x h K := by
  have Q' := Q
  obtain ⟨R, G, S⟩ := Q'
  have hr := R.nr
  have hse := R.se.2.1
  have hl := lA_b R G (x := x) ⟨by omega, by omega⟩
  have hl2 := lA_b R G (x := x + 1) ⟨by omega, by omega⟩
  refine c_X12_areJoined (y_isIsland Q ⟨by omega, by omega⟩ (fun g1 _ => ⟨fun c => absurd c (by decide), fun _ => y_isIsland Q ⟨by omega, by omega⟩ (fun g2 _ => ⟨fun c => absurd c (by decide), fun _ => ?_⟩) (fun g2 _ => ⟨fun _ => k0 (fun q => g2 q.2.1), fun c => absurd rfl c⟩)⟩) (fun g1 _ => ⟨fun _ => k0 (fun q => g1 q.1), fun c => absurd rfl c⟩))
  exact y_liesAll R ⟨by omega, by omega⟩ (y_liesAll R ⟨by omega, by omega⟩ ⟨⟨by omega, by omega⟩, ⟨by omega, by omega⟩, fun c => k0 (fun q => absurd q.2.2 (by omega)), fun c => k1 ⟨g1, g2, by omega⟩⟩)
theorem x_landFrom (Q : Q0 h) {n : Nat} (hn : n < nrN h) (k : K (lfF h n) h) : C_X11_landFrom w n h K := by
  have hr := Q.1.nr
  refine c_X11_landFrom ?_
  induction n with
  | zero => exact l_X11_landFrom_2 ⟨⟨by omega, by omega⟩, fun _ => k, fun c => absurd (by decide) c⟩
  | succ n ih =>
    refine l_X11_landFrom_2 ⟨⟨by omega, by omega⟩, fun c => absurd c (by omega), fun _ => ?_⟩
    have e1 : ((n + 1 : Nat) : Int) - 1 = n := by omega
    have e2 : ((n + 1 : Nat) : Int) + (-1) = n := by omega
    rw [e1, e2]
    refine x_isJoined Q ⟨by omega, by omega⟩ (fun g _ => ⟨fun c => absurd c (by decide), fun _ => ih (by omega) ?_⟩) (fun g _ => ⟨fun _ => ?_, fun c => absurd rfl c⟩)
    · unfold lfF at k; rwa [if_pos g.2] at k
    · unfold lfF at k; rwa [if_neg (fun q => g ⟨by omega, q⟩)] at k
theorem y_endFrom (Q : Q0 h) {n : Nat} (hn : n < nrN h) (k : K (lfF h n) h) : L_X12_endOf_12 w (-1) n h K := by
  have hr := Q.1.nr
  induction n with
  | zero => exact l_X12_endOf_12 ⟨⟨by decide, by decide⟩, fun c => absurd c (by decide), fun _ => ⟨⟨by omega, by omega⟩, fun _ => k, fun c => absurd (by decide) c⟩⟩
  | succ n ih =>
    refine l_X12_endOf_12 ⟨⟨by decide, by decide⟩, fun c => absurd c (by decide), fun _ => ⟨⟨by omega, by omega⟩, fun c => absurd c (by omega), fun _ => ?_⟩⟩
    have e1 : ((n + 1 : Nat) : Int) - 1 = n := by omega
    have e2 : ((n + 1 : Nat) : Int) + (-1) = n := by omega
    rw [e1, e2]
    refine y_areJoined Q ⟨by omega, by omega⟩ (fun g _ => ⟨fun c => absurd c (by decide), fun _ => ih (by omega) ?_⟩) (fun g _ => ⟨fun _ => ?_, fun c => absurd rfl c⟩)
    · unfold lfF at k; rwa [if_pos g] at k
    · unfold lfF at k; rwa [if_neg g] at k
theorem x_landTo (Q : Q0 h) (m : Nat) : ∀ {x : Int}, 0 ≤ x → x + 1 + m = nrN h → K (ltF h m x) h → C_X11_landTo w x h K := by
  have hr := Q.1.nr
  have hob := Q.1.ob
  suffices ∀ {x : Int}, 0 ≤ x → x + 1 + m = nrN h → K (ltF h m x) h → L_X11_landTo_2 w x h K from fun {x} h0 h1 k => c_X11_landTo (this h0 h1 k)
  induction m with
  | zero =>
    intro x h0 h1 k
    refine l_X11_landTo_2 ⟨hob, ⟨by omega, by omega⟩, ⟨by omega, by omega⟩, fun c => absurd c (by omega), fun _ => x_isJoined Q ⟨by omega, by omega⟩ (fun g _ => absurd g.1 (by omega)) (fun g _ => ⟨fun _ => k, fun c => absurd rfl c⟩)⟩
  | succ m ih =>
    intro x h0 h1 k
    refine l_X11_landTo_2 ⟨hob, ⟨by omega, by omega⟩, ⟨by omega, by omega⟩, fun c => absurd c (by omega), fun _ => x_isJoined Q ⟨by omega, by omega⟩ (fun g _ => ⟨fun c => absurd c (by decide), fun _ => ih (by omega) (by omega) ?_⟩) (fun g _ => ⟨fun _ => ?_, fun c => absurd rfl c⟩)⟩
    · unfold ltF at k; rwa [if_pos g.2] at k
    · unfold ltF at k; rwa [if_neg (fun q => g ⟨by omega, q⟩)] at k
theorem y_endTo (Q : Q0 h) (m : Nat) : ∀ {x : Int}, 0 ≤ x → x + 1 + m = nrN h → K (ltF h m x) h → L_X12_endOf_12 w 1 x h K := by
  have hr := Q.1.nr
  induction m with
  | zero =>
    intro x h0 h1 k
    exact l_X12_endOf_12 ⟨⟨by decide, by decide⟩, fun _ => ⟨⟨by omega, by omega⟩, ⟨by omega, by omega⟩, fun _ => k, fun c => absurd (by omega) c⟩, fun c => absurd (by decide) c⟩
  | succ m ih =>
    intro x h0 h1 k
    refine l_X12_endOf_12 ⟨⟨by decide, by decide⟩, fun _ => ⟨⟨by omega, by omega⟩, ⟨by omega, by omega⟩, fun c => absurd c (by omega), fun _ => y_areJoined Q ⟨by omega, by omega⟩ (fun g _ => ⟨fun c => absurd c (by decide), fun _ => ih (by omega) (by omega) ?_⟩) (fun g _ => ⟨fun _ => ?_, fun c => absurd rfl c⟩)⟩, fun c => absurd (by decide) c⟩
    · unfold ltF at k; rwa [if_pos g] at k
    · unfold ltF at k; rwa [if_neg g] at k
theorem oA_b2 (Q : Q0 h) {x a : Int} (hx : 0 ≤ x ∧ x < 8) : 0 ≤ oA h x a ∧ oA h x a ≤ 990 := by
  have := oA_b Q.1 Q.2.1 hx (a := a)
  have := lA_b Q.1 Q.2.1 hx
  omega
theorem sm_le_c {n : Nat} {f : Int → Int} {c : Int} (hf : ∀ i : Int, 0 ≤ i → i < n → 0 ≤ f i ∧ f i ≤ c) : 0 ≤ sm n f ∧ sm n f ≤ n * c := by
  induction n with
  | zero => show (0 : Int) ≤ 0 ∧ (0 : Int) ≤ (0 : Nat) * c; simp
  | succ n ih =>
    have h1 := ih (fun i h0 h1 => hf i h0 (by omega))
    have h2 := hf n (by omega) (by omega)
    show 0 ≤ sm n f + f n ∧ sm n f + f n ≤ ((n + 1 : Nat) : Int) * c
    rw [show ((n + 1 : Nat) : Int) * c = n * c + c by rw [Int.natCast_add, Int.add_mul]; simp]
    omega
theorem vtF_b (Q : Q0 h) {f : Int} {n : Nat} (hf : 0 ≤ f ∧ f + n ≤ 8) (o : Int) : 0 ≤ vtF h f n o ∧ vtF h f n o ≤ 8000 := by
  have := sm_le_c (n := n) (f := fun i => oA h (f + i) o) (c := 990) (fun i h0 h1 => oA_b2 Q ⟨by omega, by omega⟩)
  unfold vtF
  have h8 : (n : Int) ≤ 8 := by omega
  have : (n : Int) * 990 ≤ 8 * 990 := Int.mul_le_mul_of_nonneg_right h8 (by decide)
  omega
theorem vB_b (Q : Q0 h) {f : Int} {n : Nat} (hf : 0 ≤ f ∧ f + n ≤ 8) (o : Nat) : -1 ≤ (vB h f n o).1 ∧ (vB h f n o).1 ≤ o ∧ -1 ≤ (vB h f n o).2 ∧ (vB h f n o).2 ≤ 8000 ∧ (0 < o → 0 ≤ (vB h f n o).1 ∧ 0 ≤ (vB h f n o).2) := by
  induction o with
  | zero => exact ⟨by show (-1 : Int) ≤ -1; decide, by show (-1 : Int) ≤ ((0 : Nat) : Int); decide, by show (-1 : Int) ≤ -1; decide, by show (-1 : Int) ≤ 8000; decide, fun g => absurd g (by decide)⟩
  | succ o ih =>
    have hv := vtF_b Q hf o
    unfold vB
    by_cases g : vtF h f n o ≤ (vB h f n o).2
    · rw [if_pos g]
      refine ⟨ih.1, by omega, ih.2.2.1, ih.2.2.2.1, fun _ => ?_⟩
      by_cases h0 : 0 < o
      · exact ih.2.2.2.2 h0
      · obtain rfl : o = 0 := by omega
        exact absurd g (by show ¬ _ ≤ (-1 : Int); omega)
    · rw [if_neg g]
      exact ⟨by show -1 ≤ (o : Int); omega, by show (o : Int) ≤ _; omega, by show -1 ≤ vtF h f n o; omega, by show vtF h f n o ≤ 8000; omega, fun _ => ⟨by show 0 ≤ (o : Int); omega, by show 0 ≤ vtF h f n o; omega⟩⟩
theorem x_vote (Q : Q0 h) {f t : Int} {n : Nat} (hf : 0 ≤ f ∧ t + 1 = f + n ∧ f + n ≤ nrN h) (k : K (vB h f n (h 93 3).toNat).1 h) : C_X11_vote w f t h K := by
  have hr := Q.1.nr
  have ho := Q.1.ow
  have hob := Q.1.ob
  refine c_X11_vote ?_
  suffices ∀ m o : Nat, (o : Int) + m = h 93 3 → L_X11_vote_8 w f t (vB h f n o).1 (vB h f n o).2 o h K from this (h 93 3).toNat 0 (by omega)
  intro m
  induction m with
  | zero => intro o e; obtain rfl : o = (h 93 3).toNat := by omega
            exact l_X11_vote_8 ⟨hob, ⟨by omega, by omega⟩, ⟨by omega, by omega⟩, fun _ => k, fun c => absurd (by omega) c⟩
  | succ m ih =>
    intro o e
    have hB := vB_b Q (f := f) (n := n) ⟨by omega, by omega⟩ o
    have hV := vtF_b Q (f := f) (n := n) ⟨by omega, by omega⟩ o
    refine l_X11_vote_8 ⟨hob, ⟨by omega, by omega⟩, ⟨by omega, by omega⟩, fun c => absurd c (by omega), fun _ => ?_⟩
    have fin : ((vtF h f n o ≤ (vB h f n o).2) → L_X11_vote_8 w f t (vB h f n o).1 (vB h f n o).2 (o + 1) h K) ∧ (¬ (vtF h f n o ≤ (vB h f n o).2) → L_X11_vote_8 w f t o (vtF h f n o) (o + 1) h K) := by
      have q := ih (o + 1) (by omega)
      refine ⟨fun g => ?_, fun g => ?_⟩
      · rw [show vB h f n (o + 1) = vB h f n o from if_pos g] at q; exact q
      · rw [show vB h f n (o + 1) = ((o : Int), vtF h f n o) from if_neg g] at q; exact q
    suffices ∀ j i : Nat, i + j = n → L_X11_vote_29 w f t (vB h f n o).1 (vB h f n o).2 o (vtF h f i o) (f + i) h K by
      have q := this n 0 (by omega)
      rwa [show f + ((0 : Nat) : Int) = f by omega] at q
    intro j
    induction j with
    | zero => intro i ei; obtain rfl : i = n := by omega
              exact l_X11_vote_29 ⟨⟨by omega, by omega⟩, ⟨by omega, by omega⟩, fun _ => ⟨⟨by omega, by omega⟩, ⟨by omega, by omega⟩, fin⟩, fun c => absurd (by omega) c⟩
    | succ j ihj =>
      intro i ei
      have q := ihj (i + 1) (by omega)
      have hVi := vtF_b Q (f := f) (n := i) ⟨by omega, by omega⟩ o
      refine l_X11_vote_29 ⟨⟨by omega, by omega⟩, ⟨by omega, by omega⟩, fun c => absurd c (by omega), fun _ => ⟨hob, ⟨by omega, by omega⟩, ⟨by omega, by omega⟩, fun c => absurd c (by omega), fun _ => ⟨hob, x_owned Q.1 Q.2.1 Q.2.2 ob_40 ⟨by omega, by omega⟩ ⟨by omega, by omega⟩ ?_⟩⟩⟩
      rw [show f + ((i + 1 : Nat) : Int) = f + i + 1 by omega] at q
      exact q
/-! the reference's: its ends, its vote -/
theorem y_end_from (Q : Q0 h) {n : Nat} (hn : n < nrN h) (hi : h 97 3 ≤ lA h n) (k : K (lfF h n) h) : C_X12_endOf w n (-1) h K := by
  have hr := Q.1.nr
  exact c_X12_endOf (y_isIsland Q ⟨by omega, by omega⟩ (fun _ _ => ⟨fun _ => y_endFrom Q hn k, fun c => absurd (by decide) c⟩) (fun g _ => absurd hi g))
theorem y_end_to (Q : Q0 h) {n : Nat} (hn : n < nrN h) (hi : h 97 3 ≤ lA h n) (k : K (ltF h (nrN h - 1 - n) n) h) : C_X12_endOf w n 1 h K := by
  have hr := Q.1.nr
  exact c_X12_endOf (y_isIsland Q ⟨by omega, by omega⟩ (fun _ _ => ⟨fun _ => y_endTo Q (nrN h - 1 - n) (by omega) (by omega) k, fun c => absurd (by decide) c⟩) (fun g _ => absurd hi g))
theorem y_end_no (Q : Q0 h) {n : Nat} {z : Int} (hn : n < nrN h) (hi : ¬ h 97 3 ≤ lA h n) (k : K (-1) h) : C_X12_endOf w n z h K := by
  have hr := Q.1.nr
  exact c_X12_endOf (y_isIsland Q ⟨by omega, by omega⟩ (fun g _ => absurd g hi) (fun _ _ => ⟨fun c => absurd rfl c, fun _ => k⟩))
theorem lfF_b {n : Nat} : 0 ≤ lfF h n ∧ lfF h n ≤ n := by
  induction n with
  | zero => exact ⟨by show (0 : Int) ≤ 0; decide, by show (0 : Int) ≤ ((0 : Nat) : Int); decide⟩
  | succ n ih =>
    unfold lfF
    by_cases g : joi h n
    · rw [if_pos g]; omega
    · rw [if_neg g]; omega
theorem ltF_b {m : Nat} : ∀ {x : Int}, x ≤ ltF h m x ∧ ltF h m x ≤ x + m := by
  induction m with
  | zero => intro x; exact ⟨Int.le_refl _, by show x ≤ x + 0; omega⟩
  | succ m ih =>
    intro x
    unfold ltF
    by_cases g : joi h x
    · rw [if_pos g]; have := ih (x := x + 1); omega
    · rw [if_neg g]; omega
/-- the vote of the land of a reach -/
def voF (h : Hp) (a : Nat) : Int := (vB h (lfF h a) (ltF h (nrN h - 1 - a) a + 1 - lfF h a).toNat (h 93 3).toNat).1
theorem own_pos (Q : Q0 h) {x : Int} (hx : 0 ≤ x ∧ x < 8) (hi : h 97 3 ≤ lA h x) : 0 < h 93 3 := by
  have hse := Q.1.se.1
  by_cases g : nbN h = 0
  · have : lA h x = 0 := by unfold lA; rw [g]; rfl
    omega
  · have := (Q.1.bk (b := 0) (Int.le_refl _) (by omega)).1
    omega
theorem y_voteOf (Q : Q0 h) {a : Nat} (ha : a < nrN h) (k1 : h 97 3 ≤ lA h a → K (voF h a) h) (k0 : ¬ h 97 3 ≤ lA h a → K (-1) h) : C_X12_voteOf w a h K := by
  have hr := Q.1.nr
  have ho := Q.1.ow
  refine c_X12_voteOf (y_isIsland Q ⟨by omega, by omega⟩ (fun g _ => ⟨fun _ => ?_, fun c => absurd (by decide) c⟩) (fun g _ => ⟨fun c => absurd rfl c, fun _ => k0 g⟩))
  have k := k1 g
  have hop := own_pos Q ⟨by omega, by omega⟩ g
  unfold voF at k
  have f1 := lfF_b (h := h) (n := a)
  have t1 := ltF_b (h := h) (m := nrN h - 1 - a) (x := a)
  obtain ⟨f, hf⟩ : ∃ f, f = lfF h a := ⟨_, rfl⟩
  obtain ⟨t, ht⟩ : ∃ t, t = ltF h (nrN h - 1 - a) a := ⟨_, rfl⟩
  rw [← hf, ← ht] at k
  rw [← hf] at f1
  rw [← ht] at t1
  obtain ⟨n, hn⟩ : ∃ n : Nat, n = (t + 1 - f).toNat := ⟨_, rfl⟩
  rw [← hn] at k
  suffices ∀ m o : Nat, (o : Int) + m = h 93 3 → ∀ b : Int, b = (if o = 0 then 0 else (vB h f n o).1) → L_X12_voteOf_17 w a b (vB h f n o).2 o h K from this (h 93 3).toNat 0 (by omega) 0 rfl
  intro m
  induction m with
  | zero =>
    intro o e b hb
    obtain rfl : o = (h 93 3).toNat := by omega
    rw [if_neg (by omega)] at hb
    subst hb
    exact l_X12_voteOf_17 ⟨⟨by omega, by omega⟩, ⟨by omega, by omega⟩, fun _ => k, fun c => absurd (by omega) c⟩
  | succ m ih =>
    intro o e b hb
    have hB := vB_b Q (f := f) (n := n) ⟨by omega, by omega⟩ o
    have hV := vtF_b Q (f := f) (n := n) ⟨by omega, by omega⟩ o
    have fin : ((vtF h f n o > (vB h f n o).2) → L_X12_voteOf_17 w a o (vtF h f n o) (o + 1) h K) ∧ (¬ (vtF h f n o > (vB h f n o).2) → L_X12_voteOf_17 w a b (vB h f n o).2 (o + 1) h K) := by
      refine ⟨fun g => ?_, fun g => ?_⟩
      · have q := ih (o + 1) (by omega) o (by rw [if_neg (by omega), show vB h f n (o + 1) = ((o : Int), vtF h f n o) from if_neg (by omega)])
        rw [show vB h f n (o + 1) = ((o : Int), vtF h f n o) from if_neg (by omega)] at q; exact q
      · have h0 : o ≠ 0 := fun e0 => by subst e0; exact g (by show _ > (-1 : Int); omega)
        rw [if_neg h0] at hb
        have q := ih (o + 1) (by omega) b (by rw [if_neg (by omega), show vB h f n (o + 1) = vB h f n o from if_pos (by omega)]; exact hb)
        rw [show vB h f n (o + 1) = vB h f n o from if_pos (by omega)] at q; exact q
    refine l_X12_voteOf_17 ⟨⟨by omega, by omega⟩, ⟨by omega, by omega⟩, fun c => absurd c (by omega), fun _ => y_end_from Q ha g ?_⟩
    rw [← hf]
    suffices ∀ j i : Nat, i + j = n → L_X12_voteOf_37 w a b (vB h f n o).2 o (vtF h f i o) (f + i) h K by
      have q := this n 0 (by omega)
      rwa [show f + ((0 : Nat) : Int) = f by omega] at q
    intro j
    induction j with
    | zero =>
      intro i ei
      obtain rfl : i = n := by omega
      refine l_X12_voteOf_37 (y_end_to Q ha g ?_)
      rw [← ht]
      exact ⟨⟨by omega, by omega⟩, ⟨by omega, by omega⟩, fun _ => ⟨⟨by omega, by omega⟩, ⟨by omega, by omega⟩, fin⟩, fun c => absurd (by omega) c⟩
    | succ j ihj =>
      intro i ei
      have q := ihj (i + 1) (by omega)
      refine l_X12_voteOf_37 (y_end_to Q ha g ?_)
      rw [← ht]
      refine ⟨⟨by omega, by omega⟩, ⟨by omega, by omega⟩, fun c => absurd c (by omega), fun _ => y_ownersIn Q.1 ⟨by omega, by omega⟩ ⟨by omega, by omega⟩ ?_⟩
      rw [show f + ((i + 1 : Nat) : Int) = f + i + 1 by omega] at q
      exact q
/-! reach -/
def reachF (h : Hp) (a b : Int) : Int := if 0 ≤ a ∧ a < nrN h then (if b = 0 then h 95 (8 + a) else if b = 1 then h 104 (1 + a) else if b = 2 then lA h a else if b = 3 then (if h 97 3 ≤ lA h a then 1 else 0) else if b = 4 then maF h a (h 93 3).toNat 0
  else if b = 5 then (if h 97 3 ≤ lA h a then lfF h a.toNat else -1) else if b = 6 then (if h 97 3 ≤ lA h a then ltF h (nrN h - 1 - a.toNat) a else -1) else if b = 7 then (if h 97 3 ≤ lA h a then voF h a.toNat else -1) else -1) else -1
theorem x_reach (Q : Q0 h) {a b : Int} (ha : inR a) (hb : inR b) (k : K (reachF h a b) h) : C_X11_reach w a b h K := by
  have hr := Q.1.nr
  have ob := Q.1.ob
  refine c_X11_reach ⟨ob, x_hasReach Q.1 ha (fun g _ => ⟨fun _ => ?_, fun c => absurd (by decide) c⟩) (fun g _ => ⟨fun c => absurd rfl c, fun _ => by unfold reachF at k; rw [if_neg g] at k; exact k⟩)⟩
  unfold reachF at k
  rw [if_pos g] at k
  obtain ⟨n, rfl⟩ : ∃ n : Nat, a = n := ⟨a.toNat, by omega⟩
  rw [Int.toNat_natCast] at k
  have t1 := ltF_b (h := h) (m := nrN h - 1 - n) (x := n)
  have f1 := lfF_b (h := h) (n := n)
  refine ⟨hb, fun c => ⟨ob, by omega, ?_⟩, fun c => ⟨by omega, ?_⟩, fun c => ?_, fun c => ?_, fun c => ?_, fun c => ?_, fun c => ?_, fun c => ?_, fun c => ?_⟩
  · rw [(Q.1.sl n g.1 (by omega)).1]; subst c; exact k
  · rw [show h 41 n = h 104 (1 + n) from Q.2.2.2.1 n g.1 (by omega)]; subst c; exact k
  · exact x_lyingIn Q.1 Q.2.1 Q.2.2 ob_40 ⟨g.1, by omega⟩ (by subst c; exact k)
  · subst c
    have k : K (if h 97 3 ≤ lA h n then 1 else 0) h := k
    exact x_isIsland Q ha (fun g1 _ => ⟨fun c => absurd c (by decide), fun _ => by rw [if_pos g1.2] at k; exact k⟩) (fun g1 _ => ⟨fun _ => by rw [if_neg (fun q => g1 ⟨g, q⟩)] at k; exact k, fun c => absurd rfl c⟩)
  · exact x_majority Q ⟨g.1, by omega⟩ (by subst c; exact k)
  · subst c
    have k : K (if h 97 3 ≤ lA h n then lfF h n else -1) h := k
    exact x_isIsland Q ha (fun g1 _ => ⟨fun c => absurd c (by decide), fun _ => x_landFrom Q (by omega) (by rw [if_pos g1.2] at k; exact k)⟩) (fun g1 _ => ⟨fun _ => by rw [if_neg (fun q => g1 ⟨g, q⟩)] at k; exact k, fun c => absurd rfl c⟩)
  · subst c
    have k : K (if h 97 3 ≤ lA h n then ltF h (nrN h - 1 - n) n else -1) h := k
    exact x_isIsland Q ha (fun g1 _ => ⟨fun c => absurd c (by decide), fun _ => x_landTo Q (nrN h - 1 - n) g.1 (by omega) (by rw [if_pos g1.2] at k; exact k)⟩) (fun g1 _ => ⟨fun _ => by rw [if_neg (fun q => g1 ⟨g, q⟩)] at k; exact k, fun c => absurd rfl c⟩)
  · subst c
    have k : K (if h 97 3 ≤ lA h n then voF h n else -1) h := k
    exact x_isIsland Q ha (fun g1 _ => ⟨fun c => absurd c (by decide), fun _ => x_landFrom Q (by omega) (x_landTo Q (nrN h - 1 - n) g.1 (by omega) (x_vote Q (n := (ltF h (nrN h - 1 - n) n + 1 - lfF h n).toNat) ⟨by omega, by omega, by omega⟩ (by rw [if_pos g1.2] at k; exact k)))⟩) (fun g1 _ => ⟨fun _ => by rw [if_neg (fun q => g1 ⟨g, q⟩)] at k; exact k, fun c => absurd rfl c⟩)
  · repeat rw [if_neg (by omega)] at k
    exact k
theorem y_reach (Q : Q0 h) {a b : Int} (ha : inR a) (hb : inR b) (k : K (reachF h a b) h) : C_X12_reach w a b h K := by
  have hr := Q.1.nr
  have no : ¬ (0 ≤ a ∧ a < nrN h) → K (-1) h := fun g => by unfold reachF at k; rw [if_neg g] at k; exact k
  refine c_X12_reach ⟨ha, ⟨by omega, by omega⟩, ⟨by omega, by omega⟩, fun c => no (by omega), fun c => ⟨⟨by omega, by omega⟩, ⟨by omega, by omega⟩, fun c2 => no (by omega), fun c2 => ?_⟩⟩
  have g : 0 ≤ a ∧ a < nrN h := by omega
  unfold reachF at k
  rw [if_pos g] at k
  obtain ⟨n, rfl⟩ : ∃ n : Nat, a = n := ⟨a.toNat, by omega⟩
  rw [Int.toNat_natCast] at k
  refine ⟨hb, fun c => ⟨by omega, ?_⟩, fun c => ⟨by omega, ?_⟩, fun c => ?_, fun c => ?_, fun c => ?_, fun c => ?_, fun c => ?_, fun c => ?_, fun c => ?_⟩
  · subst c; exact k
  · subst c; exact k
  · exact y_liesAll Q.1 ⟨g.1, by omega⟩ (by subst c; exact k)
  · subst c
    have k : K (if h 97 3 ≤ lA h n then 1 else 0) h := k
    exact y_isIsland Q ⟨g.1, by omega⟩ (fun g1 _ => ⟨fun c => absurd c (by decide), fun _ => by rw [if_pos g1] at k; exact k⟩) (fun g1 _ => ⟨fun _ => by rw [if_neg g1] at k; exact k, fun c => absurd rfl c⟩)
  · exact y_majority Q ⟨g.1, by omega⟩ (by subst c; exact k)
  · subst c
    have k : K (if h 97 3 ≤ lA h n then lfF h n else -1) h := k
    by_cases g1 : h 97 3 ≤ lA h n
    · rw [if_pos g1] at k; exact y_end_from Q (by omega) g1 k
    · rw [if_neg g1] at k; exact y_end_no Q (by omega) g1 k
  · subst c
    have k : K (if h 97 3 ≤ lA h n then ltF h (nrN h - 1 - n) n else -1) h := k
    by_cases g1 : h 97 3 ≤ lA h n
    · rw [if_pos g1] at k; exact y_end_to Q (by omega) g1 k
    · rw [if_neg g1] at k; exact y_end_no Q (by omega) g1 k
  · subst c
    have k : K (if h 97 3 ≤ lA h n then voF h n else -1) h := k
    exact y_voteOf Q (by omega) (fun g1 => by rw [if_pos g1] at k; exact k) (fun g1 => by rw [if_neg g1] at k; exact k)
  · repeat rw [if_neg (by omega)] at k
    exact k
end L2D
