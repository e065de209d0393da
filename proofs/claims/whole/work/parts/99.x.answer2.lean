/-! a question's answer: the class's loop, the reference's loop -/
def nxA (k v i A n0 : Int) : Int := if k = 0 then (if v = 1 ∧ A = -1 then i else A) else if k = 1 then (if v = 1 then i else A) else if k = 2 then (if v = 1 then A + 1 else A) else if k = 3 then A + v else if k = 4 then (if n0 = 1 ∨ A < v then v else A) else (if n0 = 1 ∨ v < A then v else A)
section L5M
variable {w : Wd} {h h0 h1 h2 : Hp} {K : Int → Hp → Prop} {r lv c k : Int} {st g f : Int → Int} {N : Nat}
theorem VOK.bq1 {b : Bool} {v : Int} (V : VOK [b] [v]) : -1000000 ≤ v ∧ v ≤ 1000000 := by
  have := V.1
  cases b
  · rw [if_neg (by decide)] at this; exact this
  · rw [if_pos rfl] at this; omega
theorem VOK.t1 {v : Int} (V : VOK [true] [v]) : v = 0 ∨ v = 1 := by
  have := V.1
  rw [if_pos rfl] at this; exact this
theorem x_askAnswer (I : Inv c h0) (S : Sl h0 h) (X : SX h 40 (h0 104)) (B : BD h) {n : Nat} (hk : 0 ≤ k ∧ k ≤ 5) (hn : h 3 1 = n) (hn2 : n ≤ 1600) (ef : h 4 = f) (W : wff f n (decide (k ≤ 2))) (fq : ∀ i : Nat, i < n → 0 ≤ f i ∨ f i = -20 ∨ f i = -27 ∨ f i = -28 ∨ (-14 ≤ f i ∧ f i ≤ -1))
    (kk : ∀ h1, Fr h h1 imL (imR ++ taR) → BD h1 → (∀ i : Nat, i < 10 → VOK [decide (k ≤ 2)] [WQ h0 f n i]) → inL (rA (WQ h0 f n) k 10) → K (rA (WQ h0 f n) k 10) h1) : C_X11_answer w k h K := by
  refine c_X11_answer ?_
  suffices ∀ j m : Nat, m + j = 10 → ∀ h', Fr h h' imL (imR ++ taR) → BD h' → (∀ i : Nat, i < m → VOK [decide (k ≤ 2)] [WQ h0 f n i]) → L_X11_answer_23 w k (aF (WQ h0 f n) m) (aL (WQ h0 f n) m) (aO (WQ h0 f n) m) (aT (WQ h0 f n) m) (aM (WQ h0 f n) m) (aN (WQ h0 f n) m) m h' K from this 10 0 rfl h (Fr.into Fr.refl (by decide)) B (fun i hi => absurd hi (Nat.not_lt_zero _))
  intro j
  induction j with
  | zero =>
    intro m e h' F B' V
    obtain rfl : m = 10 := e
    have fb := aF_b (W := WQ h0 f n) 10
    have tb := aT_b (W := WQ h0 f n) 10 (fun i hi => (V i hi).bq1)
    have rm := rA_m (W := WQ h0 f n) 10 (fun i hi => (V i hi).bq1)
    have k1 := kk h' F B' V
    have tr : k ≤ 2 → rA (WQ h0 f n) 0 10 = aF (WQ h0 f n) 10 ∧ rA (WQ h0 f n) 1 10 = aL (WQ h0 f n) 10 ∧ rA (WQ h0 f n) 2 10 = aO (WQ h0 f n) 10 := fun c => rA_f 10 (fun i hi => by
      have := V i hi
      rw [show decide (k ≤ 2) = true by simp; omega] at this
      exact this.t1)
    refine l_X11_answer_23 ⟨⟨by omega, by omega⟩, fun _ => ⟨⟨by omega, by omega⟩, fun c => ?_, fun c => ?_, fun c => ?_, fun c => ?_, fun c => ?_, fun c => ?_⟩, fun c => absurd (by omega) c⟩
    · subst c
      rw [(tr (by decide)).1] at k1
      exact ⟨⟨by omega, by omega⟩, k1 ⟨by omega, by omega⟩⟩
    · subst c
      rw [(tr (by decide)).2.1] at k1
      exact ⟨⟨by omega, by omega⟩, k1 ⟨by omega, by omega⟩⟩
    · subst c
      rw [(tr (by decide)).2.2] at k1
      exact ⟨⟨by omega, by omega⟩, k1 ⟨by omega, by omega⟩⟩
    · subst c
      rw [rm.1] at k1
      exact k1 ⟨by omega, by omega⟩
    · subst c
      rw [(rm.2 (by decide)).1] at k1
      exact ⟨⟨by omega, by omega⟩, k1 ⟨by omega, by omega⟩⟩
    · obtain rfl : k = 5 := by omega
      rw [(rm.2 (by decide)).2] at k1
      exact ⟨⟨by omega, by omega⟩, k1 ⟨by omega, by omega⟩⟩
  | succ j ih =>
    intro m e h' F B' V
    have C := I.cx (lv := m) ⟨by omega, by omega⟩
    have S' : Sl h0 h' := S.tr (Sl.of (by rw [S.1]; exact I.2.1.rr) F (by decide))
    have e04 : h' 0 4 = h0 0 4 := S'.1
    have cl := F.cell (C := [(3, 1)]) (W := [4]) (by decide)
    have e31 := cl.1 (3, 1) (by decide)
    have e4 := cl.2 4 (by decide)
    dsimp only at e31
    have fb := aF_b (W := WQ h0 f n) m
    have tb := aT_b (W := WQ h0 f n) m (fun i hi => (V i hi).bq1)
    refine l_X11_answer_23 ⟨⟨by omega, by omega⟩, fun c => absurd c (by omega), fun _ => ?_⟩
    rw [e04]
    refine ⟨C.1.ob, x_level C S' (X.fr (Or.inl rfl) F (by decide)) B' (by rw [e31]; exact hn) hn2 (by rw [e4]; exact ef) W fq (fun h21 F21 B21 VK => ?_)⟩
    have vb := VK.bq1
    have V' : ∀ i : Nat, i < m + 1 → VOK [decide (k ≤ 2)] [WQ h0 f n i] := fun i hi => by
      by_cases d : i = m
      · rw [d]; exact VK
      · exact V i (by omega)
    have go := ih (m + 1) (by omega) h21 ((F.trans F21).into (by decide)) B21 V'
    have rr : inR (WQ h0 f n m) := ⟨by omega, by omega⟩
    have r7 : inR (aM (WQ h0 f n) m) := ⟨by omega, by omega⟩
    have r8 : inR (aN (WQ h0 f n) m) := ⟨by omega, by omega⟩
    have eT : aT (WQ h0 f n) (m + 1) = aT (WQ h0 f n) m + WQ h0 f n m := rfl
    have eM : aM (WQ h0 f n) (m + 1) = max (aM (WQ h0 f n) m) (WQ h0 f n m) := rfl
    have eN : aN (WQ h0 f n) (m + 1) = min (aN (WQ h0 f n) m) (WQ h0 f n m) := rfl
    rw [eT, eM, eN] at go
    have aFs : aF (WQ h0 f n) (m + 1) = if WQ h0 f n m ≠ 0 ∧ aF (WQ h0 f n) m = -1 then (m : Int) else aF (WQ h0 f n) m := rfl
    have aLs : aL (WQ h0 f n) (m + 1) = if WQ h0 f n m ≠ 0 then (m : Int) else aL (WQ h0 f n) m := rfl
    have aOs : aO (WQ h0 f n) (m + 1) = if WQ h0 f n m ≠ 0 then aO (WQ h0 f n) m + 1 else aO (WQ h0 f n) m := rfl
    rw [aFs, aLs, aOs] at go
    refine ⟨rr, fun z => ?_, fun z => ⟨⟨by omega, by omega⟩, fun o => ?_, fun o => ?_⟩⟩
    · rw [if_neg (fun x => x.1 z), if_neg (fun x => x z), if_neg (fun x => x z)] at go
      exact ⟨rr, r7, rr, r8, rr, go⟩
    · rw [if_neg (fun x => by omega), if_pos z, if_pos z] at go
      exact ⟨rr, r7, rr, r8, rr, go⟩
    · rw [if_pos ⟨z, by omega⟩, if_pos z, if_pos z] at go
      exact ⟨rr, r7, rr, r8, rr, go⟩
/-! the reference -/
theorem y_qTakes {v i A n0 : Int} (hk : 0 ≤ k ∧ k ≤ 5) (hi : inR i) (hv : inL v) (hA : inL A) (e94 : h 68 94 = A) (e95 : h 68 95 = n0) (h95 : n0 = 0 ∨ n0 = 1) (kk : ∀ h1, h1 68 94 = nxA k v i A n0 → h1 68 95 = 0 → Fr h h1 [(68, 94), (68, 95)] [] → K 0 h1) : C_X12_qTakes w k v i h K := by
  have rk : inR k := ⟨by omega, by omega⟩
  have fin : ∀ h', h' 68 94 = nxA k v i A n0 → Fr h h' [(68, 94)] [] → L_X12_qTakes_133 w h' K := fun h' e F => l_X12_qTakes_133 (fun h36 q36 => by
    have F36 : Fr h' h36 [(68, 95)] [] := by rw [q36]; exact Fr.cel
    exact kk h36 (by rw [q36, hu_if, if_neg (by decide)]; exact e) (by rw [q36, hu_if, if_pos rfl]) ((F.trans F36).into (by decide)))
  have s128 : nxA k v i A n0 = v → L_X12_qTakes_128 w v h K := fun e => l_X12_qTakes_128 (fun h34 q34 => fin h34 (by rw [q34, hu_if, if_pos rfl, e]) (by rw [q34]; exact Fr.cel))
  have s133 : nxA k v i A n0 = A → L_X12_qTakes_133 w h K := fun e => fin h (by rw [e]; exact e94) (Fr.into Fr.refl (by decide))
  -- one of the first four
  have s90 : k ≤ 3 → ∀ h', h' 68 94 = nxA k v i A n0 → Fr h h' [(68, 94)] [] → L_X12_qTakes_90 w k v h' K := fun c h' e F => l_X12_qTakes_90 ⟨rk, fun _ => fin h' e F, fun c2 => absurd c c2⟩
  have s75 : k ≤ 2 → ∀ h', h' 68 94 = nxA k v i A n0 → Fr h h' [(68, 94)] [] → L_X12_qTakes_75 w k v h' K := fun c h' e F => l_X12_qTakes_75 ⟨rk, fun _ => s90 (by omega) h' e F, fun c2 => absurd (by omega) c2⟩
  have s55 : k ≤ 1 → ∀ is, inR is → ∀ h', h' 68 94 = nxA k v i A n0 → Fr h h' [(68, 94)] [] → L_X12_qTakes_55 w k v is h' K := fun c is his h' e F => l_X12_qTakes_55 ⟨rk, fun _ => s75 (by omega) h' e F, fun c2 => absurd (by omega) c2⟩
  have F0 : Fr h h [(68, 94)] [] := Fr.into Fr.refl (by decide)
  have s48 : k ≤ 1 → nxA k v i A n0 = i → L_X12_qTakes_48 w k v i 1 h K := fun c e => l_X12_qTakes_48 ⟨hi, fun h10 q10 => s55 c 1 ⟨by decide, by decide⟩ h10 (by rw [q10, hu_if, if_pos rfl, e]) (by rw [q10]; exact Fr.cel)⟩
  have hk6 : k = 0 ∨ k = 1 ∨ k = 2 ∨ k = 3 ∨ k = 4 ∨ k = 5 := by omega
  have z0 : inR 0 := ⟨by decide, by decide⟩
  have z1 : inR 1 := ⟨by decide, by decide⟩
  rcases hk6 with rfl | rfl | rfl | rfl | rfl | rfl
  · by_cases c1 : v = 1
    · refine c_X12_qTakes ⟨rk, fun c => absurd c (by decide), fun _ => ⟨hv, fun c => absurd c1 c, fun _ => ⟨rk, fun c => absurd rfl c, fun _ => ?_⟩⟩⟩
      rw [e94]
      refine ⟨hA, fun c => s48 (by decide) (by unfold nxA; rw [if_pos rfl, if_pos ⟨c1, c⟩]), fun c => l_X12_qTakes_38 ⟨rk, fun _ => s55 (by decide) 1 z1 h (by unfold nxA; rw [if_pos rfl, if_neg (fun x => c x.2)]; exact e94) F0, fun c2 => absurd (by decide) c2⟩⟩
    · exact c_X12_qTakes ⟨rk, fun c => absurd c (by decide), fun _ => ⟨hv, fun _ => l_X12_qTakes_15 ⟨rk, fun c => absurd rfl c, fun _ => l_X12_qTakes_38 ⟨rk, fun _ => s55 (by decide) 0 z0 h (by unfold nxA; rw [if_pos rfl, if_neg (fun x => c1 x.1)]; exact e94) F0, fun c2 => absurd (by decide) c2⟩⟩, fun c => absurd c1 c⟩⟩
  · by_cases c1 : v = 1
    · exact c_X12_qTakes ⟨rk, fun c => absurd c (by decide), fun _ => ⟨hv, fun c => absurd c1 c, fun _ => ⟨rk, fun _ => l_X12_qTakes_38 ⟨rk, fun c => absurd rfl c, fun _ => ⟨z1, fun c => absurd c (by decide), fun _ => s48 (by decide) (by unfold nxA; rw [if_neg (by decide), if_pos rfl, if_pos c1])⟩⟩, fun c => absurd (by decide) c⟩⟩⟩
    · exact c_X12_qTakes ⟨rk, fun c => absurd c (by decide), fun _ => ⟨hv, fun _ => l_X12_qTakes_15 ⟨rk, fun _ => l_X12_qTakes_38 ⟨rk, fun c => absurd rfl c, fun _ => ⟨z0, fun _ => s55 (by decide) 0 z0 h (by unfold nxA; rw [if_neg (by decide), if_pos rfl, if_neg c1]; exact e94) F0, fun c => absurd rfl c⟩⟩, fun c => absurd (by decide) c⟩, fun c => absurd c1 c⟩⟩
  · by_cases c1 : v = 1
    · refine c_X12_qTakes ⟨rk, fun c => absurd c (by decide), fun _ => ⟨hv, fun c => absurd c1 c, fun _ => ⟨rk, fun _ => l_X12_qTakes_38 ⟨rk, fun _ => l_X12_qTakes_55 ⟨rk, fun c => absurd rfl c, fun _ => ⟨z1, fun c => absurd c (by decide), fun _ h14 q14 => ?_⟩⟩, fun c => absurd (by decide) c⟩, fun c => absurd (by decide) c⟩⟩⟩
      rw [e94] at q14
      exact s75 (by decide) h14 (by unfold nxA; rw [q14, hu_if, if_pos rfl, if_neg (by decide), if_neg (by decide), if_pos rfl, if_pos c1]) (by rw [q14]; exact Fr.cel)
    · exact c_X12_qTakes ⟨rk, fun c => absurd c (by decide), fun _ => ⟨hv, fun _ => l_X12_qTakes_15 ⟨rk, fun _ => l_X12_qTakes_38 ⟨rk, fun _ => l_X12_qTakes_55 ⟨rk, fun c => absurd rfl c, fun _ => ⟨z0, fun _ => s75 (by decide) h (by unfold nxA; rw [if_neg (by decide), if_neg (by decide), if_pos rfl, if_neg c1]; exact e94) F0, fun c => absurd rfl c⟩⟩, fun c => absurd (by decide) c⟩, fun c => absurd (by decide) c⟩, fun c => absurd c1 c⟩⟩
  · refine c_X12_qTakes ⟨rk, fun _ => l_X12_qTakes_15 ⟨rk, fun _ => l_X12_qTakes_38 ⟨rk, fun _ => l_X12_qTakes_55 ⟨rk, fun _ => l_X12_qTakes_75 ⟨rk, fun c => absurd rfl c, fun _ h19 q19 => ?_⟩, fun c => absurd (by decide) c⟩, fun c => absurd (by decide) c⟩, fun c => absurd (by decide) c⟩, fun c => absurd (by decide) c⟩
    rw [e94] at q19
    exact s90 (by decide) h19 (by unfold nxA; rw [q19, hu_if, if_pos rfl, if_neg (by decide), if_neg (by decide), if_neg (by decide), if_pos rfl]) (by rw [q19]; exact Fr.cel)
  · refine c_X12_qTakes ⟨rk, fun _ => l_X12_qTakes_15 ⟨rk, fun _ => l_X12_qTakes_38 ⟨rk, fun _ => l_X12_qTakes_55 ⟨rk, fun _ => l_X12_qTakes_75 ⟨rk, fun _ => l_X12_qTakes_90 ⟨rk, fun c => absurd c (by decide), fun _ => ?_⟩, fun c => absurd (by decide) c⟩, fun c => absurd (by decide) c⟩, fun c => absurd (by decide) c⟩, fun c => absurd (by decide) c⟩, fun c => absurd (by decide) c⟩
    have ex : nxA 4 v i A n0 = if n0 = 1 ∨ A < v then v else A := rfl
    rw [e95, e94]
    refine ⟨⟨by omega, by omega⟩, fun c => s128 (by rw [ex, if_pos (Or.inl (by omega))]), fun c => ⟨rk, fun c2 => absurd rfl c2, fun _ => ⟨hv, hA, fun c3 => s133 (by rw [ex, if_neg (by omega)]), fun c3 => s128 (by rw [ex, if_pos (Or.inr (by omega))])⟩⟩⟩
  · refine c_X12_qTakes ⟨rk, fun _ => l_X12_qTakes_15 ⟨rk, fun _ => l_X12_qTakes_38 ⟨rk, fun _ => l_X12_qTakes_55 ⟨rk, fun _ => l_X12_qTakes_75 ⟨rk, fun _ => l_X12_qTakes_90 ⟨rk, fun c => absurd c (by decide), fun _ => ?_⟩, fun c => absurd (by decide) c⟩, fun c => absurd (by decide) c⟩, fun c => absurd (by decide) c⟩, fun c => absurd (by decide) c⟩, fun c => absurd (by decide) c⟩
    have ex : nxA 5 v i A n0 = if n0 = 1 ∨ v < A then v else A := rfl
    rw [e95, e94]
    refine ⟨⟨by omega, by omega⟩, fun c => s128 (by rw [ex, if_pos (Or.inl (by omega))]), fun c => ⟨rk, fun _ => ⟨hv, hA, fun c3 => s133 (by rw [ex, if_neg (by omega)]), fun c3 => s128 (by rw [ex, if_pos (Or.inr (by omega))])⟩, fun c2 => absurd (by decide) c2⟩⟩
theorem rA_nx {W : Int → Int} {n : Nat} : rA W k (n + 1) = nxA k (W n) n (rA W k n) (if n = 0 then 1 else 0) := by
  show (if k = 0 then _ else _) = _
  unfold nxA
  by_cases z : n = 0
  · simp only [z, if_true, true_or]
  · simp only [z, if_false, false_or, show ¬ ((0 : Int) = 1) by decide]
theorem rA_b {W : Int → Int} (hk : 0 ≤ k ∧ k ≤ 5) : ∀ n : Nat, (∀ i : Nat, i < n → -1000000 ≤ W i ∧ W i ≤ 1000000) → -2000000 * (n + 1 : Int) ≤ rA W k n ∧ rA W k n ≤ 2000000 * (n + 1 : Int) := by
  intro n
  induction n with
  | zero =>
    intro _
    show -2000000 * ((0 : Nat) + 1 : Int) ≤ (if k < 2 then -1 else 0) ∧ (if k < 2 then -1 else 0) ≤ 2000000 * ((0 : Nat) + 1 : Int)
    split <;> omega
  | succ n ih =>
    intro hW
    have a := ih (fun i hi => hW i (by omega))
    have b := hW n (by omega)
    rw [rA_nx]
    unfold nxA
    split
    · split <;> omega
    split
    · split <;> omega
    split
    · split <;> omega
    split
    · omega
    split
    · split <;> omega
    · split <;> omega
abbrev aqL : List (Int × Int) := [(68, 50), (68, 93), (68, 94), (68, 95)]
abbrev aqR : List Int := 135 :: 105 :: yfR
theorem y_178 (I : Inv c h0) (S : Sl h0 h) (e104 : ∀ i : Int, 0 ≤ i → i < 109 → h 104 i = h0 104 i) {n : Nat} (hk : 0 ≤ k ∧ k ≤ 5) (hn : h 68 87 = n) (hn2 : n ≤ 1600) (W : wff f n (decide (k ≤ 2))) (fq : ∀ i : Nat, i < n → qR (f i) (h 133 i)) (V : ∀ i : Nat, i < 10 → VOK [decide (k ≤ 2)] [WQ h0 f n i]) (z94 : h 68 94 = rA (WQ h0 f n) k 0) (z95 : h 68 95 = 1)
    (kk : ∀ h1, Fr h h1 aqL aqR → K (rA (WQ h0 f n) k 10) h1) : L_X12_ask_178 w k 0 h K := by
  suffices ∀ j m : Nat, m + j = 10 → ∀ h', Fr h h' aqL aqR → h' 68 94 = rA (WQ h0 f n) k m → h' 68 95 = (if m = 0 then 1 else 0) → L_X12_ask_178 w k m h' K from this 10 0 rfl h (Fr.into Fr.refl (by decide)) z94 z95
  intro j
  induction j with
  | zero =>
    intro m e h' F e94 e95
    obtain rfl : m = 10 := e
    refine l_X12_ask_178 ⟨⟨by omega, by omega⟩, fun _ => ?_, fun c => absurd (by omega) c⟩
    rw [e94]
    exact kk h' F
  | succ j ih =>
    intro m e h' F e94 e95
    have C := I.cx (lv := m) ⟨by omega, by omega⟩
    have rr0 : h 0 4 = 6 ∨ h 0 4 = 23 := by rw [S.1]; exact I.2.1.rr
    have S' : Sl h0 h' := S.tr (Sl.of rr0 F (by decide))
    have g' : ∀ i : Int, 0 ≤ i → i < 109 → h' 104 i = h0 104 i := fun i i0 i1 => by rw [(F.cell (C := []) (W := [104]) (by decide)).2 104 (by decide)]; exact e104 i i0 i1
    refine l_X12_ask_178 ⟨⟨by omega, by omega⟩, fun c => absurd c (by omega), fun _ => y_wouldBe C S' g' (fun h5 F5 A5 V5 => ?_)⟩
    have F15 := F.trans F5
    have cl := F15.cell (C := [(68, 87)]) (W := [133]) (by decide)
    have e87 := cl.1 (68, 87) (by decide)
    have e133 := cl.2 133 (by decide)
    dsimp only at e87
    have nr := C.1.nr
    have nb := C.1.nb
    refine y_qTold (b := decide (k ≤ 2)) (kn := KQ h0 (sN (h0 104)) m (h0 104)) (ly := LQ h0 (sN (h0 104)) m (h0 104)) (ho := HQ h0 (sN (h0 104)) m (h0 104)) W (by rw [e87]; exact hn) hn2 (fun i hi => by rw [e133]; exact fq i hi) (KQ_b C) (fun j => by have := LQ_b C j; omega) (fun j => by have := HQ_b C j; omega) (fun h7 J p j F7 hp kj => ?_) (fun h7 J p a v F7 ha hp kv => ?_) (fun v h7 F7 VK ev => ?_)
    · have V7 := V5.fr F7 (by decide)
      rcases hp with ⟨rfl, rfl⟩ | ⟨rfl, rfl⟩ | ⟨rfl, rfl⟩
      · exact c_X12_qPartOf ⟨⟨by decide, by decide⟩, fun _ => ⟨⟨by omega, by omega⟩, kj⟩, fun c => absurd c (by decide), fun c => absurd rfl c.1⟩
      · have tb := tk_b C
        exact c_X12_qPartOf ⟨⟨by decide, by decide⟩, fun c => absurd c (by decide), fun _ => y_taken C V7 ⟨⟨by omega, by omega⟩, kj⟩, fun c => absurd rfl c.2⟩
      · have sb := sw_b C
        exact c_X12_qPartOf ⟨⟨by decide, by decide⟩, fun c => absurd c (by decide), fun c => absurd c (by decide), fun _ => y_sea C V7 ⟨⟨by omega, by omega⟩, kj⟩⟩
    · have V7 := V5.fr F7 (by decide)
      have S7 : Sl h0 h7 := A5.1.tr (Sl.of (by rw [A5.1.1]; exact I.2.1.rr) F7 (by decide))
      have g7 : ∀ i : Int, 0 ≤ i → i < 109 → h7 104 i = h0 104 i := fun i i0 i1 => by rw [(F7.cell (C := []) (W := [104]) (by decide)).2 104 (by decide)]; exact A5.2.2 i i0 i1
      have e36 : h7 68 36 = nrN h0 := by rw [S7.2.2.1]; exact nr.1
      have e5 : h7 93 5 = nbN h0 := by rw [S7.2.2.2.2.1 5 (by decide)]; exact nb.1
      rcases hp with ⟨rfl, rfl⟩ | ⟨rfl, rfl⟩
      · refine c_X12_qOf ⟨⟨by decide, by decide⟩, fun _ => ?_, fun c => absurd rfl c⟩
        rw [e36]
        have e : LQ h0 (sN (h0 104)) m (h0 104) a = if 0 ≤ a ∧ a < nrN h0 then lgP h0 (h0 104) a + siP h0 (sN (h0 104)) m (h0 104) a.toNat else 0 := rfl
        have lb := LQ_b C a
        refine ⟨⟨by omega, by omega⟩, ⟨by omega, by omega⟩, fun c => ?_, fun c => ⟨⟨by omega, by omega⟩, ⟨by omega, by omega⟩, fun c2 => ?_, fun c2 => ?_⟩⟩
        · rw [e, if_neg (by omega)] at kv; exact kv
        · rw [e, if_neg (by omega)] at kv; exact kv
        · have ea : ((a.toNat : Nat) : Int) = a := by omega
          have := y_wouldLie (w := w) (K := fun r7 h8 => (inR r7) ∧ (J r7 h8)) C S7 g7 V7 (x := a.toNat) (by omega)
          rw [ea] at this
          rw [e, if_pos (by omega)] at kv lb
          exact this ⟨⟨by omega, by omega⟩, kv⟩
      · refine c_X12_qOf ⟨⟨by decide, by decide⟩, fun c => absurd c (by decide), fun _ => ?_⟩
        rw [e5]
        have e : HQ h0 (sN (h0 104)) m (h0 104) a = if 0 ≤ a ∧ a < nbN h0 then h0 104 (9 + a) - cuP h0 (sN (h0 104)) m (h0 104 0) a (h0 104 (9 + a)) else 0 := rfl
        have lb := HQ_b C a
        refine ⟨⟨by omega, by omega⟩, ⟨by omega, by omega⟩, fun c => ?_, fun c => ⟨⟨by omega, by omega⟩, ⟨by omega, by omega⟩, fun c2 => ?_, fun c2 => ?_⟩⟩
        · rw [e, if_neg (by omega)] at kv; exact kv
        · rw [e, if_neg (by omega)] at kv; exact kv
        · have v6 := (V7.1 a (by omega) (by omega)).1
          rw [if_pos (by omega)] at v6
          rw [e, if_pos (by omega)] at kv lb
          rw [v6]
          exact ⟨⟨by omega, by omega⟩, ⟨by omega, by omega⟩, kv⟩
    · have ew : v = WQ h0 f n m := ev
      subst ew
      have vb := VK.bq1
      have rb := rA_b (W := WQ h0 f n) hk m (fun i hi => (V i (by omega)).bq1)
      have F57 := F5.trans F7
      have c7 := (F57.cell (C := [(68, 94), (68, 95)]) (W := []) (by decide)).1
      have c94 := c7 (68, 94) (by decide)
      have c95 := c7 (68, 95) (by decide)
      dsimp only at c94 c95
      refine y_qTakes (A := rA (WQ h0 f n) k m) (n0 := if m = 0 then 1 else 0) hk ⟨by omega, by omega⟩ ⟨by omega, by omega⟩ ⟨by omega, by omega⟩ (by rw [c94]; exact e94) (by rw [c95]; exact e95) (by split; exact Or.inr rfl; exact Or.inl rfl) (fun h9 n94 n95 F9 => ?_)
      exact ih (m + 1) (by omega) h9 (((F.trans F57).trans F9).into (by decide)) (by rw [n94, rA_nx]) (by rw [n95, if_neg (by omega)])
end L5M
