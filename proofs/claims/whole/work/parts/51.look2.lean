/-! pairs: floods that would be -/
section L2W
variable {w : Wd} {c : Int} {h h0 : Hp} {K : Int → Hp → Prop}
theorem x_imag0 (I : Inv c h) {lv : Int} (hl : 0 ≤ lv ∧ lv ≤ 9) (k : ∀ h1, Fr h h1 imL imR → AX h h1 (h 0 4) 40 lv (sN (h 104)) (h 104) → FV h (sN (h 104)) lv (h 104) h1 (nrN h) 0 → K 0 h1) : C_X11_imagine w lv h K := x_imagine (I.cx hl) Sl.rf I.2.2.2.1 I.2.2.2.2.2 k
/-- what a class's call left is as it was for the reference -/
theorem sl_im {h1 : Hp} (I : Inv c h) (F : Fr h h1 imL imR) : Sl h h1 ∧ (∀ i : Int, 0 ≤ i → i < 109 → h1 104 i = h 104 i) := ⟨Sl.of I.2.1.rr F (by decide), fun i _ _ => by rw [(F.cell (C := []) (W := [104]) (by decide)).2 104 (by decide)]⟩
theorem sl_nb {h1 : Hp} (I : Inv c h) (S : Sl h h1) : h1 93 5 = nbN h ∧ nbN h ≤ 10 ∧ h1 68 36 = nrN h ∧ nrN h ≤ 8 := by
  have n1 := I.2.1.1.nr
  have n2 := I.2.1.1.nb
  refine ⟨by rw [S.2.2.2.2.1 5 (by omega)]; exact n2.1, n2.2.1, by rw [S.2.2.1]; exact n1.1, n1.2.1⟩
/-- any call that looks, where it isn't told: nothing happens -/
theorem no_look (I : Inv c h) {C : Hp → (Int → Hp → Prop) → Prop} (k : C h (PI c (-1))) : inR (-1) ∧ C h (PI c (-1)) := ⟨⟨by decide, by decide⟩, k⟩
theorem y_wb (I : Inv c h) {h1 : Hp} (F : Fr h h1 imL imR) {lv : Int} (hl : 0 ≤ lv ∧ lv ≤ 9) (B : BD h1) (k : ∀ h2, Inv (c + 1) h2 → Sl h h2 → (∀ i : Int, 0 ≤ i → i < 109 → h2 104 i = h 104 i) → YV h (sN (h 104)) lv (h 104) h2 → K 0 h2) : C_X12_wouldBe w lv h1 K := by
  obtain ⟨S, e⟩ := sl_im I F
  exact y_wouldBe (I.cx hl) S e (fun h2 F2 A2 V2 => k h2 (fin_look I F B F2) A2.1 A2.2.2 V2)
theorem q_flow (I : Inv c h) {a b : Int} (ha : inR a) (hb : inR b) : C_X11_flow w a b h (fun z h1 => inR z ∧ C_X12_flow w a b h1 (PI c z)) := by
  have R := I.2.1.1
  have ii := I.up (c' := c + 1) (by omega)
  have n0 := sl_nb I Sl.rf
  have no : ¬ ((0 ≤ a ∧ a < nrN h) ∧ 0 ≤ b ∧ b ≤ 9) → inR (-1) ∧ C_X12_flow w a b h (PI c (-1)) := fun q => by
    refine ⟨⟨by decide, by decide⟩, c_X12_flow ?_⟩
    rw [n0.2.2.1]
    refine ⟨ha, ⟨by omega, by omega⟩, ⟨by omega, by omega⟩, fun _ => ⟨rfl, ii⟩, fun _ => ⟨⟨by omega, by omega⟩, ⟨by omega, by omega⟩, fun _ => ⟨rfl, ii⟩, fun _ => ⟨hb, ⟨by omega, by omega⟩, fun _ => ⟨rfl, ii⟩, fun _ => ⟨⟨by omega, by omega⟩, fun _ => ⟨rfl, ii⟩, fun _ => absurd ⟨⟨by omega, by omega⟩, by omega, by omega⟩ q⟩⟩⟩⟩
  refine c_X11_flow ⟨R.ob, x_hasReach R ha (fun g _ => ⟨fun c => absurd c (by decide), fun _ => ⟨hb, fun q => no (by omega), fun q => ⟨hb, fun q2 => no (by omega), fun q2 => ⟨R.ob, ?_⟩⟩⟩⟩) (fun g _ => ⟨fun _ => no (fun q => g q.1), fun c => absurd rfl c⟩)⟩
  have C := I.cx (lv := b) ⟨by omega, by omega⟩
  refine x_aim R rfl (Or.inl rfl) Sl.rf I.2.2.2.1 I.2.2.2.2.2 (fun h1 F1 A1 => ?_)
  have fl := A1.fl C (x := a) ⟨g.1, by omega⟩
  rw [A1.2.1, A1.2.2.2.1, fl.1]
  refine ⟨R.ob, ⟨g.1, by omega⟩, ⟨g.1, by omega⟩, fl.2.1, ⟨by omega, by omega⟩, c_X12_flow ?_⟩
  have F1' : Fr h h1 imL imR := F1.into rfl
  have n1 := sl_nb I A1.1
  rw [n1.2.2.1]
  refine ⟨ha, ⟨by omega, by omega⟩, ⟨by omega, by omega⟩, fun _ => by omega, fun _ => ⟨⟨by omega, by omega⟩, ⟨by omega, by omega⟩, fun _ => by omega, fun _ => ⟨hb, ⟨by omega, by omega⟩, fun _ => by omega, fun _ => ⟨⟨by omega, by omega⟩, fun _ => by omega, fun _ => y_stonesAsNow (fun h2 F2 V2 => ?_)⟩⟩⟩⟩
  have S2 : Sl h1 h2 := Sl.of (by rw [A1.1.1]; exact I.2.1.rr) F2 (by decide)
  have e104 : h2 104 = h1 104 := (F2.cell (C := []) (W := [104]) (by decide)).2 104 (by decide)
  have sl := sl_im I F1'
  have A2 : AY h h2 (sN (h 104)) (h 104) := ⟨A1.1.tr S2, fun x x0 x1 => by rw [V2 x x0 (by omega)]; exact sl.2 _ (by omega) (by omega), by rw [e104]; exact sl.2⟩
  have fy := A2.fl C (x := a) g
  have fin : PI c (flP h (sN (h 104)) b a) (flP h (sN (h 104)) b a) h2 := ⟨rfl, fin_look I F1' A1.2.2.2.2.2.2 (F2.into rfl)⟩
  refine ⟨⟨by omega, by omega⟩, ⟨g.1, by omega⟩, fy.2.1, fun q => ?_, fun q => ?_⟩
  · rw [if_pos q] at fy; rw [fy.1]; exact fin
  · rw [if_neg q] at fy; rw [fy.1]; exact fin
theorem q_cuts (I : Inv c h) {a b : Int} (ha : inR a) (hb : inR b) : C_X11_cuts w a b h (fun z h1 => inR z ∧ C_X12_cuts w a b h1 (PI c z)) := by
  have R := I.2.1.1
  have ii := I.up (c' := c + 1) (by omega)
  have n0 := sl_nb I Sl.rf
  have no : ¬ ((0 ≤ a ∧ a < nbN h) ∧ 0 ≤ b ∧ b ≤ 9) → inR (-1) ∧ C_X12_cuts w a b h (PI c (-1)) := fun q => by
    refine ⟨⟨by decide, by decide⟩, c_X12_cuts ?_⟩
    rw [n0.1]
    refine ⟨ha, ⟨by omega, by omega⟩, ⟨by omega, by omega⟩, fun _ => ⟨rfl, ii⟩, fun _ => ⟨⟨by omega, by omega⟩, ⟨by omega, by omega⟩, fun _ => ⟨rfl, ii⟩, fun _ => ⟨hb, ⟨by omega, by omega⟩, fun _ => ⟨rfl, ii⟩, fun _ => ⟨⟨by omega, by omega⟩, fun _ => ⟨rfl, ii⟩, fun _ => absurd ⟨⟨by omega, by omega⟩, by omega, by omega⟩ q⟩⟩⟩⟩
  refine c_X11_cuts ⟨R.ob, x_hasBank R ha (fun g _ => ⟨fun c => absurd c (by decide), fun _ => ⟨hb, fun q => no (by omega), fun q => ⟨hb, fun q2 => no (by omega), fun q2 => ⟨R.ob, ?_⟩⟩⟩⟩) (fun g _ => ⟨fun _ => no (fun q => g q.1), fun c => absurd rfl c⟩)⟩
  have C := I.cx (lv := b) ⟨by omega, by omega⟩
  refine x_aim R rfl (Or.inl rfl) Sl.rf I.2.2.2.1 I.2.2.2.2.2 (fun h9 F9 A9 => x_cutOf C (Or.inl rfl) A9 g (fun h1 F1 A1 => ?_))
  have F1' : Fr h h1 imL imR := (F9.trans F1).into rfl
  have cb := (cr_b C (b := a) ⟨g.1, by omega⟩ 0)
  refine ⟨⟨by omega, by omega⟩, c_X12_cuts ?_⟩
  rw [(sl_nb I A1.1).1]
  refine ⟨ha, ⟨by omega, by omega⟩, ⟨by omega, by omega⟩, fun _ => by omega, fun _ => ⟨⟨by omega, by omega⟩, ⟨by omega, by omega⟩, fun _ => by omega, fun _ => ⟨hb, ⟨by omega, by omega⟩, fun _ => by omega, fun _ => ⟨⟨by omega, by omega⟩, fun _ => by omega, fun _ => y_wb I F1' ⟨by omega, by omega⟩ A1.2.2.2.2.2.2 (fun h2 I2 S2 e2 V2 => ⟨⟨by omega, by omega⟩, ?_, I2⟩)⟩⟩⟩⟩
  rw [(V2.1 a g.1 (by omega)).2.1, if_pos g.2]
theorem q_settles (I : Inv c h) {a b d : Int} (ha : inR a) (hb : inR b) (hd : inR d) : C_X11_settles w a b d h (fun z h1 => inR z ∧ C_X12_settles w a b d h1 (PI c z)) := by
  have R := I.2.1.1
  have ii := I.up (c' := c + 1) (by omega)
  have n0 := sl_nb I Sl.rf
  have no : ¬ ((0 ≤ a ∧ a < nrN h) ∧ (0 ≤ b ∧ b < nbN h) ∧ 0 ≤ d ∧ d ≤ 9) → inR (-1) ∧ C_X12_settles w a b d h (PI c (-1)) := fun q => by
    refine ⟨⟨by decide, by decide⟩, c_X12_settles ?_⟩
    rw [n0.1, n0.2.2.1]
    refine ⟨ha, ⟨by omega, by omega⟩, ⟨by omega, by omega⟩, fun _ => ⟨rfl, ii⟩, fun _ => ⟨⟨by omega, by omega⟩, ⟨by omega, by omega⟩, fun _ => ⟨rfl, ii⟩, fun _ => ⟨hb, ⟨by omega, by omega⟩, ⟨by omega, by omega⟩, fun _ => ⟨rfl, ii⟩, fun _ => ⟨⟨by omega, by omega⟩, ⟨by omega, by omega⟩, fun _ => ⟨rfl, ii⟩, fun _ => ⟨hd, ⟨by omega, by omega⟩, fun _ => ⟨rfl, ii⟩, fun _ => ⟨⟨by omega, by omega⟩, fun _ => ⟨rfl, ii⟩, fun _ => absurd ⟨⟨by omega, by omega⟩, ⟨by omega, by omega⟩, by omega, by omega⟩ q⟩⟩⟩⟩⟩⟩
  refine c_X11_settles ⟨R.ob, x_hasReach R ha (fun g _ => ⟨fun c => absurd c (by decide), fun _ => ⟨R.ob, x_hasBank R hb (fun g2 _ => ⟨fun c => absurd c (by decide), fun _ => ⟨hd, fun q => no (by omega), fun q => ⟨hd, fun q2 => no (by omega), fun q2 => ?_⟩⟩⟩) (fun g2 _ => ⟨fun _ => no (fun q => g2 q.2.1), fun c => absurd rfl c⟩)⟩⟩) (fun g _ => ⟨fun _ => no (fun q => g q.1), fun c => absurd rfl c⟩)⟩
  have C := I.cx (lv := d) ⟨by omega, by omega⟩
  refine x_imag0 I ⟨by omega, by omega⟩ (fun h1 F1 A1 V1 => ⟨⟨by omega, by omega⟩, ?_⟩)
  have cb := (cr_b C (b := b) ⟨g2.1, by omega⟩ a.toNat)
  have v := (V1.1 a.toNat b g2.1 g2.2 (Or.inl (by omega))).1
  rw [show ((a.toNat : Nat) : Int) = a by omega] at v
  rw [v]
  refine ⟨⟨by omega, by omega⟩, c_X12_settles ?_⟩
  rw [(sl_nb I A1.1).1, (sl_nb I A1.1).2.2.1]
  refine ⟨ha, ⟨by omega, by omega⟩, ⟨by omega, by omega⟩, fun _ => by omega, fun _ => ⟨⟨by omega, by omega⟩, ⟨by omega, by omega⟩, fun _ => by omega, fun _ => ⟨hb, ⟨by omega, by omega⟩, ⟨by omega, by omega⟩, fun _ => by omega, fun _ => ⟨⟨by omega, by omega⟩, ⟨by omega, by omega⟩, fun _ => by omega, fun _ => ⟨hd, ⟨by omega, by omega⟩, fun _ => by omega, fun _ => ⟨⟨by omega, by omega⟩, fun _ => by omega, fun _ => y_wb I F1 ⟨by omega, by omega⟩ A1.2.2.2.2.2.2 (fun h2 I2 S2 e2 V2 => ⟨⟨by omega, by omega⟩, ?_, I2⟩)⟩⟩⟩⟩⟩⟩
  have v2 := (V2.2 a.toNat b (by omega) g2.1 (by omega)).1
  rw [show ((a.toNat : Nat) : Int) = a by omega, if_pos ⟨by omega, g2.2⟩] at v2
  exact v2
theorem q_carries (I : Inv c h) {a b d : Int} (ha : inR a) (hb : inR b) (hd : inR d) : C_X11_carries w a b d h (fun z h1 => inR z ∧ C_X12_carries w a b d h1 (PI c z)) := by
  have R := I.2.1.1
  have ii := I.up (c' := c + 1) (by omega)
  have n0 := sl_nb I Sl.rf
  have no : ¬ ((0 ≤ a ∧ a < nrN h) ∧ (0 ≤ b ∧ b < nbN h) ∧ 0 ≤ d ∧ d ≤ 9) → inR (-1) ∧ C_X12_carries w a b d h (PI c (-1)) := fun q => by
    refine ⟨⟨by decide, by decide⟩, c_X12_carries ?_⟩
    rw [n0.1, n0.2.2.1]
    refine ⟨ha, ⟨by omega, by omega⟩, ⟨by omega, by omega⟩, fun _ => ⟨rfl, ii⟩, fun _ => ⟨⟨by omega, by omega⟩, ⟨by omega, by omega⟩, fun _ => ⟨rfl, ii⟩, fun _ => ⟨hb, ⟨by omega, by omega⟩, ⟨by omega, by omega⟩, fun _ => ⟨rfl, ii⟩, fun _ => ⟨⟨by omega, by omega⟩, ⟨by omega, by omega⟩, fun _ => ⟨rfl, ii⟩, fun _ => ⟨hd, ⟨by omega, by omega⟩, fun _ => ⟨rfl, ii⟩, fun _ => ⟨⟨by omega, by omega⟩, fun _ => ⟨rfl, ii⟩, fun _ => absurd ⟨⟨by omega, by omega⟩, ⟨by omega, by omega⟩, by omega, by omega⟩ q⟩⟩⟩⟩⟩⟩
  refine c_X11_carries ⟨R.ob, x_hasReach R ha (fun g _ => ⟨fun c => absurd c (by decide), fun _ => ⟨R.ob, x_hasBank R hb (fun g2 _ => ⟨fun c => absurd c (by decide), fun _ => ⟨hd, fun q => no (by omega), fun q => ⟨hd, fun q2 => no (by omega), fun q2 => ?_⟩⟩⟩) (fun g2 _ => ⟨fun _ => no (fun q => g2 q.2.1), fun c => absurd rfl c⟩)⟩⟩) (fun g _ => ⟨fun _ => no (fun q => g q.1), fun c => absurd rfl c⟩)⟩
  have C := I.cx (lv := d) ⟨by omega, by omega⟩
  refine x_imag0 I ⟨by omega, by omega⟩ (fun h1 F1 A1 V1 => ⟨⟨by omega, by omega⟩, ?_⟩)
  have cb := (cr_b C (b := b) ⟨g2.1, by omega⟩ (a.toNat + 1))
  have v := (V1.1 a.toNat b g2.1 g2.2 (Or.inl (by omega))).2
  rw [show ((a.toNat : Nat) : Int) = a by omega] at v
  rw [v]
  refine ⟨⟨by omega, by omega⟩, c_X12_carries ?_⟩
  rw [(sl_nb I A1.1).1, (sl_nb I A1.1).2.2.1]
  refine ⟨ha, ⟨by omega, by omega⟩, ⟨by omega, by omega⟩, fun _ => by omega, fun _ => ⟨⟨by omega, by omega⟩, ⟨by omega, by omega⟩, fun _ => by omega, fun _ => ⟨hb, ⟨by omega, by omega⟩, ⟨by omega, by omega⟩, fun _ => by omega, fun _ => ⟨⟨by omega, by omega⟩, ⟨by omega, by omega⟩, fun _ => by omega, fun _ => ⟨hd, ⟨by omega, by omega⟩, fun _ => by omega, fun _ => ⟨⟨by omega, by omega⟩, fun _ => by omega, fun _ => y_wb I F1 ⟨by omega, by omega⟩ A1.2.2.2.2.2.2 (fun h2 I2 S2 e2 V2 => ⟨⟨by omega, by omega⟩, ?_, I2⟩)⟩⟩⟩⟩⟩⟩
  have v2 := (V2.2 a.toNat b (by omega) g2.1 (by omega)).2 (by omega) g2.2
  rw [show ((a.toNat : Nat) : Int) = a by omega] at v2
  exact v2
theorem y_would0 (I : Inv c h) {h1 : Hp} {a b : Int} (ha : inR a) (hb : inR b) (S : Sl h h1) (q : ¬ (0 < nrN h ∧ (0 ≤ a ∧ a ≤ 9) ∧ 0 ≤ b ∧ b ≤ 3)) (k : K (-1) h1) : C_X12_would w a b h1 K := by
  have n0 := sl_nb I S
  refine c_X12_would ?_
  rw [n0.2.2.1]
  exact ⟨⟨by omega, by omega⟩, fun _ => k, fun _ => ⟨ha, ⟨by omega, by omega⟩, fun _ => k, fun _ => ⟨⟨by omega, by omega⟩, fun _ => k, fun _ => ⟨hb, ⟨by omega, by omega⟩, fun _ => k, fun _ => ⟨⟨by omega, by omega⟩, fun _ => k, fun _ => absurd ⟨by omega, ⟨by omega, by omega⟩, by omega, by omega⟩ q⟩⟩⟩⟩⟩
theorem q_would (I : Inv c h) {a b : Int} (ha : inR a) (hb : inR b) : C_X11_would w a b h (fun z h1 => inR z ∧ C_X12_would w a b h1 (PI c z)) := by
  have R := I.2.1.1
  have nr := R.nr
  have ii := I.up (c' := c + 1) (by omega)
  have no : ¬ (0 < nrN h ∧ (0 ≤ a ∧ a ≤ 9) ∧ 0 ≤ b ∧ b ≤ 3) → inR (-1) ∧ C_X12_would w a b h (PI c (-1)) := fun q => ⟨⟨by decide, by decide⟩, y_would0 I ha hb Sl.rf q ⟨rfl, ii⟩⟩
  refine c_X11_would ?_
  rw [nr.2.2.1]
  refine ⟨R.ob, ⟨by omega, by omega⟩, fun _ => no (by omega), fun q0 => ⟨ha, fun _ => no (by omega), fun q1 => ⟨ha, fun _ => no (by omega), fun q2 => ?_⟩⟩⟩
  have C := I.cx (lv := a) ⟨by omega, by omega⟩
  refine x_imag0 I ⟨by omega, by omega⟩ (fun h1 F1 A1 V1 => ?_)
  have n1 := sl_nb I A1.1
  have go : ∀ z, inR z → (0 ≤ b ∧ b ≤ 3) → (∀ h2, Inv (c + 1) h2 → Sl h h2 → YV h (sN (h 104)) a (h 104) h2 → inR b ∧ ((b ≠ 0) → ((inR b) ∧ (((b ≠ 1) → ((inR b) ∧ (((b ≠ 2) → (C_X12_mostSettled w h2 (PI c z))) ∧ (¬ (b ≠ 2) → (C_X12_sumOf w 111 h2 (PI c z)))))) ∧ (¬ (b ≠ 1) → (C_X12_settledAll w h2 (PI c z)))))) ∧ (¬ (b ≠ 0) → (C_X12_sumOf w 107 h2 (PI c z)))) → inR z ∧ C_X12_would w a b h1 (PI c z) := by
    intro z hz hb2 k
    refine ⟨hz, c_X12_would ?_⟩
    rw [n1.2.2.1]
    exact ⟨⟨by omega, by omega⟩, fun _ => by omega, fun _ => ⟨ha, ⟨by omega, by omega⟩, fun _ => by omega, fun _ => ⟨⟨by omega, by omega⟩, fun _ => by omega, fun _ => ⟨hb, ⟨by omega, by omega⟩, fun _ => by omega, fun _ => ⟨⟨by omega, by omega⟩, fun _ => by omega, fun _ => y_wb I F1 ⟨by omega, by omega⟩ A1.2.2.2.2.2.2 (fun h2 I2 S2 _ V2 => k h2 I2 S2 V2)⟩⟩⟩⟩⟩
  refine ⟨hb, fun e => ?_, fun e => ?_, fun e => ?_, fun e => ?_, fun e => ?_⟩
  · have b1 := tk_b C
    exact x_taken C A1 V1 (go _ ⟨by omega, by omega⟩ (by omega) (fun h2 I2 S2 V2 => ⟨hb, fun q => absurd e q, fun _ => y_taken C V2 ⟨rfl, I2⟩⟩))
  · have b1 := sa_b C
    exact x_settledGrains C A1.al V1 (go _ ⟨by omega, by omega⟩ (by omega) (fun h2 I2 S2 V2 => ⟨hb, fun q => ⟨hb, fun q3 => absurd e q3, fun _ => y_settledAll C S2 V2 ⟨rfl, I2⟩⟩, fun q => by omega⟩))
  · have b1 := sw_b C
    exact x_toSea C A1 V1 (go _ ⟨by omega, by omega⟩ (by omega) (fun h2 I2 S2 V2 => ⟨hb, fun q => ⟨hb, fun q3 => ⟨hb, fun q4 => absurd e q4, fun _ => y_sea C V2 ⟨rfl, I2⟩⟩, fun q3 => by omega⟩, fun q => by omega⟩))
  · have b1 := ms_b C (nrN h)
    exact x_mostSettled C A1 V1 (go _ ⟨by omega, by omega⟩ (by omega) (fun h2 I2 S2 V2 => ⟨hb, fun q => ⟨hb, fun q3 => ⟨hb, fun q4 => y_mostSettled C S2 V2 ⟨rfl, I2⟩, fun q4 => by omega⟩, fun q3 => by omega⟩, fun q => by omega⟩))
  · exact ⟨⟨by decide, by decide⟩, y_would0 I ha hb A1.1 (by omega) ⟨rfl, fin_look I F1 A1.2.2.2.2.2.2 (Fr.into Fr.refl rfl)⟩⟩
end L2W
