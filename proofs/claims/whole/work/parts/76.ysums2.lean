/-! words exclude one another -/
def wdx (a b : Int) : Bool := decide (slen a ≠ slen b) || (List.range (slen a).toNat).any (fun i => decide (sch a i ≠ sch b i))
abbrev wOK (a : Int) : Prop := 0 < slen a ∧ slen a ≤ 100 ∧ ∀ i : Nat, i < (slen a).toNat → isLt (sch a i)
theorem wI.lt {t : Int → Int} {L q : Nat} {a : Int} (W : wI t L q a) (h : wOK a) : isLt (byL t L q) := by
  have := W.2.1 0 (by have := h.1; omega)
  have l := h.2.2 0 (by have := h.1; omega)
  unfold byL
  rw [if_pos (by have := W.1; have := h.1; omega)]
  rw [Nat.add_zero] at this
  rw [this]
  exact l
theorem wI.le {t : Int → Int} {L q : Nat} {a b : Int} (A : wI t L q a) (B : wI t L q b) (hb : wOK b) : ¬ slen a < slen b := fun g => by
  have a0 : 0 ≤ slen a := by unfold slen; omega
  have e := B.2.1 (slen a).toNat (by omega)
  have l := hb.2.2 (slen a).toNat (by omega)
  have x := A.2.2.1
  unfold byL at x
  rw [if_pos (by have := B.1; omega), e] at x
  exact x l
theorem wI.one {t : Int → Int} {L q : Nat} {a b : Int} (A : wI t L q a) (B : wI t L q b) (ha : wOK a) (hb : wOK b) : wdx a b = false := by
  have l1 := A.le B hb
  have l2 := B.le A ha
  have e : slen a = slen b := by omega
  unfold wdx
  rw [Bool.or_eq_false_iff]
  refine ⟨by simp [e], ?_⟩
  rw [List.any_eq_false]
  intro i hi
  have hi := List.mem_range.mp hi
  have x := A.2.1 i hi
  have y := B.2.1 i (by rw [← e]; exact hi)
  rw [x] at y
  simp [y]
abbrev wds : List Int := [1011, 1012, 1013, 1017, 1009, 1018, 1019, 1020, 1021]
theorem wds_ok : ∀ a ∈ wds, wOK a := by decide +kernel
theorem wds_x : ∀ a ∈ wds, ∀ b ∈ wds, wdx a b = false → a = b := by decide +kernel
theorem wI.eq {t : Int → Int} {L q : Nat} {a b : Int} (A : wI t L q a) (B : wI t L q b) (ha : a ∈ wds) (hb : b ∈ wds) : a = b := wds_x a ha b hb (A.one B (wds_ok a ha) (wds_ok b hb))
def wr (a row : Int) : Prop := Ar 3 (slen a).toNat row ∧ wOK a ∧ ∀ i : Nat, i < (slen a).toNat → cw row i = sch a i
theorem wr_11 : wr 1011 91 := ⟨⟨by decide, by decide +kernel⟩, by decide +kernel, by decide +kernel⟩
theorem wr_12 : wr 1012 92 := ⟨⟨by decide, by decide +kernel⟩, by decide +kernel, by decide +kernel⟩
theorem wr_13 : wr 1013 85 := ⟨⟨by decide, by decide +kernel⟩, by decide +kernel, by decide +kernel⟩
theorem wr_17 : wr 1017 86 := ⟨⟨by decide, by decide +kernel⟩, by decide +kernel, by decide +kernel⟩
theorem wr_9 : wr 1009 79 := ⟨⟨by decide, by decide +kernel⟩, by decide +kernel, by decide +kernel⟩
theorem wr_18 : wr 1018 87 := ⟨⟨by decide, by decide +kernel⟩, by decide +kernel, by decide +kernel⟩
theorem wr_19 : wr 1019 88 := ⟨⟨by decide, by decide +kernel⟩, by decide +kernel, by decide +kernel⟩
theorem wr_20 : wr 1020 89 := ⟨⟨by decide, by decide +kernel⟩, by decide +kernel, by decide +kernel⟩
theorem wr_21 : wr 1021 90 := ⟨⟨by decide, by decide +kernel⟩, by decide +kernel, by decide +kernel⟩
/-! numbers: one reading only -/
theorem NV.one {t : Int → Int} {L q n n' : Nat} {lo hi v v' : Int} (A : NV t L q lo hi v n) (B : NV t L q lo hi v' n') : v = v' ∧ n = n' := by
  obtain ⟨-, a1, a2, a3, a4, a5, a6, -⟩ := A
  obtain ⟨-, b1, b2, b3, b4, b5, b6, -⟩ := B
  have e : n = n' := by
    rcases Nat.lt_trichotomy n n' with g | g | g
    · exfalso; apply a5; unfold byL; rw [if_pos (by omega)]; exact b4 n g
    · exact g
    · exfalso; apply b5; unfold byL; rw [if_pos (by omega)]; exact a4 n' g
  subst e
  exact ⟨a6.trans b6.symm, rfl⟩
theorem NV.no {t : Int → Int} {L q n : Nat} {lo hi v kd pl : Int} (A : NV t L q lo hi v n) (B : NF t L q lo hi kd pl) : False := by
  obtain ⟨g, a1, a2, a3, a4, a5, a6, a7, a8⟩ := A
  rcases B with ⟨-, -, b⟩ | ⟨-, -, -, b⟩ | ⟨-, -, -, n', b1, b2, b3, b4, b5, b6⟩
  · rcases b with b | b
    · apply b; unfold byL; rw [if_pos (by omega)]; exact a4 0 (by omega)
    · exact g b
  · apply a5; unfold byL; rw [if_pos (b n (by omega)).1]; exact (b n (by omega)).2
  · have e : n = n' := by
      rcases Nat.lt_trichotomy n n' with g | g | g
      · exfalso; apply a5; unfold byL; rw [if_pos (by omega)]; exact b4 n g
      · exact g
      · exfalso; apply b5; unfold byL; rw [if_pos (by omega)]; exact a4 n' g
    subst e
    exact b6 ⟨by omega, by omega⟩
theorem NF.one {t : Int → Int} {L q : Nat} {lo hi kd pl kd' pl' : Int} (A : NF t L q lo hi kd pl) (B : NF t L q lo hi kd' pl') : kd = kd' ∧ pl = pl' := by
  have dg : ∀ n : Nat, 1 ≤ n → q + n ≤ L → (∀ i : Nat, i < n → isDg (t (q + i : Nat))) → isDg (byL t L q) := fun n n1 l d => by
    unfold byL; rw [if_pos (by omega)]; exact d 0 (by omega)
  have five : (∀ i : Nat, i < 5 → q + i < L ∧ isDg (t (q + i : Nat))) → ∀ n : Nat, n ≤ 4 → ¬ isDg (byL t L (q + n)) → False := fun b n n4 no => by
    apply no; unfold byL; rw [if_pos (b n (by omega)).1]; exact (b n (by omega)).2
  rcases A with ⟨a1, a2, a⟩ | ⟨a1, a2, ag, a⟩ | ⟨a1, a2, ag, n, a3, a4, a5, a6, a7, a8⟩
  · rcases B with ⟨b1, b2, b⟩ | ⟨b1, b2, bg, b⟩ | ⟨b1, b2, bg, n', b3, b4, b5, b6, b7, b8⟩
    · exact ⟨by omega, by omega⟩
    · exact absurd (dg 5 (by omega) (by have := (b 4 (by omega)).1; omega) (fun i hi => (b i hi).2)) (fun x => a.elim (fun y => y x) bg)
    · exact absurd (dg n' b3 b5 b6) (fun x => a.elim (fun y => y x) bg)
  · rcases B with ⟨b1, b2, b⟩ | ⟨b1, b2, bg, b⟩ | ⟨b1, b2, bg, n', b3, b4, b5, b6, b7, b8⟩
    · exact absurd (dg 5 (by omega) (by have := (a 4 (by omega)).1; omega) (fun i hi => (a i hi).2)) (fun x => b.elim (fun y => y x) ag)
    · exact ⟨by omega, by omega⟩
    · exact (five a n' b4 b7).elim
  · rcases B with ⟨b1, b2, b⟩ | ⟨b1, b2, bg, b⟩ | ⟨b1, b2, bg, n', b3, b4, b5, b6, b7, b8⟩
    · exact absurd (dg n a3 a5 a6) (fun x => b.elim (fun y => y x) ag)
    · exact (five b n a4 a7).elim
    · exact ⟨by omega, by omega⟩
section L3G
variable {w : Wd} {h h0 h1 h2 : Hp} {K : Int → Hp → Prop} {t : Int → Int} {L p c0 a a1 o : Nat} {W C : List Int}
theorem y_wd {x row : Int} (H : wr x row) (Y : YS t L h p) (k1 : wI t L (sk t L p) x → ∀ h1, Fr h h1 tyL [] → YS t L h1 (sk t L p + (slen x).toNat) → K 1 h1) (k0 : ¬ wI t L (sk t L p) x → ∀ h1, Fr h h1 tyL [] → YS t L h1 (sk t L p) → K 0 h1) : C_X12_takes w row h K :=
  y_takes H.1 (by have := H.2.1.1; have := H.2.1.2.1; omega) (fun i hi => ⟨H.2.2 i hi, H.2.1.2.2 i hi⟩) Y k1 k0
theorem y_wdHere {x row : Int} (H : wr x row) (Y : YS t L h p) (k1 : wI t L (sk t L p) x → ∀ h1, Fr h h1 tyL [] → YS t L h1 (sk t L p) → K 1 h1) (k0 : ¬ wI t L (sk t L p) x → ∀ h1, Fr h h1 tyL [] → YS t L h1 (sk t L p) → K 0 h1) : C_X12_isHere w row h K :=
  y_isHere H.1 (by have := H.2.1.1; have := H.2.1.2.1; omega) (fun i hi => ⟨H.2.2 i hi, H.2.1.2.2 i hi⟩) Y k1 k0
theorem y_wdAsks {x row : Int} (H : wr x row) (Y : YS t L h p) (k1 : wI t L (sk t L p) x → ∀ h1, Fr h h1 tyL [] → YS t L h1 (sk t L p + (slen x).toNat) → K 0 h1) (k0 : ¬ wI t L (sk t L p) x → ∀ h1, Fr h h1 tyL [] → YB t L h1 1 (sk t L p) → K 0 h1) : C_X12_asks w row h K :=
  y_asks H.1 (by have := H.2.1.1; have := H.2.1.2.1; omega) (fun i hi => ⟨H.2.2 i hi, H.2.1.2.2 i hi⟩) Y k1 k0
/-- one byte on, no letter and no digit -/
theorem RC.step {c : Int} (R : RC t L c0 a o W C h) (b : byL t L a = c) (hc : 0 ≤ c) (nl : ¬ isLt c ∧ ¬ isDg c) (q : h1 = hu h 68 2 ((h 68 2) + 1)) : RC t L c0 (a + 1) o W C h1 ∧ Fr h h1 tyL [] := by
  have lt : a < L := by
    unfold byL at b
    by_cases d : a < L
    · exact d
    · rw [if_neg d] at b; omega
  have ev : byL t L a = t a := if_pos lt
  have F : Fr h h1 [(68, 2)] [] := by rw [q]; exact Fr.cel
  have Ft : Fr h h1 tyL [] := F.into (by decide)
  have c4 := (F.cell (C := [(68, 4), (68, 5)]) (W := []) (by decide)).1 (68, 4) (by decide)
  have c5 := (F.cell (C := [(68, 4), (68, 5)]) (W := []) (by decide)).1 (68, 5) (by decide)
  dsimp only at c4 c5
  obtain ⟨T3, e3, hp3, e5, E3, e4⟩ := R.1
  refine ⟨R.ty Ft ⟨T3.fr F (by decide), by rw [q, hu_if, if_pos rfl, e3]; omega, lt, by rw [c5]; exact e5, ?_, by rw [c4]; exact e4⟩, Ft⟩
  rw [c4]
  refine ⟨by have := E3.1; omega, ⟨fun x => by have := E3.1; omega, fun x => ?_⟩⟩
  have := x.2
  rw [show a + 1 - 1 = a by omega, ← ev, b] at this
  exact absurd this (fun y => y.elim nl.1 nl.2)
abbrev KG (w : Wd) (K : Int → Hp → Prop) : Int → Hp → Prop := fun r9 h10 => (r9 = 0 ∨ r9 = 1) → ((r9 = 0) → (L_X12_sumsTold_15 w 0 0 h10 K)) ∧ (¬ (r9 = 0) → (L_X12_sumsTold_15 w 0 1 h10 K))
abbrev KP (w : Wd) (K : Int → Hp → Prop) : Int → Hp → Prop := fun _ h6 => (inR (h6 68 5)) ∧ ((((h6 68 5) ≠ 0) → (L_X12_sumsTold_15 w 0 0 h6 K)) ∧ (¬ ((h6 68 5) ≠ 0) → (C_X12_goesOn w h6 (KG w K))))
abbrev BG (w : Wd) (K : Int → Hp → Prop) (h : Hp) : Prop := L_X12_onePart_2 w 1 h (KP w K)
abbrev AF (w : Wd) (K : Int → Hp → Prop) (h : Hp) : Prop := L_X12_goesOn_0 w h (KG w K)
theorem YB.nz {kd pl : Int} (B : YB t L h kd pl) : inR (h 68 5) ∧ h 68 5 ≠ 0 := by
  have := B.2.1; have := B.2.2.2
  rw [B.2.1]
  exact ⟨⟨by omega, by omega⟩, by omega⟩
theorem YS.z (Y : YS t L h a) : inR (h 68 5) ∧ h 68 5 = 0 := by
  rw [Y.2.2.2.1]; exact ⟨⟨by decide, by decide⟩, rfl⟩
theorem dd_53 {kd pl : Int} (B : YB t L h kd pl) (k : K 0 (hu h 68 48 0)) : L_X12_sumsTold_53 w 0 h K :=
  l_X12_sumsTold_53 ⟨B.nz.1, fun _ h17 q => by subst q; exact k, fun c => absurd B.nz.2 c⟩
theorem dd_15 {kd pl v : Int} (hv : v = 0 ∨ v = 1) (B : YB t L h kd pl) (k : K 0 (hu h 68 48 0)) : L_X12_sumsTold_15 w 0 v h K :=
  l_X12_sumsTold_15 ⟨by rcases hv with rfl | rfl <;> exact ⟨by decide, by decide⟩, fun _ => dd_53 B k, fun _ => ⟨B.nz.1, fun _ => dd_53 B k, fun c => absurd B.nz.2 c⟩⟩
theorem dd_KG {kd pl r : Int} (B : YB t L h kd pl) (k : K 0 (hu h 68 48 0)) : KG w K r h := fun _ => ⟨fun _ => dd_15 (Or.inl rfl) B k, fun _ => dd_15 (Or.inr rfl) B k⟩
theorem dd_KP {kd pl r : Int} (B : YB t L h kd pl) (k : K 0 (hu h 68 48 0)) : KP w K r h := ⟨B.nz.1, fun _ => dd_15 (Or.inl rfl) B k, fun c => absurd B.nz.2 c⟩
theorem dd_143 {kd pl v : Int} (hv : v = 0 ∨ v = 1) (B : YB t L h kd pl) (k : K 0 (hu h 68 48 0)) : L_X12_onePart_143 w v h (KP w K) := by
  have e : L_X12_onePart_146 w h (KP w K) := l_X12_onePart_146 ⟨B.nz.1, fun c => absurd c B.nz.2, fun _ => dd_KP B k⟩
  exact l_X12_onePart_143 (l_X12_onePart_2 ⟨by rcases hv with rfl | rfl <;> exact ⟨by decide, by decide⟩, fun _ => e, fun _ => ⟨B.nz.1, fun _ => e, fun c => absurd B.nz.2 c⟩⟩)
theorem AF.of {r : Int} (Y : YS t L h a) (k : AF w K h) : KP w K r h := ⟨Y.z.1, fun c => absurd Y.z.2 c, fun _ => c_X12_goesOn k⟩
theorem BG.of (Y : YS t L h a) (k : BG w K h) : KG w K 1 h := fun _ => ⟨fun c => absurd c (by decide), fun _ => l_X12_sumsTold_15 ⟨⟨by decide, by decide⟩, fun c => absurd c (by decide), fun _ => ⟨Y.z.1, fun c => absurd Y.z.2 c, fun _ => c_X12_onePart k⟩⟩⟩
theorem y_codeB {kd pl v : Int} {n : Nat} (B : YB t L h kd pl) (e : h 68 44 = n) (hc : c0 ≤ n ∧ n < 1600) (k : ∀ h1, YB t L h1 kd pl → SQ c0 h h1 → K 0 h1) : C_X12_code w v h K := by
  refine c_X12_code ?_
  rw [e]
  refine ⟨⟨by omega, by omega⟩, fun h2 q2 h4 q4 => ?_⟩
  have e68 : ∀ i : Int, i ≠ 44 → h4 68 i = h 68 i := fun i n => by rw [q4, hu_if, if_neg n, hu_row q2 (by decide)]
  have e100 : ∀ i : Int, i ≠ n → h4 100 i = h 100 i := fun i m => by rw [hu_row q4 (by decide), q2, hu_if, if_neg (by omega)]
  have er : ∀ o : Int, o ≠ 68 → o ≠ 100 → h4 o = h o := fun o n1 n2 => (hu_row q4 n1).trans (hu_row q2 n2)
  obtain ⟨T, b1, b2, b3, b4, b5, b6⟩ := B
  refine k h4 ⟨?_, by rw [e68 _ (by decide)]; exact b1, by rw [e68 _ (by decide)]; exact b2, b3, b4, by rw [e68 _ (by decide)]; exact b5, by rw [e68 _ (by decide)]; exact b6⟩ (fun o i m1 m2 m3 => ?_)
  · unfold TQ at T ⊢
    rw [e68 _ (by decide), e68 _ (by decide), e68 _ (by decide), er 69 (by decide) (by decide)]; exact T
  · by_cases d : o = 68
    · subst d
      exact e68 i (fun q => m2 ⟨rfl, by omega⟩)
    · by_cases d2 : o = 100
      · subst d2
        exact e100 i (fun q => m3 ⟨rfl, by omega, by omega⟩)
      · rw [er o d d2]
/-- a part begins: a bracket, min or max, or one word or number -/
theorem y_bgn (R : RC t L c0 a o W C h) (c40 : byL t L (sk t L a) = 40 → ∀ h1, RC t L c0 (sk t L a) o W C h1 → SQ c0 h h1 → C_X12_opens w 20 (h1 68 2) h1 (fun _ h16 => ∀ h18 : Hp, h18 = hu h16 68 2 ((h16 68 2) + 1) → L_X12_onePart_143 w 1 h18 (KP w K)))
    (cm : byL t L (sk t L a) ≠ 40 → (wI t L (sk t L a) 1011 ∨ wI t L (sk t L a) 1012) → ∀ h1, RC t L c0 (sk t L a) o W C h1 → SQ c0 h h1 → L_X12_onePart_69 w 1 h1 (KP w K))
    (cl : byL t L (sk t L a) ≠ 40 → ¬ wI t L (sk t L a) 1011 → ¬ wI t L (sk t L a) 1012 → ∀ h1, RC t L c0 (sk t L a) o W C h1 → SQ c0 h h1 → L_X12_onePart_146 w h1 (KP w K)) : BG w K h := by
  refine l_X12_onePart_2 ⟨⟨by decide, by decide⟩, fun c => absurd c (by decide), fun _ => ⟨R.1.z.1, fun c => absurd R.1.z.2 c, fun _ => R.1.look (fun h4 F4' Y4 => ?_)⟩⟩
  have F4 : Fr h h4 tyL [] := F4'.into (by decide)
  have b := byL_q Y4.1 (sk t L a)
  have R4 := R.ty F4 Y4
  refine ⟨⟨by omega, by omega⟩, fun c => ?_, fun c => c40 (Decidable.not_not.mp c) h4 R4 (SQ.ty F4)⟩
  refine y_wdHere wr_11 Y4 (fun w8 h8 F8 Y8 _ => ⟨fun _ => ?_, fun c2 => absurd (by decide) c2⟩) (fun w8 h8 F8 Y8 _ => ⟨fun c2 => absurd rfl c2, fun _ => ?_⟩)
  · rw [sk_sk] at w8 Y8
    exact cm c (Or.inl w8) h8 (R4.ty F8 Y8) ((SQ.ty F4).tr (SQ.ty F8))
  rw [sk_sk] at w8 Y8
  refine y_wdHere wr_12 Y8 (fun w9 h9 F9 Y9 _ => ⟨fun c2 => absurd c2 (by decide), fun _ => ?_⟩) (fun w9 h9 F9 Y9 _ => ⟨fun _ => ?_, fun c2 => absurd rfl c2⟩)
  · rw [sk_sk] at w9 Y9
    exact cm c (Or.inr w9) h9 ((R4.ty F8 Y8).ty F9 Y9) (((SQ.ty F4).tr (SQ.ty F8)).tr (SQ.ty F9))
  · rw [sk_sk] at w9 Y9
    exact l_X12_onePart_143 (l_X12_onePart_2 ⟨⟨by decide, by decide⟩, fun _ => cl c w8 w9 h9 ((R4.ty F8 Y8).ty F9 Y9) (((SQ.ty F4).tr (SQ.ty F8)).tr (SQ.ty F9)), fun c2 => absurd rfl c2⟩)
def LF (t : Int → Int) (L q : Nat) (v : Int) (n : Nat) : Prop := (∃ x ∈ lfW 0, wI t L q x.1 ∧ v = cdI x.2 ∧ n = (slen x.1).toNat) ∨ ((∀ x ∈ lfW 0, ¬ wI t L q x.1) ∧ ∃ v', NV t L q 0 9999 v' n ∧ v = 1000 + v')
theorem y_leaf (R : RC t L c0 a o W C h) (hs : sk t L a = a) (hb : c0 + C.length < 1600) (k : ∀ v n, LF t L a v n → ∀ h1, RC t L c0 (a + n) o W (C ++ [v]) h1 → SQ c0 h h1 → K 0 h1) (kf : ∀ kd pl, (∀ x ∈ lfW 0, ¬ wI t L a x.1) → NF t L a 0 9999 kd pl → ∀ h1, YB t L h1 kd pl → SQ c0 h h1 → K 0 h1) : L_X12_onePart_146 w h K := by
  have go : ∀ (x : Int × Int) (c : Int), x ∈ lfW 0 → cdI x.2 = c → wI t L a x.1 → ∀ h1, Fr h h1 tyL [] → YS t L h1 (a + (slen x.1).toNat) → C_X12_code w c h1 (fun _ h97 => K 0 h97) := fun x c hx hc wx h1 F1 Y1 =>
    y_code (R.ty F1 Y1) hb (fun h2 R2 S2 => k c _ (Or.inl ⟨x, hx, wx, hc.symm, rfl⟩) h2 R2 ((SQ.ty F1).tr S2))
  refine l_X12_onePart_146 ⟨R.1.z.1, fun _ => ?_, fun c => absurd R.1.z.2 c⟩
  refine y_wd wr_13 R.1 (fun w1 h1 G1 Y1 _ => ⟨fun c2 => absurd c2 (by decide), fun _ => ?_⟩) (fun w1 h1 G1 Y1 _ => ⟨fun _ => ?_, fun c2 => absurd rfl c2⟩)
  · rw [hs] at w1 Y1
    exact go (1013, -20) 7 (by unfold lfW; rw [if_pos rfl]; simp) (by decide) w1 h1 G1 Y1
  rw [hs] at w1 Y1
  have F1 : Fr h h1 tyL [] := G1
  refine y_wd wr_17 Y1 (fun w2 h2 G2 Y2 _ => ⟨fun c2 => absurd c2 (by decide), fun _ => ?_⟩) (fun w2 h2 G2 Y2 _ => ⟨fun _ => ?_, fun c2 => absurd rfl c2⟩)
  · rw [hs] at w2 Y2
    exact go (1017, -21) 8 (by unfold lfW; rw [if_pos rfl]; simp) (by decide) w2 h2 ((F1.trans G2).into (by decide)) Y2
  rw [hs] at w2 Y2
  have F2 : Fr h h2 tyL [] := ((F1.trans G2).into (by decide))
  refine y_wd wr_9 Y2 (fun w3 h3 G3 Y3 _ => ⟨fun c2 => absurd c2 (by decide), fun _ => ?_⟩) (fun w3 h3 G3 Y3 _ => ⟨fun _ => ?_, fun c2 => absurd rfl c2⟩)
  · rw [hs] at w3 Y3
    exact go (1009, -22) 9 (by unfold lfW; rw [if_pos rfl]; simp) (by decide) w3 h3 ((F2.trans G3).into (by decide)) Y3
  rw [hs] at w3 Y3
  have F3 : Fr h h3 tyL [] := ((F2.trans G3).into (by decide))
  refine y_wd wr_18 Y3 (fun w4 h4 G4 Y4 _ => ⟨fun c2 => absurd c2 (by decide), fun _ => ?_⟩) (fun w4 h4 G4 Y4 _ => ⟨fun _ => ?_, fun c2 => absurd rfl c2⟩)
  · rw [hs] at w4 Y4
    exact go (1018, -23) 10 (by unfold lfW; rw [if_pos rfl]; simp) (by decide) w4 h4 ((F3.trans G4).into (by decide)) Y4
  rw [hs] at w4 Y4
  have F4 : Fr h h4 tyL [] := ((F3.trans G4).into (by decide))
  refine y_wd wr_19 Y4 (fun w5 h5 G5 Y5 _ => ⟨fun c2 => absurd c2 (by decide), fun _ => ?_⟩) (fun w5 h5 G5 Y5 _ => ⟨fun _ => ?_, fun c2 => absurd rfl c2⟩)
  · rw [hs] at w5 Y5
    exact go (1019, -24) 11 (by unfold lfW; rw [if_pos rfl]; simp) (by decide) w5 h5 ((F4.trans G5).into (by decide)) Y5
  rw [hs] at w5 Y5
  have F5 : Fr h h5 tyL [] := ((F4.trans G5).into (by decide))
  refine y_wd wr_20 Y5 (fun w6 h6 G6 Y6 _ => ⟨fun c2 => absurd c2 (by decide), fun _ => ?_⟩) (fun w6 h6 G6 Y6 _ => ⟨fun _ => ?_, fun c2 => absurd rfl c2⟩)
  · rw [hs] at w6 Y6
    exact go (1020, -25) 12 (by unfold lfW; rw [if_pos rfl]; simp) (by decide) w6 h6 ((F5.trans G6).into (by decide)) Y6
  rw [hs] at w6 Y6
  have F6 : Fr h h6 tyL [] := ((F5.trans G6).into (by decide))
  refine y_wd wr_21 Y6 (fun w7 h7 G7 Y7 _ => ⟨fun c2 => absurd c2 (by decide), fun _ => ?_⟩) (fun w7 h7 G7 Y7 _ => ⟨fun _ => ?_, fun c2 => absurd rfl c2⟩)
  · rw [hs] at w7 Y7
    exact go (1021, -26) 13 (by unfold lfW; rw [if_pos rfl]; simp) (by decide) w7 h7 ((F6.trans G7).into (by decide)) Y7
  rw [hs] at w7 Y7
  have F7 : Fr h h7 tyL [] := ((F6.trans G7).into (by decide))
  have none : ∀ x ∈ lfW 0, ¬ wI t L a x.1 := fun x hx => by
    unfold lfW at hx
    rw [if_pos rfl] at hx
    simp only [List.mem_cons, List.not_mem_nil, or_false] at hx
    rcases hx with rfl | rfl | rfl | rfl | rfl | rfl | rfl <;> assumption
  refine y_number ⟨by decide, by decide⟩ ⟨by decide, by decide⟩ Y7 (fun v n nv h8 F8 Y8 => ?_) (fun z kd pl nf h8 F8 B8 z0 z9 => ?_)
  · rw [hs] at nv Y8
    have G := (F7.trans F8).into (L' := tyL) (R' := []) (by decide)
    exact y_code (R.ty G Y8) hb (fun h9 R9 S9 => k (1000 + v) n (Or.inr ⟨none, v, nv, rfl⟩) h9 R9 ((SQ.ty G).tr S9))
  · rw [hs] at nf
    have G := (F7.trans F8).into (L' := tyL) (R' := []) (by decide)
    refine y_codeB (c0 := c0) (n := c0 + C.length) B8 ?_ ⟨by omega, hb⟩ (fun h9 B9 S9 => kf kd pl none nf h9 B9 ((SQ.ty G).tr S9))
    rw [G 68 44 List.not_mem_nil (by decide)]
    exact R.2.2.2.2.1
end L3G
