/-! the reference's machine for questions: words, how a part begins and ends -/
theorem wq_11 : wr 1011 126 := ⟨⟨by decide, by decide +kernel⟩, by decide +kernel, by decide +kernel⟩
theorem wq_12 : wr 1012 127 := ⟨⟨by decide, by decide +kernel⟩, by decide +kernel, by decide +kernel⟩
theorem wq_13 : wr 1013 128 := ⟨⟨by decide, by decide +kernel⟩, by decide +kernel, by decide +kernel⟩
theorem wq_14 : wr 1014 129 := ⟨⟨by decide, by decide +kernel⟩, by decide +kernel, by decide +kernel⟩
theorem wq_15 : wr 1015 130 := ⟨⟨by decide, by decide +kernel⟩, by decide +kernel, by decide +kernel⟩
theorem wq_16 : wr 1016 131 := ⟨⟨by decide, by decide +kernel⟩, by decide +kernel, by decide +kernel⟩
theorem wq_8 : wr 1008 132 := ⟨⟨by decide, by decide +kernel⟩, by decide +kernel, by decide +kernel⟩
abbrev wdq : List Int := [1011, 1012, 1013, 1014, 1015, 1016, 1008]
theorem wdq_ok : ∀ a ∈ wdq, wOK a := by decide +kernel
theorem wdq_x : ∀ a ∈ wdq, ∀ b ∈ wdq, wdx a b = false → a = b := by decide +kernel
theorem wI.eqq {t : Int → Int} {L q : Nat} {a b : Int} (A : wI t L q a) (B : wI t L q b) (ha : a ∈ wdq) (hb : b ∈ wdq) : a = b := wdq_x a ha b hb (A.one B (wdq_ok a ha) (wdq_ok b hb))
def cdQ (s : Int) : Int := if 0 ≤ s then s + 1000 else if s = -20 then 40 else if s = -27 then 41 else if s = -28 then 42 else if s = -13 then 60 else if s = -14 then 61 else -s
def WH (t : Int → Int) (L q : Nat) (r : Int) : Prop := (r = 0 ∧ wI t L q 1013) ∨ (r = 1 ∧ wI t L q 1014) ∨ (r = 2 ∧ wI t L q 1015) ∨ (r = 3 ∧ wI t L q 1016) ∨ (r = 4 ∧ wI t L q 1008) ∨ (r = -1 ∧ ¬ wI t L q 1013 ∧ ¬ wI t L q 1014 ∧ ¬ wI t L q 1015 ∧ ¬ wI t L q 1016 ∧ ¬ wI t L q 1008)
abbrev qKG (w : Wd) (K : Int → Hp → Prop) : Int → Hp → Prop := fun r9 h10 => (r9 = 0 ∨ r9 = 1) → ((r9 = 0) → (L_X12_qSums_15 w 0 0 h10 K)) ∧ (¬ (r9 = 0) → (L_X12_qSums_15 w 0 1 h10 K))
abbrev qKP (w : Wd) (K : Int → Hp → Prop) : Int → Hp → Prop := fun _ h6 => (inR (h6 68 5)) ∧ ((((h6 68 5) ≠ 0) → (L_X12_qSums_15 w 0 0 h6 K)) ∧ (¬ ((h6 68 5) ≠ 0) → (C_X12_qGoesOn w h6 (qKG w K))))
abbrev qBG (w : Wd) (K : Int → Hp → Prop) (h : Hp) : Prop := L_X12_qPartTold_2 w 1 h (qKP w K)
abbrev qAF (w : Wd) (K : Int → Hp → Prop) (h : Hp) : Prop := L_X12_qGoesOn_0 w h (qKG w K)
/-- a part has ended: what is of it is told, then it goes on -/
def qEP (w : Wd) (K : Int → Hp → Prop) (t : Int → Int) (L : Nat) (h : Hp) : Prop := ∀ J : Int → Hp → Prop, (∀ (h1 : Hp) (a : Nat), YS t L h1 a → qAF w K h1 → J 0 h1) → L_X12_qEndsPart_0 w h J
def LFq (t : Int → Int) (L q : Nat) (v : Int) (n : Nat) : Prop := (∃ x ∈ lfW 1, wI t L q x.1 ∧ v = cdQ x.2 ∧ n = (slen x.1).toNat) ∨ ((∀ x ∈ lfW 1, ¬ wI t L q x.1) ∧ ∃ v', NV t L q 0 9999 v' n ∧ v = 1000 + v')
section L5B
variable {w : Wd} {h h0 h1 h2 : Hp} {K : Int → Hp → Prop} {t : Int → Int} {L p a a1 o : Nat} {U W C : List Int}
theorem yw_here {x row : Int} {A B : Hp → Prop} (H : wr x row) (sp : sk t L p = p) (Y : YS t L h p) (k1 : wI t L p x → ∀ h1, Fr h h1 tyL [] → YS t L h1 p → A h1) (k0 : ¬ wI t L p x → ∀ h1, Fr h h1 tyL [] → YS t L h1 p → B h1) : C_X12_isHere w row h (fun r h3 => (r = 0 ∨ r = 1) → ((r = 0) → B h3) ∧ (¬ (r = 0) → A h3)) := by
  refine y_wdHere H Y (fun W h1 F1 Y1 _ => ⟨fun c => absurd c (by decide), fun _ => ?_⟩) (fun W h1 F1 Y1 _ => ⟨fun _ => ?_, fun c => absurd rfl c⟩)
  · rw [sp] at W Y1; exact k1 W h1 F1 Y1
  · rw [sp] at W Y1; exact k0 W h1 F1 Y1
theorem yw_hereN {x row : Int} {A B : Hp → Prop} (H : wr x row) (sp : sk t L p = p) (Y : YS t L h p) (k1 : wI t L p x → ∀ h1, Fr h h1 tyL [] → YS t L h1 p → A h1) (k0 : ¬ wI t L p x → ∀ h1, Fr h h1 tyL [] → YS t L h1 p → B h1) : C_X12_isHere w row h (fun r h3 => (r = 0 ∨ r = 1) → ((r ≠ 0) → A h3) ∧ (¬ (r ≠ 0) → B h3)) := by
  refine y_wdHere H Y (fun W h1 F1 Y1 _ => ⟨fun _ => ?_, fun c => absurd (by decide) c⟩) (fun W h1 F1 Y1 _ => ⟨fun c => absurd rfl c, fun _ => ?_⟩)
  · rw [sp] at W Y1; exact k1 W h1 F1 Y1
  · rw [sp] at W Y1; exact k0 W h1 F1 Y1
theorem ty2 (F : Fr h h1 tyL []) (G : Fr h1 h2 tyL []) : Fr h h2 tyL [] := (F.trans G).into (by decide)
theorem WH.b {q : Nat} {r : Int} (W : WH t L q r) : -1 ≤ r ∧ r ≤ 4 := by
  rcases W with ⟨e, -⟩ | ⟨e, -⟩ | ⟨e, -⟩ | ⟨e, -⟩ | ⟨e, -⟩ | ⟨e, -⟩ <;> omega
theorem yq_wordHere (Y : YS t L h p) (sp : sk t L p = p) (k : ∀ r, WH t L p r → ∀ h1, Fr h h1 tyL [] → YS t L h1 p → K r h1) : C_X12_qWordHere w h K :=
  c_X12_qWordHere (yw_here wq_13 sp Y (fun W h1 F1 Y1 => k 0 (Or.inl ⟨rfl, W⟩) h1 F1 Y1) (fun n1 h1 F1 Y1 => yw_here wq_14 sp Y1 (fun W h2 F2 Y2 => k 1 (Or.inr (Or.inl ⟨rfl, W⟩)) h2 (ty2 F1 F2) Y2) (fun n2 h2 F2 Y2 => yw_here wq_15 sp Y2 (fun W h3 F3 Y3 => k 2 (Or.inr (Or.inr (Or.inl ⟨rfl, W⟩))) h3 (ty2 (ty2 F1 F2) F3) Y3) (fun n3 h3 F3 Y3 => yw_here wq_16 sp Y3 (fun W h4 F4 Y4 => k 3 (Or.inr (Or.inr (Or.inr (Or.inl ⟨rfl, W⟩)))) h4 (ty2 (ty2 (ty2 F1 F2) F3) F4) Y4) (fun n4 h4 F4 Y4 => yw_here wq_8 sp Y4 (fun W h5 F5 Y5 => k 4 (Or.inr (Or.inr (Or.inr (Or.inr (Or.inl ⟨rfl, W⟩))))) h5 (ty2 (ty2 (ty2 (ty2 F1 F2) F3) F4) F5) Y5) (fun n5 h5 F5 Y5 => k (-1) (Or.inr (Or.inr (Or.inr (Or.inr (Or.inr ⟨rfl, n1, n2, n3, n4, n5⟩))))) h5 (ty2 (ty2 (ty2 (ty2 F1 F2) F3) F4) F5) Y5))))))
theorem yq_wordOf {a1 a2 : Int} (h1' : inR a1) (h2' : inR a2) (Y : YS t L h p) (sp : sk t L p = p) (k : ∀ r, WH t L p r → ∀ h1, Fr h h1 tyL [] → YS t L h1 p → K (if a1 ≤ r ∧ r < a2 then r else -1) h1) : C_X12_qWordOf w a1 a2 h K := by
  refine c_X12_qWordOf (yq_wordHere Y sp (fun r W h1 F1 Y1 => ?_))
  have b := W.b
  have kk := k r W h1 F1 Y1
  refine ⟨⟨by omega, by omega⟩, h1', fun c => ?_, fun c => ⟨⟨by omega, by omega⟩, h2', fun c2 => ?_, fun c2 => ?_⟩⟩
  · rw [if_neg (by omega)] at kk; exact kk
  · rw [if_neg (by omega)] at kk; exact kk
  · rw [if_pos (by omega)] at kk; exact kk
theorem yq_asksWord {r x : Int} (hx : (r, x) ∈ [((0 : Int), (1013 : Int)), (1, 1014), (2, 1015), (3, 1016), (4, 1008)]) (W : wI t L p x) (sp : sk t L p = p) (Y : YS t L h p) (k : ∀ h1, Fr h h1 tyL [] → YS t L h1 (p + (slen x).toNat) → K 0 h1) : C_X12_qAsksWord w r h K := by
  have go : ∀ row, wr x row → C_X12_asks w row h (fun _ h4 => K 0 h4) := fun row H => y_wdAsks H Y (fun W1 h1 F1 Y1 => by rw [sp] at Y1; exact k h1 F1 Y1) (fun n => absurd (by rw [sp]; exact W) n)
  simp only [List.mem_cons, Prod.mk.injEq, List.not_mem_nil, or_false] at hx
  rcases hx with ⟨rfl, rfl⟩ | ⟨rfl, rfl⟩ | ⟨rfl, rfl⟩ | ⟨rfl, rfl⟩ | ⟨rfl, rfl⟩
  · exact c_X12_qAsksWord ⟨⟨by decide, by decide⟩, fun _ => go _ wq_13, fun c => absurd c (by decide), fun c => absurd c (by decide), fun c => absurd c (by decide), fun c => absurd c (by decide)⟩
  · exact c_X12_qAsksWord ⟨⟨by decide, by decide⟩, fun c => absurd c (by decide), fun _ => go _ wq_14, fun c => absurd c (by decide), fun c => absurd c (by decide), fun c => absurd c (by decide)⟩
  · exact c_X12_qAsksWord ⟨⟨by decide, by decide⟩, fun c => absurd c (by decide), fun c => absurd c (by decide), fun _ => go _ wq_15, fun c => absurd c (by decide), fun c => absurd c (by decide)⟩
  · exact c_X12_qAsksWord ⟨⟨by decide, by decide⟩, fun c => absurd c (by decide), fun c => absurd c (by decide), fun c => absurd c (by decide), fun _ => go _ wq_16, fun c => absurd c (by decide)⟩
  · exact c_X12_qAsksWord ⟨⟨by decide, by decide⟩, fun c => absurd c (by decide), fun c => absurd c (by decide), fun c => absurd c (by decide), fun c => absurd c (by decide), fun _ => go _ wq_8⟩
theorem RQ.step {c : Int} (R : RQ t L U a o W C h) (b : byL t L a = c) (hc : 0 ≤ c) (nl : ¬ isLt c ∧ ¬ isDg c) (q : h1 = hu h 68 2 ((h 68 2) + 1)) : RQ t L U (a + 1) o W C h1 ∧ Fr h h1 tyL [] := by
  have lt : a < L := by
    unfold byL at b
    by_cases d : a < L
    · exact d
    · rw [if_neg d] at b; omega
  have ev : byL t L a = t a := if_pos lt
  have F : Fr h h1 [(68, 2)] [] := by rw [q]; exact Fr.cel
  have Ft : Fr h h1 tyL [] := F.into (by decide)
  have c4 := (F.cell (C := [(68, 4), (68, 5)]) (W := []) (by decide)).1 (68, 4) (by decide)
  have c5 := (F.cell (C := [(68, 4), (68, 5)]) (W := []) (by decide)).1 (68, 5) (by decide)
  dsimp only at c4 c5
  obtain ⟨T3, e3, hp3, e5, E3, e4⟩ := R.1
  refine ⟨R.ty Ft ⟨T3.fr F (by decide), by rw [q, hu_if, if_pos rfl, e3]; omega, lt, by rw [c5]; exact e5, ?_, by rw [c4]; exact e4⟩, Ft⟩
  rw [c4]
  refine ⟨by have := E3.1; omega, ⟨fun x => by have := E3.1; omega, fun x => ?_⟩⟩
  have := x.2
  rw [show a + 1 - 1 = a by omega, ← ev, b] at this
  exact absurd this (fun y => y.elim nl.1 nl.2)
theorem dq_53 {kd pl : Int} (B : YB t L h kd pl) (k : K 0 (hu h 68 91 0)) : L_X12_qSums_53 w 0 h K :=
  l_X12_qSums_53 ⟨B.nz.1, fun _ h17 q => by subst q; exact k, fun c => absurd B.nz.2 c⟩
theorem dq_15 {kd pl v : Int} (hv : v = 0 ∨ v = 1) (B : YB t L h kd pl) (k : K 0 (hu h 68 91 0)) : L_X12_qSums_15 w 0 v h K :=
  l_X12_qSums_15 ⟨by rcases hv with rfl | rfl <;> exact ⟨by decide, by decide⟩, fun _ => dq_53 B k, fun _ => ⟨B.nz.1, fun _ => dq_53 B k, fun c => absurd B.nz.2 c⟩⟩
theorem dq_KG {kd pl r : Int} (B : YB t L h kd pl) (k : K 0 (hu h 68 91 0)) : qKG w K r h := fun _ => ⟨fun _ => dq_15 (Or.inl rfl) B k, fun _ => dq_15 (Or.inr rfl) B k⟩
theorem dq_KP {kd pl r : Int} (B : YB t L h kd pl) (k : K 0 (hu h 68 91 0)) : qKP w K r h := ⟨B.nz.1, fun _ => dq_15 (Or.inl rfl) B k, fun c => absurd B.nz.2 c⟩
theorem dq_143 {kd pl v : Int} (hv : v = 0 ∨ v = 1) (B : YB t L h kd pl) (k : K 0 (hu h 68 91 0)) : L_X12_qPartTold_180 w v h (qKP w K) := by
  have e : L_X12_qPartTold_183 w h (qKP w K) := l_X12_qPartTold_183 ⟨B.nz.1, fun c => absurd c B.nz.2, fun _ => dq_KP B k⟩
  exact l_X12_qPartTold_180 (l_X12_qPartTold_2 ⟨by rcases hv with rfl | rfl <;> exact ⟨by decide, by decide⟩, fun _ => e, fun _ => ⟨B.nz.1, fun _ => e, fun c => absurd B.nz.2 c⟩⟩)
theorem dq_EP {kd pl : Int} {J : Int → Hp → Prop} (B : YB t L h kd pl) (k : J 0 h) : L_X12_qEndsPart_0 w h J := l_X12_qEndsPart_0 ⟨B.nz.1, fun _ => k, fun c => absurd B.nz.2 c⟩
theorem qAF.of {r : Int} (Y : YS t L h a) (k : qAF w K h) : qKP w K r h := ⟨Y.z.1, fun c => absurd Y.z.2 c, fun _ => c_X12_qGoesOn k⟩
theorem qBG.of (Y : YS t L h a) (k : qBG w K h) : qKG w K 1 h := fun _ => ⟨fun c => absurd c (by decide), fun _ => l_X12_qSums_15 ⟨⟨by decide, by decide⟩, fun c => absurd c (by decide), fun _ => ⟨Y.z.1, fun c => absurd Y.z.2 c, fun _ => c_X12_qPartTold k⟩⟩⟩
theorem qEP.kp {r : Int} (E : qEP w K t L h) : C_X12_qEndsPart w h (fun _ h83 => qKP w K r h83) := c_X12_qEndsPart (E _ (fun h1 a Y1 af => qAF.of Y1 af))
theorem qEP.af (E : qEP w K t L h) : C_X12_qEndsPart w h (fun _ h45 => L_X12_qGoesOn_0 w h45 (qKG w K)) := c_X12_qEndsPart (E _ (fun h1 a Y1 af => af))
theorem qEP.top (R : RQ t L U a o W C h) (hw : (U ++ W).length < 1700) (tp : ∀ V y, W = V ++ [y] → y < 60) (k : qAF w K h) : qEP w K t L h := fun J j => by
  have kk := j h a R.1 k
  obtain ⟨Y, e1, e2, e3, e4, A, B, b, u⟩ := R
  refine l_X12_qEndsPart_0 ⟨Y.z.1, fun c => absurd Y.z.2 c, fun _ => ?_⟩
  rw [e2, e3]
  rcases List.eq_nil_or_concat W with rfl | ⟨V, m, rfl⟩
  · rw [List.append_nil] at *
    exact ⟨⟨by omega, by omega⟩, ⟨by omega, by omega⟩, fun _ => kk, fun c => absurd (by omega) c⟩
  · rw [List.concat_eq_append] at *
    have m60 := tp V m rfl
    have bm := b m (List.mem_append_right _ (List.mem_singleton.mpr rfl))
    rw [← List.append_assoc] at A hw ⊢
    have P := A.pop
    rw [List.length_append, List.length_singleton] at hw ⊢
    have lU : U.length ≤ (U ++ V).length := by rw [List.length_append]; omega
    rw [show ((((U ++ V).length + 1 : Nat) : Int) - 1) = ((U ++ V).length : Nat) by omega, P.2]
    exact ⟨⟨by omega, by omega⟩, ⟨by omega, by omega⟩, fun c => absurd c (by omega), fun _ => ⟨⟨by omega, by omega⟩, ⟨by omega, by omega⟩, fun _ => kk, fun c => absurd m60 c⟩⟩
theorem qEP.of {m : Int} (R : RQ t L U a (o + 1) (W ++ [m]) C h) (hm : 60 ≤ m) (hb : C.length < 1600) (hw : (U ++ W).length + 1 < 1700) (k : ∀ h1, RQ t L U a o W (C ++ [m]) h1 → QQ h h1 → qEP w K t L h1) : qEP w K t L h := fun J j => by
  have R' := R
  obtain ⟨Y, e1, e2, e3, e4, A, B, b, u⟩ := R'
  have bm := b m (List.mem_append_right _ (List.mem_singleton.mpr rfl))
  refine l_X12_qEndsPart_0 ⟨Y.z.1, fun c => absurd Y.z.2 c, fun _ => ?_⟩
  rw [← List.append_assoc] at A e2
  rw [e2, e3]
  have P := A.pop
  have lU : U.length ≤ (U ++ W).length := by rw [List.length_append]; omega
  rw [List.length_append (as := U ++ W), List.length_singleton, show ((((U ++ W).length + 1 : Nat) : Int) - 1) = ((U ++ W).length : Nat) by omega, P.2]
  refine ⟨⟨by omega, by omega⟩, ⟨by omega, by omega⟩, fun c => absurd c (by omega), fun _ => ⟨⟨by omega, by omega⟩, ⟨by omega, by omega⟩, fun c => absurd c (by omega), fun _ h6 q6 => ?_⟩⟩
  have F : Fr h h6 [(68, 90)] [] := by rw [q6]; exact Fr.cel
  have e : ∀ o i : Int, ¬ (o = 68 ∧ i = 90) → h6 o i = h o i := fun o i n => F o i List.not_mem_nil (fun q => by simp at q; omega)
  have er : ∀ o : Int, o ≠ 68 → h6 o = h o := fun o n => by funext i; exact e o i (fun q => n q.1)
  have R6 : RQ t L U a o (W ++ [m]) C h6 := by
    rw [List.append_assoc] at A e2
    exact ⟨Y.fr F (by decide), by rw [q6, hu_if, if_pos rfl, e1]; omega, by rw [e _ _ (by decide)]; exact e2, by rw [e _ _ (by decide)]; exact e3, by rw [e _ _ (by decide)]; exact e4, by rw [er 134 (by decide)]; exact A, by rw [er 133 (by decide)]; exact B, b, u⟩
  exact yq_drops R6 hb (by omega) (fun h9 R9 S9 => k h9 R9 (QQ.tr (QQ.of (fun o i m1 m2 m3 => e o i (fun q => m2 ⟨q.1, by omega⟩)) (e _ _ (by decide))) S9) J j)
theorem yq_codeB {kd pl v : Int} {n : Nat} (B : YB t L h kd pl) (e : h 68 87 = n) (hc : n < 1600) (k : ∀ h1, YB t L h1 kd pl → QQ h h1 → K 0 h1) : C_X12_qCode w v h K := by
  refine c_X12_qCode ?_
  rw [e]
  refine ⟨⟨by omega, by omega⟩, fun h2 q2 h4 q4 => ?_⟩
  have e68 : ∀ i : Int, i ≠ 87 → h4 68 i = h 68 i := fun i n => by rw [q4, hu_if, if_neg n, hu_row q2 (by decide)]
  have e133 : ∀ i : Int, i ≠ n → h4 133 i = h 133 i := fun i m => by rw [hu_row q4 (by decide), q2, hu_if, if_neg (by omega)]
  have er : ∀ o : Int, o ≠ 68 → o ≠ 133 → h4 o = h o := fun o n1 n2 => (hu_row q4 n1).trans (hu_row q2 n2)
  obtain ⟨T, b1, b2, b3, b4, b5, b6⟩ := B
  refine k h4 ⟨?_, by rw [e68 _ (by decide)]; exact b1, by rw [e68 _ (by decide)]; exact b2, b3, b4, by rw [e68 _ (by decide)]; exact b5, by rw [e68 _ (by decide)]; exact b6⟩ ⟨fun o i m1 m2 m3 => ?_, fun _ => by rw [q4, hu_if, if_pos rfl, hu_row q2 (by decide), e]; omega⟩
  · unfold TQ at T ⊢
    rw [e68 _ (by decide), e68 _ (by decide), e68 _ (by decide), er 69 (by decide) (by decide)]; exact T
  · by_cases d : o = 68
    · subst d
      exact e68 i (fun q => m2 ⟨rfl, by omega⟩)
    · by_cases d2 : o = 133
      · exact absurd d2 m3
      · rw [er o d d2]
/-- a part begins: a bracket, min or max, lies or holds, or one word or number -/
theorem yq_bgn (R : RQ t L U a o W C h) (c40 : byL t L (sk t L a) = 40 → ∀ h1, RQ t L U (sk t L a) o W C h1 → QQ h h1 → C_X12_qOpens w 20 (h1 68 2) h1 (fun _ h16 => ∀ h18 : Hp, h18 = hu h16 68 2 ((h16 68 2) + 1) → L_X12_qPartTold_180 w 1 h18 (qKP w K)))
    (cm : byL t L (sk t L a) ≠ 40 → (wI t L (sk t L a) 1011 ∨ wI t L (sk t L a) 1012) → ∀ h1, RQ t L U (sk t L a) o W C h1 → QQ h h1 → L_X12_qPartTold_76 w 1 h1 (qKP w K))
    (co : byL t L (sk t L a) ≠ 40 → ∀ r x : Int, (r, x) ∈ [((3 : Int), (1016 : Int)), (4, 1008)] → wI t L (sk t L a) x → ∀ h1, RQ t L U (sk t L a) o W C h1 → QQ h h1 → C_X12_qOpens w ((60 + r) - 3) (h1 68 2) h1 (fun _ h18 => C_X12_qAsksWord w r h18 (fun _ h21 => L_X12_qPartTold_180 w 1 h21 (qKP w K))))
    (cl : byL t L (sk t L a) ≠ 40 → ¬ wI t L (sk t L a) 1011 → ¬ wI t L (sk t L a) 1012 → ¬ wI t L (sk t L a) 1016 → ¬ wI t L (sk t L a) 1008 → ∀ h1, RQ t L U (sk t L a) o W C h1 → QQ h h1 → L_X12_qPartTold_183 w h1 (qKP w K)) : qBG w K h := by
  refine l_X12_qPartTold_2 ⟨⟨by decide, by decide⟩, fun c => absurd c (by decide), fun _ => ⟨R.1.z.1, fun c => absurd R.1.z.2 c, fun _ => R.1.look (fun h4 F4' Y4 => ?_)⟩⟩
  have F4 : Fr h h4 tyL [] := F4'.into (by decide)
  have b := byL_q Y4.1 (sk t L a)
  have ss := sk_sk t L a
  refine yq_wordOf ⟨by decide, by decide⟩ ⟨by decide, by decide⟩ Y4 ss (fun r WHr h7 F7 Y7 => ?_)
  have F47 := ty2 F4 F7
  have R7 := R.ty F47 Y7
  refine ⟨⟨by omega, by omega⟩, fun c => ?_, fun c => c40 (Decidable.not_not.mp c) h7 R7 (QQ.ty F47)⟩
  refine yw_hereN wq_11 ss Y7 (fun w8 h8 F8 Y8 => cm c (Or.inl w8) h8 (R7.ty F8 Y8) (QQ.ty (ty2 F47 F8))) (fun w8 h8 F8 Y8 => yw_here wq_12 ss Y8 (fun w9 h9 F9 Y9 => cm c (Or.inr w9) h9 ((R7.ty F8 Y8).ty F9 Y9) (QQ.ty (ty2 (ty2 F47 F8) F9))) (fun w9 h9 F9 Y9 => ?_))
  have R9 := (R7.ty F8 Y8).ty F9 Y9
  have S9 : QQ h h9 := QQ.ty (ty2 (ty2 F47 F8) F9)
  have go : ¬ wI t L (sk t L a) 1016 → ¬ wI t L (sk t L a) 1008 → L_X12_qPartTold_180 w 0 h9 (qKP w K) := fun x y => l_X12_qPartTold_180 (l_X12_qPartTold_2 ⟨⟨by decide, by decide⟩, fun _ => cl c w8 w9 x y h9 R9 S9, fun c2 => absurd rfl c2⟩)
  have oX : ∀ {x : Int}, x ∈ wdq → wI t L (sk t L a) x → ∀ {y : Int}, y ∈ wdq → x ≠ y → ¬ wI t L (sk t L a) y := fun hx Wx _ hy n Wy => n (Wx.eqq Wy hx hy)
  rcases WHr with ⟨rfl, W⟩ | ⟨rfl, W⟩ | ⟨rfl, W⟩ | ⟨rfl, W⟩ | ⟨rfl, W⟩ | ⟨rfl, -, -, -, n3, n4⟩
  · rw [if_neg (by decide)]
    exact ⟨⟨by decide, by decide⟩, fun _ => go (oX (by decide) W (by decide) (by decide)) (oX (by decide) W (by decide) (by decide)), fun c2 => absurd rfl c2⟩
  · rw [if_neg (by decide)]
    exact ⟨⟨by decide, by decide⟩, fun _ => go (oX (by decide) W (by decide) (by decide)) (oX (by decide) W (by decide) (by decide)), fun c2 => absurd rfl c2⟩
  · rw [if_neg (by decide)]
    exact ⟨⟨by decide, by decide⟩, fun _ => go (oX (by decide) W (by decide) (by decide)) (oX (by decide) W (by decide) (by decide)), fun c2 => absurd rfl c2⟩
  · rw [if_pos (by decide)]
    exact ⟨⟨by decide, by decide⟩, fun c2 => absurd c2 (by decide), fun _ => co c 3 1016 (by decide) W h9 R9 S9⟩
  · rw [if_pos (by decide)]
    exact ⟨⟨by decide, by decide⟩, fun c2 => absurd c2 (by decide), fun _ => co c 4 1008 (by decide) W h9 R9 S9⟩
  · rw [if_neg (by decide)]
    exact ⟨⟨by decide, by decide⟩, fun _ => go n3 n4, fun c2 => absurd rfl c2⟩
theorem yq_leaf (R : RQ t L U a o W C h) (hs : sk t L a = a) (hb : C.length < 1600) (k : ∀ v n, LFq t L a v n → ∀ h1, RQ t L U (a + n) o W (C ++ [v]) h1 → QQ h h1 → qEP w K t L h1) (kf : ∀ kd pl, (∀ x ∈ lfW 1, ¬ wI t L a x.1) → NF t L a 0 9999 kd pl → ∀ h1, YB t L h1 kd pl → QQ h h1 → K 0 (hu h1 68 91 0)) : L_X12_qPartTold_183 w h (qKP w K) := by
  have lf1 : lfW 1 = [(1013, -20), (1014, -27), (1015, -28)] := rfl
  refine l_X12_qPartTold_183 ⟨R.1.z.1, fun _ => ?_, fun c => absurd R.1.z.2 c⟩
  refine yq_wordOf ⟨by decide, by decide⟩ ⟨by decide, by decide⟩ R.1 hs (fun r WHr h1 F1 Y1 => ?_)
  have word : ∀ (r x v : Int), (r, x) ∈ [((0 : Int), (1013 : Int)), (1, 1014), (2, 1015), (3, 1016), (4, 1008)] → (x, v) ∈ lfW 1 → cdQ v = 40 + r → 0 ≤ r → r ≤ 2 → wI t L a x → (inR r) ∧ (((r = (-1)) → (L_X12_qPartTold_208 w r h1 (qKP w K))) ∧ (¬ (r = (-1)) → (C_X12_qAsksWord w r h1 (fun _ h65 => L_X12_qPartTold_208 w r h65 (qKP w K))))) := fun r x v hr hx cv r0 r2 W => by
    refine ⟨⟨by omega, by omega⟩, fun c => absurd c (by omega), fun _ => yq_asksWord hr W hs Y1 (fun h2 F2 Y2 => ?_)⟩
    refine l_X12_qPartTold_208 ⟨⟨by omega, by omega⟩, fun c => absurd c (by omega), fun _ => ?_⟩
    exact yq_code (R.ty (ty2 F1 F2) Y2) hb (fun h3 R3 S3 => (k (40 + r) _ (Or.inl ⟨(x, v), hx, W, cv.symm, rfl⟩) h3 R3 ((QQ.ty (ty2 F1 F2)).tr S3)).kp)
  have num : (∀ x ∈ lfW 1, ¬ wI t L a x.1) → (inR (-1)) ∧ ((((-1 : Int) = (-1)) → (L_X12_qPartTold_208 w (-1) h1 (qKP w K))) ∧ (¬ ((-1 : Int) = (-1)) → (C_X12_qAsksWord w (-1) h1 (fun _ h65 => L_X12_qPartTold_208 w (-1) h65 (qKP w K))))) := fun none => by
    refine ⟨⟨by decide, by decide⟩, fun _ => l_X12_qPartTold_208 ⟨⟨by decide, by decide⟩, fun _ => ?_, fun c => absurd rfl c⟩, fun c => absurd rfl c⟩
    refine y_number ⟨by decide, by decide⟩ ⟨by decide, by decide⟩ Y1 (fun v n nv h8 F8 Y8 => ?_) (fun z kd pl nf h8 F8 B8 z0 z9 => ?_)
    · rw [hs] at nv Y8
      exact yq_code (R.ty (ty2 F1 F8) Y8) hb (fun h9 R9 S9 => (k (1000 + v) n (Or.inr ⟨none, v, nv, rfl⟩) h9 R9 ((QQ.ty (ty2 F1 F8)).tr S9)).kp)
    · rw [hs] at nf
      refine yq_codeB (n := C.length) B8 ?_ (by omega) (fun h9 B9 S9 => c_X12_qEndsPart (dq_EP B9 (dq_KP B9 (kf kd pl none nf h9 B9 ((QQ.ty (ty2 F1 F8)).tr S9)))))
      rw [ty2 F1 F8 68 87 List.not_mem_nil (by decide)]
      exact R.2.2.2.2.1
  have oX : ∀ {x : Int}, x ∈ wdq → wI t L a x → (∀ y ∈ lfW 1, x ≠ y.1) → ∀ y ∈ lfW 1, ¬ wI t L a y.1 := fun hx Wx n y hy Wy => n y hy (Wx.eqq Wy hx ((by decide : ∀ y ∈ lfW 1, y.1 ∈ wdq) y hy))
  rcases WHr with ⟨rfl, W⟩ | ⟨rfl, W⟩ | ⟨rfl, W⟩ | ⟨rfl, W⟩ | ⟨rfl, W⟩ | ⟨rfl, n0, n1, n2, n3, n4⟩
  · rw [if_pos (by decide)]; exact word 0 1013 (-20) (by decide) (by decide) (by decide) (by decide) (by decide) W
  · rw [if_pos (by decide)]; exact word 1 1014 (-27) (by decide) (by decide) (by decide) (by decide) (by decide) W
  · rw [if_pos (by decide)]; exact word 2 1015 (-28) (by decide) (by decide) (by decide) (by decide) (by decide) W
  · rw [if_neg (by decide)]; exact num (oX (by decide) W (by decide))
  · rw [if_neg (by decide)]; exact num (oX (by decide) W (by decide))
  · rw [if_neg (by decide)]
    refine num (fun y hy => ?_)
    rw [lf1] at hy
    simp only [List.mem_cons, List.not_mem_nil, or_false] at hy
    rcases hy with rfl | rfl | rfl
    · exact n0
    · exact n1
    · exact n2
end L5B
