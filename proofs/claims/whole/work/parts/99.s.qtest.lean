/-! the reference's machine for tests -/
theorem wq_32 : wr 1032 122 := ⟨⟨by decide, by decide +kernel⟩, by decide +kernel, by decide +kernel⟩
theorem wq_34 : wr 1034 123 := ⟨⟨by decide, by decide +kernel⟩, by decide +kernel, by decide +kernel⟩
theorem wq_35 : wr 1035 124 := ⟨⟨by decide, by decide +kernel⟩, by decide +kernel, by decide +kernel⟩
theorem wq_33 : wr 1033 125 := ⟨⟨by decide, by decide +kernel⟩, by decide +kernel, by decide +kernel⟩
abbrev wdt : List Int := [1032, 1033, 1034, 1035]
theorem wdt_ok : ∀ a ∈ wdt, wOK a := by decide +kernel
theorem wdt_x : ∀ a ∈ wdt, ∀ b ∈ wdt, wdx a b = false → a = b := by decide +kernel
theorem wI.eqt {t : Int → Int} {L q : Nat} {a b : Int} (A : wI t L q a) (B : wI t L q b) (ha : a ∈ wdt) (hb : b ∈ wdt) : a = b := wdt_x a ha b hb (A.one B (wdt_ok a ha) (wdt_ok b hb))
abbrev tKG (w : Wd) (K : Int → Hp → Prop) : Int → Hp → Prop := fun r17 h18 => (r17 = 0 ∨ r17 = 1) → ((r17 = 0) → (L_X12_qTest_2 w 0 h18 K)) ∧ (¬ (r17 = 0) → (L_X12_qTest_2 w 1 h18 K))
abbrev tBG (w : Wd) (K : Int → Hp → Prop) (h : Hp) : Prop := L_X12_qTest_2 w 1 h K
abbrev tAF (w : Wd) (K : Int → Hp → Prop) (h : Hp) : Prop := L_X12_qGoesOnTest_0 w h (tKG w K)
abbrev tKD (w : Wd) (K : Int → Hp → Prop) : Int → Hp → Prop := fun _ h14 => (inR (h14 68 5)) ∧ ((((h14 68 5) ≠ 0) → (L_X12_qTest_2 w 0 h14 K)) ∧ (¬ ((h14 68 5) ≠ 0) → (C_X12_qGoesOnTest w h14 (tKG w K))))
/-- a fact has ended: what denies it is told, then it goes on -/
def tEP (w : Wd) (K : Int → Hp → Prop) (t : Int → Int) (L : Nat) (h : Hp) : Prop := ∀ J : Int → Hp → Prop, (∀ (h1 : Hp) (a : Nat), YS t L h1 a → tAF w K h1 → J 0 h1) → L_X12_qDropsNots_0 w h J
section L5G
variable {w : Wd} {h h0 h1 h2 : Hp} {K : Int → Hp → Prop} {t : Int → Int} {L p a a1 o : Nat} {U W C q : List Int} {z : Int}
theorem RT.rq (R : RT t L a o U C h) : RQ t L [] a o U C h := by
  obtain ⟨Y, e90, e89, e91, e87, A, B, u⟩ := R
  exact ⟨Y, e90, e89, e91, e87, A, B, fun x hx => by have := u x hx; omega, fun x hx => absurd hx List.not_mem_nil⟩
theorem RQ.rt (R : RQ t L [] a o U C h) (u : uOK U) : RT t L a o U C h := by
  obtain ⟨Y, e90, e89, e91, e87, A, B, -, -⟩ := R
  exact ⟨Y, e90, e89, e91, e87, A, B, u⟩
theorem RT.u (R : RT t L a o U C h) : uOK U := R.2.2.2.2.2.2.2
theorem uOK.l {x : Int} (u : uOK (U ++ [x])) : uOK U := fun y hy => u y (List.mem_append_left _ hy)
theorem uOK.snoc {x : Int} (u : uOK U) (hx : 10 ≤ x ∧ x ≤ 25 ∧ ¬ (20 ≤ x ∧ x ≤ 24)) : uOK (U ++ [x]) := fun y hy => by
  rcases List.mem_append.mp hy with hy | hy
  · exact u y hy
  · rw [List.mem_singleton.mp hy]; exact hx
theorem RT.le (R : RT t L a o U C h) : a ≤ L ∧ L ≤ 1600 ∧ a ≤ sk t L a := ⟨R.1.2.2.1, R.1.1.2.1, sk_ge t L a⟩
theorem RT.ty (R : RT t L a o U C h) (F : Fr h h1 tyL []) (Y : YS t L h1 a1) : RT t L a1 o U C h1 := (R.rq.ty F Y).rt R.u
theorem RT.b (R : RT t L a o U C h) (hC : C.length ≤ 1600) (Q : QQ h h1) : 0 ≤ h1 68 87 ∧ h1 68 87 ≤ 1600 := Q.2 (by rw [R.2.2.2.2.1]; omega)
theorem tq_drops {x : Int} (R : RT t L a o (U ++ [x]) C h) (hb : C.length < 1600) (hw : U.length < 1700) (k : ∀ h1, RT t L a o U (C ++ [x]) h1 → QQ h h1 → K 0 h1) : C_X12_qDrops w h K :=
  yq_drops R.rq hb hw (fun h1 R1 S1 => k h1 (R1.rt R.u.l) S1)
theorem tq_code {v : Int} (R : RT t L a o U C h) (hb : C.length < 1600) (k : ∀ h1, RT t L a o U (C ++ [v]) h1 → QQ h h1 → K 0 h1) : C_X12_qCode w v h K :=
  yq_code R.rq hb (fun h1 R1 S1 => k h1 (R1.rt R.u) S1)
theorem tq_isOn {v : Int} (R : RT t L a o U C h) (hv : inR v) (hw : U.length < 1700) (k1 : ∀ V, U = V ++ [v] → K 1 h) (k0 : (∀ V, U ≠ V ++ [v]) → K 0 h) : C_X12_qIsOn w v h K :=
  qtop R.2.2.1 R.2.2.2.2.2.1 hw (fun x hx => by have := R.u x hx; exact ⟨by omega, by omega⟩) hv k1 k0
theorem dt_110 {kd pl : Int} (B : YB t L h kd pl) (k : K 0 h) : L_X12_qTest_110 w h K := l_X12_qTest_110 ⟨B.nz.1, fun _ => k, fun c => absurd B.nz.2 c⟩
theorem dt_2 {kd pl v : Int} (hv : v = 0 ∨ v = 1) (B : YB t L h kd pl) (k : K 0 h) : L_X12_qTest_2 w v h K :=
  l_X12_qTest_2 ⟨by rcases hv with rfl | rfl <;> exact ⟨by decide, by decide⟩, fun _ => dt_110 B k, fun _ => ⟨B.nz.1, fun _ => dt_110 B k, fun c => absurd B.nz.2 c⟩⟩
theorem dt_KG {kd pl r : Int} (B : YB t L h kd pl) (k : K 0 h) : tKG w K r h := fun _ => ⟨fun _ => dt_2 (Or.inl rfl) B k, fun _ => dt_2 (Or.inr rfl) B k⟩
theorem dt_KD {kd pl r : Int} (B : YB t L h kd pl) (k : K 0 h) : tKD w K r h := ⟨B.nz.1, fun _ => dt_2 (Or.inl rfl) B k, fun c => absurd B.nz.2 c⟩
theorem dt_EP {kd pl : Int} {J : Int → Hp → Prop} (B : YB t L h kd pl) (k : J 0 h) : L_X12_qDropsNots_0 w h J := l_X12_qDropsNots_0 ⟨B.nz.1, fun _ => k, fun c => absurd B.nz.2 c⟩
theorem tAF.of {r : Int} (Y : YS t L h a) (k : tAF w K h) : tKD w K r h := ⟨Y.z.1, fun c => absurd Y.z.2 c, fun _ => c_X12_qGoesOnTest k⟩
theorem tBG.of (k : tBG w K h) : tKG w K 1 h := fun _ => ⟨fun c => absurd c (by decide), fun _ => k⟩
theorem tEP.kd (E : tEP w K t L h) : C_X12_qDropsNots w h (tKD w K) := c_X12_qDropsNots (E _ (fun h1 a Y1 af => tAF.of Y1 af))
theorem tEP.af (E : tEP w K t L h) : C_X12_qDropsNots w h (fun _ h22 => L_X12_qGoesOnTest_0 w h22 (tKG w K)) := c_X12_qDropsNots (E _ (fun h1 a Y1 af => af))
theorem tEP.top (R : RT t L a o U C h) (hw : U.length < 1700) (tp : ∀ V, U ≠ V ++ [12]) (k : tAF w K h) : tEP w K t L h := fun J j =>
  l_X12_qDropsNots_0 ⟨R.1.z.1, fun c => absurd R.1.z.2 c, fun _ => tq_isOn R ⟨by decide, by decide⟩ hw (fun V e => absurd e (tp V)) (fun _ _ => ⟨fun _ => j h a R.1 k, fun c => absurd rfl c⟩)⟩
theorem tEP.of (R : RT t L a (o + 1) (U ++ [12]) C h) (hb : C.length < 1600) (hw : U.length + 1 < 1700) (k : ∀ h1, RT t L a o U (C ++ [12]) h1 → QQ h h1 → tEP w K t L h1) : tEP w K t L h := fun J j => by
  refine l_X12_qDropsNots_0 ⟨R.1.z.1, fun c => absurd R.1.z.2 c, fun _ => tq_isOn R ⟨by decide, by decide⟩ (by rw [List.length_append, List.length_singleton]; omega) (fun V e _ => ⟨fun c => absurd c (by decide), fun _ h5 q5 => ?_⟩) (fun n => absurd rfl (n U))⟩
  obtain ⟨Y, e1, e2, e3, e4, A, B, u⟩ := R
  have F : Fr h h5 [(68, 90)] [] := by rw [q5]; exact Fr.cel
  have e : ∀ o i : Int, ¬ (o = 68 ∧ i = 90) → h5 o i = h o i := fun o i n => F o i List.not_mem_nil (fun q => by simp at q; omega)
  have er : ∀ o : Int, o ≠ 68 → h5 o = h o := fun o n => by funext i; exact e o i (fun q => n q.1)
  have R5 : RT t L a o (U ++ [12]) C h5 := ⟨Y.fr F (by decide), by rw [q5, hu_if, if_pos rfl, e1]; omega, by rw [e _ _ (by decide)]; exact e2, by rw [e _ _ (by decide)]; exact e3, by rw [e _ _ (by decide)]; exact e4, by rw [er 134 (by decide)]; exact A, by rw [er 133 (by decide)]; exact B, u⟩
  exact tq_drops R5 hb (by omega) (fun h9 R9 S9 => k h9 R9 (QQ.tr (QQ.of (fun o i m1 m2 m3 => e o i (fun q => m2 ⟨q.1, by omega⟩)) (e _ _ (by decide))) S9) J j)
/-- a fact begins -/
theorem tq_bgn (R : RT t L a o U C h) (c91 : byL t L (sk t L a) = 91 → ∀ h1, RT t L (sk t L a) o U C h1 → QQ h h1 → C_X12_qOpens w 25 (h1 68 2) h1 (fun _ h30 => ∀ h32 : Hp, h32 = hu h30 68 2 ((h30 68 2) + 1) → L_X12_qTest_2 w 1 h32 K))
    (cn : byL t L (sk t L a) ≠ 91 → wI t L (sk t L a) 1032 → ∀ h1, RT t L (sk t L a) o U C h1 → QQ h h1 → C_X12_qOpens w 12 (h1 68 2) h1 (fun _ h23 => C_X12_asks w 122 h23 (fun _ h26 => L_X12_qTest_2 w 1 h26 K)))
    (cf : byL t L (sk t L a) ≠ 91 → ¬ wI t L (sk t L a) 1032 → ∀ h1, RT t L (sk t L a) o U C h1 → QQ h h1 → C_X12_qFact w h1 (fun _ h11 => C_X12_qDropsNots w h11 (tKD w K))) : tBG w K h := by
  refine l_X12_qTest_2 ⟨⟨by decide, by decide⟩, fun c => absurd c (by decide), fun _ => ⟨R.1.z.1, fun c => absurd R.1.z.2 c, fun _ => R.1.look (fun h4 F4' Y4 => ?_)⟩⟩
  have F4 : Fr h h4 tyL [] := F4'.into (by decide)
  have b := byL_q Y4.1 (sk t L a)
  have R4 := R.ty F4 Y4
  refine ⟨⟨by omega, by omega⟩, fun c => ?_, fun c => c91 (Decidable.not_not.mp c) h4 R4 (QQ.ty F4)⟩
  exact yw_here wq_32 (sk_sk t L a) Y4 (fun W h8 F8 Y8 => cn c W h8 (R4.ty F8 Y8) (QQ.ty (ty2 F4 F8))) (fun W h8 F8 Y8 => cf c W h8 (R4.ty F8 Y8) (QQ.ty (ty2 F4 F8)))
theorem tq_opens {mk : Int} (hm : 10 ≤ mk ∧ mk ≤ 25 ∧ ¬ (20 ≤ mk ∧ mk ≤ 24)) (R : RT t L a o U C h) (ho : o ≤ 6) (hw : U.length < 1700) (k1 : o < 6 → ∀ h1, RT t L a (o + 1) (U ++ [mk]) C h1 → QQ h h1 → K 0 h1) (k0 : 6 ≤ o → ∀ h1, YB t L h1 4 a → h1 68 2 = a → QQ h h1 → K 0 h1) : C_X12_qOpens w mk (h 68 2) h K :=
  yq_opens R.rq ho ⟨by omega, by omega⟩ hw R.1.2.1 (fun lo h1 R1 S1 => k1 lo h1 (R1.rt (R.u.snoc hm)) S1) (fun lo h1 B1 e1 S1 => k0 lo h1 B1 e1 S1)
theorem tq_square (R : RT t L a o U C h) (ho : o ≤ 6) (hw : U.length < 1700) (b : byL t L (sk t L a) = 91) (k1 : o < 6 → ∀ h1, RT t L (sk t L a + 1) (o + 1) (U ++ [25]) C h1 → QQ h h1 → tBG w K h1) (k0 : 6 ≤ o → ∀ h1, YB t L h1 4 (sk t L a) → QQ h h1 → K 0 h1) : tBG w K h := by
  refine tq_bgn R (fun _ h1 R1 S1 => ?_) (fun c => absurd b c) (fun c => absurd b c)
  refine tq_opens (by decide) R1 ho hw (fun lo h2 R2 S2 h3 q3 => ?_) (fun lo h2 B2 e2 S2 h3 q3 => ?_)
  · obtain ⟨R3, F3⟩ := R2.rq.step b (by decide) ⟨by decide, by decide⟩ q3
    exact k1 lo h3 (R3.rt R2.u) ((S1.tr S2).tr (QQ.ty F3))
  · obtain ⟨B3, S3⟩ := B2.qst e2 (byL_lt b (by decide)) q3
    exact dt_2 (Or.inr rfl) B3 (k0 lo h3 B3 ((S1.tr S2).tr S3))
theorem tq_not (R : RT t L a o U C h) (ho : o ≤ 6) (hw : U.length < 1700) (W : wI t L (sk t L a) 1032) (k1 : o < 6 → ∀ h1, RT t L (sk t L a + 3) (o + 1) (U ++ [12]) C h1 → QQ h h1 → tBG w K h1) (k0 : 6 ≤ o → ∀ h1, YB t L h1 4 (sk t L a) → QQ h h1 → K 0 h1) : tBG w K h := by
  have l32 : (slen 1032).toNat = 3 := by decide +kernel
  have lt := W.lt (wdt_ok 1032 (by decide))
  refine tq_bgn R (fun c => absurd c (by omega)) (fun _ _ h1 R1 S1 => ?_) (fun _ c => absurd W c)
  refine tq_opens (by decide) R1 ho hw (fun lo h2 R2 S2 => ?_) (fun lo h2 B2 e2 S2 => yb_asks wq_32.1 B2 (dt_2 (Or.inr rfl) B2 (k0 lo h2 B2 (S1.tr S2))))
  refine y_wdAsks wq_32 R2.1 (fun W3 h3 F3 Y3 => ?_) (fun n => absurd (by rw [sk_sk]; exact W) n)
  rw [sk_sk, l32] at Y3
  exact k1 lo h3 (R2.ty F3 Y3) ((S1.tr S2).tr (QQ.ty F3))
theorem tq_all (R : RT t L a o U C h) (sp : sk t L a = a) (W : wI t L a 1033) (hb : C.length < 1600) (k : ∀ h1, RT t L (a + 3) o U (C ++ [13]) h1 → QQ h h1 → K 0 h1) : C_X12_qFact w h K := by
  have l33 : (slen 1033).toNat = 3 := by decide +kernel
  refine c_X12_qFact (yw_step wq_33 sp R.1 (fun _ h2 F2 Y2 => ?_) (fun n => absurd W n))
  rw [l33] at Y2
  exact tq_code (R.ty F2 Y2) hb (fun h3 R3 S3 => k h3 R3 ((QQ.ty F2).tr S3))
theorem tq_fact0 {f : Int × Int} (R : RT t L a o U C h) (ho : o ≤ 6) (sp : sk t L a = a) (nW : ¬ wI t L a 1033) (hc : C.length + U.length + 1 ≤ a) (sa : sk t L a = sk t L p) (G : Gr t L 1 3 o p (.inl f)) (k : ∀ h1, YB t L h1 f.1 f.2 → QQ h h1 → K 0 h1) : C_X12_qFact w h K := by
  refine c_X12_qFact (yw_step wq_33 sp R.1 (fun W => absurd W nW) (fun _ h2 F2 Y2 => ?_))
  refine yq_sums (R.ty F2 Y2) ho 0 hc sa G (fun _ _ e => nomatch e) (fun kd pl e h5 B5 S5 => ?_)
  have e := Sum.inl.inj e
  subst e
  exact ⟨B5.nz.1, fun c => absurd c B5.nz.2, fun _ => k h5 B5 ((QQ.ty F2).tr S5)⟩
theorem qmono {K1 K2 : Int → Hp → Prop} (k : C_X12_qSums w h K1) (f : ∀ z h', K1 z h' → K2 z h') : C_X12_qSums w h K2 := CGm.mono k f
theorem tq_fact1 {p1 : Nat} {s1 : List Int} (R : RT t L a o U C h) (ho : o ≤ 6) (sp : sk t L a = a) (nW : ¬ wI t L a 1033) (hc : C.length + U.length + 1 ≤ a) (sa : sk t L a = sk t L p) (G : Gr t L 1 3 o p (.inr (p1, s1)))
    (kn : (∀ x ∈ cmW, byL t L (sk t L p1) ≠ x.1) → ∀ h1, YB t L h1 1 (sk t L p1) → QQ h h1 → K 0 h1)
    (kc : ∀ x ∈ cmW, byL t L (sk t L p1) = x.1 → ∀ h1, RT t L (sk t L p1 + 1) o U (C ++ s1.map cdQ) h1 → QQ h h1 → C.length + s1.length + U.length + 2 ≤ sk t L p1 + 1 → C_X12_qSums w h1 (fun _ h15 => C_X12_qCode w x.2.2 h15 (fun _ h20 => K 0 h20))) : C_X12_qFact w h K := by
  refine c_X12_qFact (yw_step wq_33 sp R.1 (fun W => absurd W nW) (fun _ h2 F2 Y2 => ?_))
  refine yq_sums (R.ty F2 Y2) ho 0 hc sa G (fun p' s e h5 R5 l5 S5 => ?_) (fun _ _ e => nomatch e)
  have e := Sum.inr.inj e
  have ep : p1 = p' := congrArg Prod.fst e
  have es : s1 = s := congrArg Prod.snd e
  subst ep; subst es
  refine ⟨R5.1.z.1, fun _ => R5.1.look (fun h9 F9' Y9 => ?_), fun c => absurd R5.1.z.2 c⟩
  have F9 : Fr h5 h9 tyL [] := F9'.into (by decide)
  rw [sk_sk] at Y9 ⊢
  have R9 := R5.ty F9 Y9
  have b := byL_q Y9.1 (sk t L p1)
  have S9 := ((QQ.ty F2).tr S5).tr (QQ.ty F9)
  have one : ∀ x ∈ cmW, byL t L (sk t L p1) = x.1 → ∀ h12 : Hp, h12 = hu h9 68 2 ((h9 68 2) + 1) → C_X12_qSums w h12 (fun _ h15 => C_X12_qCode w x.2.2 h15 (fun _ h20 => K 0 h20)) := fun x hx bx h12 q12 => by
    have xd := (by decide : ∀ x ∈ cmW, 0 ≤ x.1 ∧ ¬ isLt x.1 ∧ ¬ isDg x.1) x hx
    obtain ⟨R12, F12⟩ := R9.rq.step bx xd.1 xd.2 q12
    exact kc x hx bx h12 (R12.rt R9.u) (S9.tr (QQ.ty F12)) (by omega)
  have br : inR (byL t L (sk t L p1)) := ⟨by omega, by omega⟩
  refine ⟨br, fun c h12 q12 => ?_, fun c60 => ⟨br, fun c h12 q12 => ?_, fun c62 => ⟨br, fun c h12 q12 => ?_, fun c61 => ?_⟩⟩⟩
  · have := one (60, (-7, 7)) (by decide) c h12 q12
    rw [c]
    exact qmono this (fun z h15 k => ⟨⟨by decide, by decide⟩, fun c2 => absurd rfl c2, fun _ => k⟩)
  · have := one (62, (-8, 8)) (by decide) c h12 q12
    rw [c]
    exact qmono this (fun z h15 k => ⟨⟨by decide, by decide⟩, fun _ => ⟨⟨by decide, by decide⟩, fun c2 => absurd rfl c2, fun _ => k⟩, fun c2 => absurd (by decide) c2⟩)
  · have := one (61, (-9, 9)) (by decide) c h12 q12
    rw [c]
    exact qmono this (fun z h15 k => ⟨⟨by decide, by decide⟩, fun _ => ⟨⟨by decide, by decide⟩, fun _ => k, fun c2 => absurd (by decide) c2⟩, fun c2 => absurd (by decide) c2⟩)
  · rw [R9.1.2.1]
    refine R9.1.fail ⟨by decide, by decide⟩ (fun h6 F6 B6 => kn (fun x hx => ?_) h6 B6 (S9.tr (QQ.ty F6)))
    simp only [List.mem_cons, List.not_mem_nil, or_false] at hx
    rcases hx with rfl | rfl | rfl
    · exact c60
    · exact c62
    · exact c61
end L5G
