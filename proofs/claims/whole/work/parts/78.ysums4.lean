/-! the reference's machine: signs, brackets, pairs -/
section L3I
variable {w : Wd} {h h0 h1 h2 : Hp} {K : Int → Hp → Prop} {t : Int → Int} {L p c0 a a1 o : Nat} {W C q : List Int} {z : Int}
theorem YS.last {s : Nat} (Y : YS t L h (s + 1)) (lt : s < L) : (0 ≤ (h 68 2) - 1 ∧ (h 68 2) - 1 < 1600) ∧ h 69 ((h 68 2) - 1) = byL t L s ∧ inR (h 69 ((h 68 2) - 1)) := by
  have e := Y.2.1
  have l := Y.1.2.1
  have v := Y.1.2.2.1 s lt
  rw [e, show ((s + 1 : Nat) : Int) - 1 = (s : Nat) by omega, v.2]
  refine ⟨⟨by omega, by omega⟩, ?_, ⟨by omega, by omega⟩⟩
  unfold byL; rw [if_pos lt]
theorem y_opM {x : Int × Int} (R : RC t L c0 a o (W ++ q) C h) (hb : c0 + C.length + (W ++ q).length + 1 < 1600) (hq : q = [] ∨ q = [3] ∨ q = [4]) (tp : ∀ V y, W = V ++ [y] → y ≠ 3 ∧ y ≠ 4) (hx : x ∈ [((42 : Int), (-3 : Int)), (47, -4)]) (b : byL t L (sk t L a) = x.1) (k : ∀ h1, RC t L c0 (sk t L a + 1) o (W ++ [cdI x.2]) (C ++ q.reverse) h1 → SQ c0 h h1 → BG w K h1) : AF w K h := by
  have go : ∀ h2, RC t L c0 (sk t L a + 1) o (W ++ q) C h2 → sk t L a < L → SQ c0 h h2 → L_X12_goesOn_136 w h2 (KG w K) := fun h2 R2 lt S2 => by
    obtain ⟨l1, l2, l3⟩ := R2.1.last lt
    refine l_X12_goesOn_136 ⟨l1, l3, ?_⟩
    rw [l2, b]
    rcases List.mem_cons.mp hx with rfl | hx
    · exact ⟨fun c => absurd rfl c, fun _ => y_158 R2 hb hq tp ⟨by decide, by decide⟩ (fun h3 R3 S3 => BG.of R3.1 (k h3 R3 (S2.tr S3)))⟩
    · rw [List.mem_singleton.mp hx] at k ⊢
      exact ⟨fun _ => y_158 R2 hb hq tp ⟨by decide, by decide⟩ (fun h3 R3 S3 => BG.of R3.1 (k h3 R3 (S2.tr S3))), fun c => absurd (by decide) c⟩
  have b4 : byL t L (sk t L a) = 42 ∨ byL t L (sk t L a) = 47 := by
    rcases List.mem_cons.mp hx with rfl | hx
    · exact Or.inl b
    · rw [List.mem_singleton.mp hx] at b; exact Or.inr b
  refine y_head0 R (by omega) (fun h1 R1 S1 => ?_)
  refine l_X12_goesOn_118 (y_takesSign R1.1 ⟨by decide, by decide⟩ ⟨by decide, by decide⟩ (fun c lt h2 F2 Y2 _ => ⟨fun _ => ?_, fun c => absurd (by decide) c⟩) (fun c h2 F2 Y2 _ => ⟨fun c => absurd rfl c, fun _ => ?_⟩))
  · rw [sk_sk] at lt Y2
    exact go h2 (R1.ty F2 Y2) lt (S1.tr (SQ.ty F2))
  · rw [sk_sk] at c Y2
    refine y_takesSign Y2 ⟨by decide, by decide⟩ ⟨by decide, by decide⟩ (fun c3 lt h3 F3 Y3 _ => ⟨fun c => absurd c (by decide), fun _ => ?_⟩) (fun c3 h3 F3 Y3 _ => ?_)
    · rw [sk_sk] at lt Y3
      exact go h3 ((R1.ty F2 Y2).ty F3 Y3) lt (S1.tr ((SQ.ty F2).tr (SQ.ty F3)))
    · rw [sk_sk] at c3
      exact absurd b4 (fun x => x.elim c c3)
theorem y_opA {x : Int × Int} (R : RC t L c0 a o (W ++ q) C h) (hb : c0 + C.length + (W ++ q).length + 1 < 1600) (nm : nMk q) (tp : ∀ V y, W = V ++ [y] → y ≠ 1 ∧ y ≠ 2 ∧ y ≠ 3 ∧ y ≠ 4) (hx : x ∈ [((43 : Int), (-1 : Int)), (45, -2)]) (b : byL t L (sk t L a) = x.1) (k : ∀ h1, RC t L c0 (sk t L a + 1) o (W ++ [cdI x.2]) (C ++ q.reverse) h1 → SQ c0 h h1 → BG w K h1) : AF w K h := by
  have go : ∀ h2, RC t L c0 (sk t L a + 1) o (W ++ q) C h2 → sk t L a < L → SQ c0 h h2 → L_X12_goesOn_221 w h2 (KG w K) := fun h2 R2 lt S2 => by
    obtain ⟨l1, l2, l3⟩ := R2.1.last lt
    refine l_X12_goesOn_221 ⟨l1, l3, ?_⟩
    rw [l2, b]
    rcases List.mem_cons.mp hx with rfl | hx
    · exact ⟨fun c => absurd rfl c, fun _ => y_243 ⟨by decide, by decide⟩ tp _ rfl R2 hb nm (fun h3 R3 S3 => BG.of R3.1 (k h3 R3 (S2.tr S3)))⟩
    · rw [List.mem_singleton.mp hx] at k ⊢
      exact ⟨fun _ => y_243 ⟨by decide, by decide⟩ tp _ rfl R2 hb nm (fun h3 R3 S3 => BG.of R3.1 (k h3 R3 (S2.tr S3))), fun c => absurd (by decide) c⟩
  have b4 : byL t L (sk t L a) = 43 ∨ byL t L (sk t L a) = 45 := by
    rcases List.mem_cons.mp hx with rfl | hx
    · exact Or.inl b
    · rw [List.mem_singleton.mp hx] at b; exact Or.inr b
  refine y_head0 R (by omega) (fun h1 R1 S1 => ?_)
  refine l_X12_goesOn_118 (y_takesSign R1.1 ⟨by decide, by decide⟩ ⟨by decide, by decide⟩ (fun c lt h2 F2 Y2 _ => absurd c (by rw [sk_sk]; omega)) (fun c h2 F2 Y2 _ => ⟨fun c => absurd rfl c, fun _ => ?_⟩))
  rw [sk_sk] at Y2
  refine y_takesSign Y2 ⟨by decide, by decide⟩ ⟨by decide, by decide⟩ (fun c lt h3 F3 Y3 _ => absurd c (by rw [sk_sk]; omega)) (fun c3 h3 F3 Y3 _ => ⟨fun _ => ?_, fun c => absurd rfl c⟩)
  rw [sk_sk] at Y3
  have R3 := (R1.ty F2 Y2).ty F3 Y3
  have S3 := S1.tr ((SQ.ty F2).tr (SQ.ty F3))
  refine y_takesSign Y3 ⟨by decide, by decide⟩ ⟨by decide, by decide⟩ (fun c lt h4 F4 Y4 _ => ⟨fun _ => ?_, fun c => absurd (by decide) c⟩) (fun c4 h4 F4 Y4 _ => ⟨fun c => absurd rfl c, fun _ => ?_⟩)
  · rw [sk_sk] at lt Y4
    exact go h4 (R3.ty F4 Y4) lt (S3.tr (SQ.ty F4))
  · rw [sk_sk] at c4 Y4
    refine y_takesSign Y4 ⟨by decide, by decide⟩ ⟨by decide, by decide⟩ (fun c5 lt h5 F5 Y5 _ => ⟨fun c => absurd c (by decide), fun _ => ?_⟩) (fun c5 h5 F5 Y5 _ => ?_)
    · rw [sk_sk] at lt Y5
      exact go h5 ((R3.ty F4 Y4).ty F5 Y5) lt (S3.tr ((SQ.ty F4).tr (SQ.ty F5)))
    · rw [sk_sk] at c5
      exact absurd b4 (fun x => x.elim c4 c5)
theorem YB.st {kd pl : Int} {s : Nat} (B : YB t L h kd pl) (e : h 68 2 = s) (lt : s < L) (q : h1 = hu h 68 2 ((h 68 2) + 1)) : YB t L h1 kd pl ∧ SQ c0 h h1 := by
  obtain ⟨T, b1, b2, b3, b4, b5, b6⟩ := B
  have F : Fr h h1 [(68, 2)] [] := by rw [q]; exact Fr.cel
  have c := (F.cell (C := [(68, 5), (68, 6)]) (W := []) (by decide)).1
  have c5 := c (68, 5) (by decide)
  have c6 := c (68, 6) (by decide)
  dsimp only at c5 c6
  have e2 : h1 68 2 = (s : Int) + 1 := by rw [q, hu_if, if_pos rfl, e]
  exact ⟨⟨T.fr F (by decide), by rw [c5]; exact b1, by rw [c6]; exact b2, b3, b4, by rw [e2]; omega, by rw [e2]; omega⟩, SQ.ty (F.into (by decide))⟩
theorem byL_lt {s : Nat} {c : Int} (b : byL t L s = c) (hc : 0 ≤ c) : s < L := by
  unfold byL at b
  by_cases d : s < L
  · exact d
  · rw [if_neg d] at b; omega
theorem y_paren (R : RC t L c0 a o W C h) (ho : o ≤ 6) (hw : W.length < 1700) (b : byL t L (sk t L a) = 40) (k1 : o < 6 → ∀ h1, RC t L c0 (sk t L a + 1) (o + 1) (W ++ [20]) C h1 → SQ c0 h h1 → BG w K h1) (k0 : 6 ≤ o → ∀ h1, YB t L h1 4 (sk t L a) → SQ c0 h h1 → K 0 (hu h1 68 48 0)) : BG w K h := by
  have no : ∀ {x : Int}, wOK x → ¬ wI t L (sk t L a) x := fun ok W => by have := W.lt ok; omega
  refine y_bgn R (fun _ h1 R1 S1 => ?_) (fun c => absurd b c) (fun c => absurd b c)
  refine y_opens R1 ho ⟨by decide, by decide⟩ hw R1.1.2.1 (fun lo h2 R2 S2 h3 q3 => ?_) (fun lo h2 B2 e2 S2 h3 q3 => ?_)
  · obtain ⟨R3, F3⟩ := R2.step b (by decide) ⟨by decide, by decide⟩ q3
    exact l_X12_onePart_143 (k1 lo h3 R3 ((S1.tr S2).tr (SQ.ty F3)))
  · obtain ⟨B3, S3⟩ := B2.st (c0 := c0) e2 (byL_lt b (by decide)) q3
    exact dd_143 (Or.inr rfl) B3 (k0 lo h3 B3 ((S1.tr S2).tr S3))
/-- min or max: its bracket opens -/
theorem y_pair0 {x : Int} (R : RC t L c0 a o W C h) (ho : o ≤ 6) (hw : W.length < 1700) (hx : x = 1011 ∨ x = 1012) (wx : wI t L (sk t L a) x)
    (k1 : byL t L (sk t L (sk t L a + 3)) = 40 → o < 6 → ∀ h1, RC t L c0 (sk t L (sk t L a + 3) + 1) (o + 1) (W ++ [if x = 1011 then 21 else 22]) C h1 → SQ c0 h h1 → BG w K h1)
    (k4 : byL t L (sk t L (sk t L a + 3)) = 40 → 6 ≤ o → ∀ h1, YB t L h1 4 (sk t L (sk t L a + 3)) → SQ c0 h h1 → K 0 (hu h1 68 48 0))
    (k0 : byL t L (sk t L (sk t L a + 3)) ≠ 40 → ∀ h1, YB t L h1 1 (sk t L (sk t L a + 3)) → SQ c0 h h1 → K 0 (hu h1 68 48 0)) : BG w K h := by
  have okx : wOK x := by rcases hx with rfl | rfl <;> decide +kernel
  have lt := wx.lt okx
  have l11 : (slen 1011).toNat = 3 := by decide +kernel
  have l12 : (slen 1012).toNat = 3 := by decide +kernel
  generalize hs : sk t L (sk t L a + 3) = s at k1 k4 k0
  have ss : sk t L s = s := by rw [← hs, sk_sk]
  have rest : ∀ v3 : Int, (v3 = 0 ∨ v3 = 1) → (v3 = 0 → x = 1012) → (v3 ≠ 0 → x = 1011) → ∀ h2, RC t L c0 (sk t L a + 3) o W C h2 → SQ c0 h h2 → L_X12_onePart_90 w 1 v3 h2 (KP w K) := fun v3 hv z0 z1 h2 R2 S2 => by
    have opened : byL t L s = 40 → ∀ h4, RC t L c0 s (o + 1) (W ++ [if x = 1011 then 21 else 22]) C h4 → o < 6 → SQ c0 h h4 → L_X12_onePart_132 w 1 h4 (KP w K) := fun b h4 R4 lo S4 => by
      refine l_X12_onePart_132 (y_asksSign R4.1 ⟨by decide, by decide⟩ ⟨by decide, by decide⟩ (fun c l5 h5 F5 Y5 => ?_) (fun c => absurd (by rw [ss]; exact b) c))
      rw [ss] at Y5
      exact l_X12_onePart_143 (k1 b lo h5 (R4.ty F5 Y5) (S4.tr (SQ.ty F5)))
    refine l_X12_onePart_90 (R2.1.look (fun h3 F3' Y3 => ?_))
    have F3 : Fr h2 h3 tyL [] := F3'.into (by decide)
    have b := byL_q Y3.1 (sk t L (sk t L a + 3))
    rw [hs] at b Y3 ⊢
    have R3 := R2.ty F3 Y3
    have S3 := S2.tr (SQ.ty F3)
    have e3 := Y3.2.1
    have l3 := Y3.2.2.1
    have l4 := Y3.1.2.1
    refine ⟨⟨by omega, by omega⟩, fun c => ?_, fun c => ⟨by rw [e3]; exact ⟨by omega, by omega⟩, fun c2 => absurd c2 (by omega), fun _ => ⟨by rcases hv with rfl | rfl <;> exact ⟨by decide, by decide⟩, fun v0 => ?_, fun v1 => ?_⟩⟩⟩
    · refine l_X12_onePart_132 (y_asksSign Y3 ⟨by decide, by decide⟩ ⟨by decide, by decide⟩ (fun c2 => absurd (by rw [ss] at c2; exact c2) c) (fun c2 h4 F4 B4 => ?_))
      rw [ss] at B4
      exact dd_143 (Or.inr rfl) B4 (k0 c h4 B4 (S3.tr (SQ.ty F4)))
    all_goals
      have c := Decidable.not_not.mp c
    · have zx := z0 v0
      refine y_opens R3 ho ⟨by decide, by decide⟩ hw e3 (fun lo h4 R4 S4 => opened c h4 (by rw [zx, if_neg (by decide)]; exact R4) lo (S3.tr S4)) (fun lo h4 B4 e4 S4 => l_X12_onePart_132 (yb_asksSign B4 (dd_143 (Or.inr rfl) B4 (k4 c lo h4 B4 (S3.tr S4)))))
    · have zx := z1 v1
      refine y_opens R3 ho ⟨by decide, by decide⟩ hw e3 (fun lo h4 R4 S4 => opened c h4 (by rw [zx, if_pos rfl]; exact R4) lo (S3.tr S4)) (fun lo h4 B4 e4 S4 => l_X12_onePart_132 (yb_asksSign B4 (dd_143 (Or.inr rfl) B4 (k4 c lo h4 B4 (S3.tr S4)))))
  refine y_bgn R (fun b => absurd b (by omega)) (fun _ _ h1 R1 S1 => ?_) (fun _ n1 n2 => absurd wx (by rcases hx with rfl | rfl <;> assumption))
  refine l_X12_onePart_69 (y_wd wr_11 R1.1 (fun w2 h2 F2 Y2 _ => ⟨fun _ => ?_, fun c => absurd (by decide) c⟩) (fun w2 h2 F2 Y2 _ => ⟨fun c => absurd rfl c, fun _ => ?_⟩))
  · rw [sk_sk] at w2 Y2
    rw [l11] at Y2
    have ex : x = 1011 := by
      rcases hx with rfl | rfl
      · rfl
      · exact wx.eq w2 (by decide) (by decide)
    exact rest 1 (Or.inr rfl) (fun c => absurd c (by decide)) (fun _ => ex) h2 (R1.ty F2 Y2) (S1.tr (SQ.ty F2))
  · rw [sk_sk] at w2 Y2
    have ex : x = 1012 := by
      rcases hx with rfl | rfl
      · exact absurd wx w2
      · rfl
    refine y_wdAsks wr_12 Y2 (fun w3 h3 F3 Y3 => ?_) (fun w3 => absurd (by rw [sk_sk]; rw [ex] at wx; exact wx) w3)
    rw [sk_sk, l12] at Y3
    exact rest 0 (Or.inl rfl) (fun _ => ex) (fun c => absurd rfl c) h3 ((R1.ty F2 Y2).ty F3 Y3) (S1.tr ((SQ.ty F2).tr (SQ.ty F3)))
end L3I
