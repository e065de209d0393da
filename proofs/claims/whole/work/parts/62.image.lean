/-! the pair of image -/
section L2h
variable {w : Wd} {c : Int} {h h0 : Hp} {K : Int → Hp → Prop} {g : Int → Int}
theorem im_room {nb nr : Nat} (hb : nb ≤ 10) (hr : nr ≤ 8) : (1 + 2 * nb) * nr ≤ 168 := by
  have := Nat.mul_le_mul (show 1 + 2 * nb ≤ 21 by omega) hr
  omega
theorem mul_up {a n m : Nat} (h : n < m) : a * n + a ≤ a * m := by
  have := Nat.mul_le_mul_left a (show n + 1 ≤ m by omega)
  rw [Nat.mul_add] at this
  omega
/-- all that is written is an octet -/
theorem im_ok {r : Int} (R : RR h r) (G : GS h g) {nb nr : Nat} (hb : nb ≤ 10) (hr : nr ≤ 8) : (∀ x : Nat, x < 8 → ∀ (m : Nat) (l : List Int), m ≤ 10 → OK8 l → OK8 (imB g x m l)) ∧ (∀ n : Nat, n ≤ 8 → OK8 (imX g nb n)) ∧ (∀ m : Nat, m ≤ 10 → OK8 (imH g nb nr m)) := by
  have B : ∀ x : Nat, x < 8 → ∀ (m : Nat) (l : List Int), m ≤ 10 → OK8 l → OK8 (imB g x m l) := by
    intro x hx m
    induction m with
    | zero => intro l _ o; exact o
    | succ m ih =>
      intro l hm o
      have g1 := (G.2.2.2.1 x m (by omega) (by omega) (by omega) (by omega)).1
      have g2 := (G.bnd R).2.2 x m (by omega) (by omega) (by omega) (by omega)
      unfold imB
      exact ((ih l (by omega) o).add (by omega)).add (by omega)
  have X : ∀ n : Nat, n ≤ 8 → OK8 (imX g nb n) := by
    intro n
    induction n with
    | zero =>
      intro _
      have g1 := G.1
      unfold imX
      exact (OK8.add (fun v hv => absurd hv List.not_mem_nil) (by omega)).add (by omega)
    | succ n ih =>
      intro hn
      have g1 := G.2.1 n (by omega) (by omega)
      unfold imX
      exact B n (by omega) nb _ hb ((ih (by omega)).add (by omega))
  refine ⟨B, X, fun m => ?_⟩
  induction m with
  | zero => intro _; exact X nr hr
  | succ m ih =>
    intro hm
    have g1 := G.2.2.1 m (by omega) (by omega)
    have g2 := ((G.bnd R).2.1 m (by omega) (by omega)).2
    unfold imH
    exact (((ih (by omega)).add (by omega)).add (by omega)).add (by omega)
theorem q_image (I : Inv c h) : C_X11_image w h (fun z h1 => inR z ∧ C_X12_image w h1 (PI c z)) := by
  have R := I.2.1.1
  have nr := R.nr
  have nb := R.nb
  have G := I.2.2.1
  have X := I.2.2.2.1
  have room := im_room nb.2.1 nr.2.1
  have OK := im_ok (nb := nbN h) (nr := nrN h) R G nb.2.1 nr.2.1
  have gy := G.1
  obtain ⟨LL, hLL⟩ : ∃ l, l = imH (h 104) (nbN h) (nrN h) (nbN h) := ⟨_, rfl⟩
  have lenL : LL.length = 2 + (1 + 2 * nbN h) * nrN h + 3 * nbN h := by rw [hLL]; exact imH_len
  have okL : OK8 LL := by rw [hLL]; exact OK.2.2 _ nb.2.1
  -- the class
  have S1 : ∀ {h' l}, XW h h' l → h' 0 4 = h 0 4 ∧ h' (h 0 4) 12 = nrN h ∧ h' (h 0 4 + 5) 1 = nbN h ∧ (∀ o : Int, o ≠ 0 → o ≠ 58 → h' o = h o) := fun {h' l} A => by
    have S := Sl.of I.2.1.rr A.2.2 (by decide)
    refine ⟨S.1, by rw [S.2.2.2.1 _ (by omega) (by omega)]; exact nr.2.2.1, by rw [S.2.2.2.1 _ (by omega) (by omega)]; exact nb.2.2, fun o n1 n2 => by
      funext i
      exact A.2.2 o i (fun q => n2 (List.mem_singleton.mp q)) (fun q => n1 (congrArg Prod.fst (List.mem_singleton.mp q)))⟩
  -- the reference, behind it
  have yim : ∀ h1 cl, XW h h1 (LL ++ [cl]) → cl = ckF (fun k => LL.getD k.toNat 0) LL.length → C_X12_image w h1 (PI c ((LL ++ [cl]).length : Nat)) := by
    intro h1 cl A1 hcl
    have clb : 0 ≤ cl ∧ cl ≤ 250 := by
      rw [hcl]
      refine ckF_b (fun k hk => ?_)
      rw [Int.toNat_natCast, List.getD_eq_getElem?_getD, List.getElem?_eq_getElem hk]
      exact okL _ (List.getElem_mem hk)
    have s1 := (S1 A1).2.2.2
    have S := Sl.of I.2.1.rr A1.2.2 (by decide)
    have S2 : ∀ {h' l}, YO h1 h' l → h' 68 36 = nrN h ∧ h' 93 5 = nbN h ∧ h' 104 = h 104 := fun {h' l} A => by
      have S' := S.tr (Sl.of (by rw [S.1]; exact I.2.1.rr) A.2.2 (by decide))
      refine ⟨by rw [S'.2.2.1]; exact nr.1, by rw [S'.2.2.2.2.1 5 (by omega)]; exact nb.1, ?_⟩
      rw [(A.2.2.cell (C := []) (W := [104]) (by decide)).2 104 (by decide)]
      exact s1 104 (by decide) (by decide)
    -- behind the last bank: the check
    have L71 : ∀ j m : Nat, m + j = nbN h → ∀ h', YO h1 h' (imH (h 104) (nbN h) (nrN h) m) → L_X12_image_71 w m h' (PI c ((LL ++ [cl]).length : Nat)) := by
      intro j
      induction j with
      | zero =>
        intro m e h' A
        obtain rfl : m = nbN h := e
        rw [← hLL] at A
        obtain ⟨d1, d2, d3⟩ := S2 A
        refine l_X12_image_71 ?_
        rw [d2, A.1]
        refine ⟨⟨by omega, by omega⟩, ⟨by omega, by omega⟩, fun _ => c_X12_checked ar_136 ?_, fun q => absurd (Int.le_refl _) q⟩
        suffices ∀ j k : Nat, k + j = LL.length → L_X12_checked_6 w 136 LL.length (ckF (h' 136) k) k h' (fun r22 h23 => C_X12_writes w r22 h23 (fun _ h26 => PI c ((LL ++ [cl]).length : Nat) (h26 68 97) h26)) from this LL.length 0 (by omega)
        intro j
        induction j with
        | zero =>
          intro k ek
          obtain rfl : k = LL.length := ek
          refine l_X12_checked_6 ar_136 ⟨⟨by omega, by omega⟩, ⟨by omega, by omega⟩, fun _ => ?_, fun q => absurd (Int.le_refl _) q⟩
          have ec : ckF (h' 136) LL.length = cl := by
            rw [hcl]
            exact ckF_cg (fun k hk => by rw [A.2.1 k hk, Int.toNat_natCast])
          rw [ec]
          refine y_writes A (by omega) (fun h2 A2 => ⟨A2.1, ?_⟩)
          have FF := A1.2.2.trans A2.2.2
          have e16 : h2 0 16 = ((LL ++ [cl]).length : Nat) := by rw [← A1.1]; exact (A2.2.2.cell (C := [(0, 16)]) (W := []) (by decide)).1 (0, 16) (by decide)
          have e58 : h2 58 = h1 58 := (A2.2.2.cell (C := []) (W := [58]) (by decide)).2 58 (by decide)
          have ll : (LL ++ [cl]).length = LL.length + 1 := by rw [List.length_append, List.length_singleton]
          have S3 : Sl h h2 := Sl.of I.2.1.rr FF (by decide)
          refine ⟨⟨I.1.1.fr FF (by decide), (I.1.2.1.fr FF (by decide)).up (by omega), I.1.2.2.1.fr FF (by decide), I.1.2.2.2.1.fr FF (by decide), I.1.2.2.2.2.1.fr FF (by decide), ?_⟩, I.2.1.sl S3, I.2.2.fr S3 FF (by decide) (by decide) (by decide) (I.2.2.2.2.2.fr FF (by decide))⟩
          refine ⟨by rw [e16, A2.1], by rw [A2.1]; omega, by rw [A2.1]; omega, fun k k0 k1 => ?_⟩
          rw [A2.1] at k1
          obtain ⟨kn, rfl⟩ : ∃ kn : Nat, k = kn := ⟨k.toNat, by omega⟩
          rw [e58]
          have o2 : OK8 (LL ++ [cl]) := okL.add (by omega)
          have b := A2.2.1.ok o2 (k := kn) (by omega)
          exact ⟨by rw [A1.2.1 kn (by omega), A2.2.1 kn (by omega)], b.1, b.2⟩
        | succ j ih =>
          intro k ek
          have b := A.2.1.ok okL (k := k) (by omega)
          have cb := ckF_b (f := h' 136) (n := k) (fun i hi => A.2.1.ok okL (by omega))
          exact l_X12_checked_6 ar_136 ⟨⟨by omega, by omega⟩, ⟨by omega, by omega⟩, fun q => absurd q (by omega), fun _ => ⟨⟨by omega, by show (k : Int) < ((201 : Nat) : Int); omega⟩, ⟨by omega, by omega⟩, ih (k + 1) (by omega)⟩⟩
      | succ j ih =>
        intro m e h' A
        obtain ⟨d1, d2, d3⟩ := S2 A
        have ln := imH_len (g := h 104) (nb := nbN h) (nr := nrN h) (m := m)
        have g1 := G.2.2.1 m (by omega) (by omega)
        have g2 := ((G.bnd R).2.1 m (by omega) (by omega)).2
        refine l_X12_image_71 ?_
        rw [d2, d3]
        refine ⟨⟨by omega, by omega⟩, ⟨by omega, by omega⟩, fun q => absurd q (by omega), fun _ => ⟨⟨by omega, by omega⟩, y_writes A (by omega) (fun h30 A30 => ⟨⟨by omega, by omega⟩, ?_⟩)⟩⟩
        rw [(S2 A30).2.2]
        exact y_writesTwo A30 (by rw [List.length_append, List.length_singleton]; omega) ⟨by omega, by omega⟩ (fun h34 A34 => ih (m + 1) (by omega) h34 A34)
    have L17 : ∀ j n : Nat, n + j = nrN h → ∀ h', YO h1 h' (imX (h 104) (nbN h) n) → L_X12_image_17 w n h' (PI c ((LL ++ [cl]).length : Nat)) := by
      intro j
      induction j with
      | zero =>
        intro n e h' A
        obtain rfl : n = nrN h := e
        refine l_X12_image_17 ?_
        rw [(S2 A).1]
        exact ⟨⟨by omega, by omega⟩, ⟨by omega, by omega⟩, fun _ => L71 (nbN h) 0 (by omega) h' A, fun q => absurd (Int.le_refl _) q⟩
      | succ j ih =>
        intro n e h' A
        have ln := imX_len (g := h 104) (nb := nbN h) (n := n)
        have mu := mul_up (a := 1 + 2 * nbN h) (show n < nrN h by omega)
        refine l_X12_image_17 ?_
        rw [(S2 A).1, (S2 A).2.2]
        refine ⟨⟨by omega, by omega⟩, ⟨by omega, by omega⟩, fun q => absurd q (by omega), fun _ => ⟨⟨by omega, by omega⟩, y_writes A (by omega) (fun h10 A10 => ?_)⟩⟩
        have l10 : (imX (h 104) (nbN h) n ++ [h 104 (1 + (n : Int))]).length = 2 + (1 + 2 * nbN h) * n + 1 := by rw [List.length_append, ln, List.length_singleton]
        suffices ∀ i m : Nat, m + i = nbN h → ∀ h', YO h1 h' (imB (h 104) n m (imX (h 104) (nbN h) n ++ [h 104 (1 + (n : Int))])) → L_X12_image_39 w n m h' (PI c ((LL ++ [cl]).length : Nat)) from this (nbN h) 0 (by omega) h10 A10
        intro i
        induction i with
        | zero =>
          intro m em h' A
          obtain rfl : m = nbN h := em
          refine l_X12_image_39 ?_
          rw [(S2 A).2.1]
          exact ⟨⟨by omega, by omega⟩, ⟨by omega, by omega⟩, fun _ => ih (n + 1) (by omega) h' A, fun q => absurd (Int.le_refl _) q⟩
        | succ i ihi =>
          intro m em h' A
          have lb := imB_len (g := h 104) (x := n) (m := m) (l := imX (h 104) (nbN h) n ++ [h 104 (1 + (n : Int))])
          have g1 := (G.2.2.2.1 n m (by omega) (by omega) (by omega) (by omega)).1
          have g2 := (G.bnd R).2.2 n m (by omega) (by omega) (by omega) (by omega)
          refine l_X12_image_39 ?_
          rw [(S2 A).2.1, (S2 A).2.2]
          exact ⟨⟨by omega, by omega⟩, ⟨by omega, by omega⟩, fun q => absurd q (by omega), fun _ => ⟨⟨by omega, by omega⟩, y_writesTwo A (by omega) ⟨by omega, by omega⟩ (fun h17 A17 => ihi (m + 1) (by omega) h17 A17)⟩⟩
    refine c_X12_image (fun h2 q2 => ?_)
    have F2 : Fr h1 h2 [(68, 97)] [] := by rw [q2]; exact Fr.cel
    have A0 : YO h1 h2 [] := ⟨by rw [q2, hu_if, if_pos rfl]; rfl, fun k hk => absurd hk (by simp), F2.into (by decide)⟩
    rw [(S2 A0).2.2]
    exact y_writesTwo A0 (by decide) ⟨by omega, by omega⟩ (fun h4 A4 => L17 (nrN h) 0 (by omega) h4 A4)
  have L89 : ∀ j m : Nat, m + j = nbN h → ∀ h', XW h h' (imH (h 104) (nbN h) (nrN h) m) → L_X11_image_89 w m h' (fun z h1 => inR z ∧ C_X12_image w h1 (PI c z)) := by
    intro j
    induction j with
    | zero =>
      intro m e h' A
      obtain rfl : m = nbN h := e
      rw [← hLL] at A
      obtain ⟨d1, d2, d3, d4⟩ := S1 A
      refine l_X11_image_89 ?_
      rw [d1, d3]
      refine ⟨R.ob, ⟨by omega, by omega⟩, ⟨by omega, by omega⟩, fun _ => ?_, fun q => absurd (Int.le_refl _) q⟩
      suffices ∀ j k : Nat, k + j = LL.length → L_X11_image_141 w (ckF (h' 58) k) k h' (fun z h1 => inR z ∧ C_X12_image w h1 (PI c z)) from this LL.length 0 (by omega)
      intro j
      induction j with
      | zero =>
        intro k ek
        obtain rfl : k = LL.length := ek
        have cb := ckF_b (f := h' 58) (n := LL.length) (fun i hi => A.2.1.ok okL (by omega))
        refine l_X11_image_141 ?_
        rw [A.1]
        refine ⟨⟨by omega, by omega⟩, ⟨by omega, by omega⟩, fun _ => x_write A (by omega) ⟨by omega, by omega⟩ (fun h37 A37 => ?_), fun q => absurd (Int.le_refl _) q⟩
        have ll : (LL ++ [ckF (h' 58) LL.length]).length = LL.length + 1 := by rw [List.length_append, List.length_singleton]
        rw [A37.1]
        refine ⟨⟨by omega, by omega⟩, yim h37 _ A37 ?_⟩
        exact ckF_cg (fun k hk => by rw [A.2.1 k hk, Int.toNat_natCast])
      | succ j ih =>
        intro k ek
        have b := A.2.1.ok okL (k := k) (by omega)
        have cb := ckF_b (f := h' 58) (n := k) (fun i hi => A.2.1.ok okL (by omega))
        refine l_X11_image_141 ?_
        rw [A.1]
        exact ⟨⟨by omega, by omega⟩, ⟨by omega, by omega⟩, fun q => absurd q (by omega), fun _ => ⟨⟨by omega, by omega⟩, ⟨by omega, by omega⟩, ih (k + 1) (by omega)⟩⟩
    | succ j ih =>
      intro m e h' A
      obtain ⟨d1, d2, d3, d4⟩ := S1 A
      have ln := imH_len (g := h 104) (nb := nbN h) (nr := nrN h) (m := m)
      have g1 := G.2.2.1 m (by omega) (by omega)
      have g2 := ((G.bnd R).2.1 m (by omega) (by omega)).2
      have x1 := (X.2.2.1 m (by omega) (by omega))
      refine l_X11_image_89 ?_
      rw [d1, d3, show h' 43 m = h 104 (9 + m) by rw [d4 43 (by decide) (by decide)]; exact x1.1]
      refine ⟨R.ob, ⟨by omega, by omega⟩, ⟨by omega, by omega⟩, fun q => absurd q (by omega), fun _ => ⟨⟨by omega, by omega⟩, x_write A (by omega) ⟨by omega, by omega⟩ (fun h27 A27 => ⟨⟨by omega, by omega⟩, ?_⟩)⟩⟩
      rw [show h27 44 m = h 104 (19 + m) by rw [(S1 A27).2.2.2 44 (by decide) (by decide)]; exact x1.2]
      exact x_writeTwo A27 (by rw [List.length_append, List.length_singleton]; omega) ⟨by omega, by omega⟩ (fun h31 A31 => ih (m + 1) (by omega) h31 A31)
  have L18 : ∀ j n : Nat, n + j = nrN h → ∀ h', XW h h' (imX (h 104) (nbN h) n) → L_X11_image_18 w n h' (fun z h1 => inR z ∧ C_X12_image w h1 (PI c z)) := by
    intro j
    induction j with
    | zero =>
      intro n e h' A
      obtain rfl : n = nrN h := e
      obtain ⟨d1, d2, d3, d4⟩ := S1 A
      refine l_X11_image_18 ?_
      rw [d1, d2]
      exact ⟨R.ob, ⟨by omega, by omega⟩, ⟨by omega, by omega⟩, fun _ => L89 (nbN h) 0 (by omega) h' A, fun q => absurd (Int.le_refl _) q⟩
    | succ j ih =>
      intro n e h' A
      obtain ⟨d1, d2, d3, d4⟩ := S1 A
      have ln := imX_len (g := h 104) (nb := nbN h) (n := n)
      have mu := mul_up (a := 1 + 2 * nbN h) (show n < nrN h by omega)
      have g1 := G.2.1 n (by omega) (by omega)
      refine l_X11_image_18 ?_
      rw [d1, d2, show h' 41 n = h 104 (1 + n) by rw [d4 41 (by decide) (by decide)]; exact X.2.1 n (by omega) (by omega)]
      refine ⟨R.ob, ⟨by omega, by omega⟩, ⟨by omega, by omega⟩, fun q => absurd q (by omega), fun _ => ⟨⟨by omega, by omega⟩, x_write A (by omega) ⟨by omega, by omega⟩ (fun h10 A10 => ?_)⟩⟩
      have l10 : (imX (h 104) (nbN h) n ++ [h 104 (1 + (n : Int))]).length = 2 + (1 + 2 * nbN h) * n + 1 := by rw [List.length_append, ln, List.length_singleton]
      suffices ∀ i m : Nat, m + i = nbN h → ∀ h', XW h h' (imB (h 104) n m (imX (h 104) (nbN h) n ++ [h 104 (1 + (n : Int))])) → L_X11_image_44 w n m h' (fun z h1 => inR z ∧ C_X12_image w h1 (PI c z)) from this (nbN h) 0 (by omega) h10 A10
      intro i
      induction i with
      | zero =>
        intro m em h' A
        obtain rfl : m = nbN h := em
        obtain ⟨d1, d2, d3, d4⟩ := S1 A
        refine l_X11_image_44 ?_
        rw [d1, d3]
        exact ⟨R.ob, ⟨by omega, by omega⟩, ⟨by omega, by omega⟩, fun _ => ih (n + 1) (by omega) h' A, fun q => absurd (Int.le_refl _) q⟩
      | succ i ihi =>
        intro m em h' A
        obtain ⟨d1, d2, d3, d4⟩ := S1 A
        have lb := imB_len (g := h 104) (x := n) (m := m) (l := imX (h 104) (nbN h) n ++ [h 104 (1 + (n : Int))])
        have g1 := (G.2.2.2.1 n m (by omega) (by omega) (by omega) (by omega)).1
        have g2 := (G.bnd R).2.2 n m (by omega) (by omega) (by omega) (by omega)
        refine l_X11_image_44 ?_
        rw [d1, d3, show h' 42 ((n : Int) * 10 + m) = h 104 (29 + 10 * (n : Int) + m) by rw [d4 42 (by decide) (by decide)]; exact X.2.2.2 n m (by omega) (by omega) (by omega) (by omega)]
        exact ⟨R.ob, ⟨by omega, by omega⟩, ⟨by omega, by omega⟩, fun q => absurd q (by omega), fun _ => ⟨⟨by omega, by omega⟩, x_writeTwo A (by omega) ⟨by omega, by omega⟩ (fun h17 A17 => ihi (m + 1) (by omega) h17 A17)⟩⟩
  refine c_X11_image (fun h1 q1 => ?_)
  have F1 : Fr h h1 [(0, 16)] [] := by rw [q1]; exact Fr.cel
  have A0 : XW h h1 [] := ⟨by rw [q1, hu_if, if_pos rfl]; rfl, fun k hk => absurd hk (by simp), F1.into (by decide)⟩
  rw [show h1 40 4 = h 104 0 by rw [(S1 A0).2.2.2 40 (by decide) (by decide)]; exact X.1]
  exact x_writeTwo A0 (by decide) ⟨by omega, by omega⟩ (fun h4 A4 => L18 (nrN h) 0 (by omega) h4 A4)
end L2h
