/-! pairs: the class's call, then the reference's: one answer, what stays -/
section L2F
variable {w : Wd} {h : Hp}
theorem p_status {c a : Int} (ha : inR a) (I : I2 c h) (hc : c ≤ 1000000) : C_X11_status w a h (fun z h1 => inR z ∧ C_X12_status w a h1 (fun z2 h2 => z2 = z ∧ h2 = h)) := by
  have no : inR (-1) ∧ (∀ K : Int → Hp → Prop, (a < 0 ∨ 5 < a) → K (-1) h → C_X12_status w a h K) := by
    refine ⟨⟨by decide, by decide⟩, fun K g k => c_X12_status ⟨ha, ⟨by omega, by omega⟩, fun _ => k, fun c1 => ⟨⟨by omega, by omega⟩, fun _ => k, fun c2 => absurd g (by omega)⟩⟩⟩
  refine c_X11_status ⟨ha, fun g => ⟨no.1, no.2 _ (by omega) ⟨rfl, rfl⟩⟩, fun g => ⟨ha, fun g2 => ⟨⟨by omega, by omega⟩, ?_⟩, fun g2 => ⟨no.1, no.2 _ (by omega) ⟨rfl, rfl⟩⟩⟩⟩
  have q := I a (by omega) (by omega)
  exact ⟨⟨by omega, by omega⟩, c_X12_status ⟨ha, ⟨by omega, by omega⟩, fun c1 => absurd c1 g, fun c1 => ⟨⟨by omega, by omega⟩, fun c2 => absurd c2 (by omega), fun c2 => ⟨⟨by omega, by omega⟩, q.1.symm, rfl⟩⟩⟩⟩
theorem p_fault {a : Int} (ha : inR a) (I : I3 h) : C_X11_fault w a h (fun z h1 => inR z ∧ C_X12_fault w a h1 (fun z2 h2 => z2 = z ∧ h2 = h)) := by
  obtain ⟨e1, b1, b2, e2, b3, b4⟩ := I
  refine c_X11_fault ⟨ha, fun g => ⟨⟨by omega, by omega⟩, ?_⟩, fun g => ⟨⟨by omega, by omega⟩, ?_⟩, fun g => ⟨⟨by decide, by decide⟩, ?_⟩⟩
  · exact c_X12_fault ⟨ha, fun c => absurd g c, fun _ => ⟨e1.symm, rfl⟩⟩
  · exact c_X12_fault ⟨ha, fun _ => ⟨ha, fun c => absurd g c, fun _ => ⟨e2.symm, rfl⟩⟩, fun c => absurd (fun q => by omega) c⟩
  · exact c_X12_fault ⟨ha, fun _ => ⟨ha, fun _ => ⟨rfl, rfl⟩, fun c => absurd g.2 c⟩, fun c => absurd g.1 c⟩
theorem p_octet {a : Int} (ha : inR a) (I : I6 h) : C_X11_octet w a h (fun z h1 => inR z ∧ C_X12_octet w a h1 (fun z2 h2 => z2 = z ∧ h2 = h)) := by
  obtain ⟨e1, b1, b2, e2⟩ := I
  refine c_X11_octet ⟨ha, fun g => ⟨⟨by decide, by decide⟩, ?_⟩, fun g => ⟨ha, ⟨by omega, by omega⟩, fun g2 => ⟨⟨by omega, by omega⟩, ?_⟩, fun g2 => ⟨⟨by decide, by decide⟩, ?_⟩⟩⟩
  · exact c_X12_octet ⟨ha, fun _ => ⟨rfl, rfl⟩, fun c => absurd g c⟩
  · have q := e2 a (by omega) (by omega)
    exact ⟨⟨by omega, by omega⟩, c_X12_octet ⟨ha, fun c => absurd c g, fun _ => ⟨ha, ⟨by omega, by omega⟩, fun c => absurd c (by omega), fun _ => ⟨⟨by omega, by omega⟩, q.1.symm, rfl⟩⟩⟩⟩
  · exact c_X12_octet ⟨ha, fun c => absurd c g, fun _ => ⟨ha, ⟨by omega, by omega⟩, fun _ => ⟨rfl, rfl⟩, fun c => absurd (by omega) c⟩⟩
theorem p_seed {c a : Int} (ha : inR a) (I : I4 h) (J : I2 c h) : C_X11_seed w a h (fun z h1 => (z = 0 ∨ z = 1) → C_X12_seed w a h1 (fun z2 h2 => z2 = z ∧ Fr h h2 [(0, 17), (68, 63)] [59, 70] ∧ I4 h2 ∧ I2 (c + 1) h2)) := by
  refine c_X11_seed ⟨ha, fun g => fun h2 e _ => ?_, fun g => x_refuseAct ⟨by decide, by decide⟩ (fun _ _ => ?_)⟩
  · subst e
    refine c_X12_seed ⟨ha, fun _ => ⟨ha, fun h3 e3 => ?_⟩, fun c => absurd g c⟩
    subst e3
    have F : Fr h (hu (hu h 0 17 a) 68 63 a) [(0, 17), (68, 63)] [59, 70] := Fr.sub (L := [(0, 17)] ++ [(68, 63)]) (R := [] ++ []) (Fr.cel.trans Fr.cel) (fun p q => Or.inl (by simpa using q)) (fun o q => absurd q (by simp))
    refine ⟨rfl, F, ?_, (J.fr (Fr.trans (L := [(0, 17)]) (R := []) (L' := [(68, 63)]) (R' := []) Fr.cel Fr.cel) (by decide)).up (by omega)⟩
    unfold I4
    rw [hu_ne (by decide), hu_if, if_pos rfl, hu_if, if_pos rfl]
    exact ⟨rfl, g, ha.2⟩
  · have T := two_refused J (k := 5) ⟨by decide, by decide⟩
    refine c_X12_seed ⟨ha, fun c => absurd c g, fun _ h5 e5 => ?_⟩
    rw [hu_ne (by decide)] at e5
    subst e5
    exact ⟨rfl, T.2.sub (fun p q => absurd q (by simp)) (fun o q => q), I.fr T.2 (by decide), T.1⟩
theorem p_end {c a : Int} (ha : inR a) (I : I1 h) (J : I2 c h) : C_X11_end w a h (fun z h1 => (z = 0 ∨ z = 1) → C_X12_end w a h1 (fun z2 h2 => z2 = z ∧ Fr h h2 [(1, 1), (68, 1)] [59, 70] ∧ I1 h2 ∧ I2 (c + 1) h2)) := by
  have I' := I
  obtain ⟨e1, b1, b2, e2⟩ := I'
  have T := two_refused J (k := 0) ⟨by decide, by decide⟩
  have no : (a < 0 ∨ h 68 1 < a) → C_X12_end w a (hu h 59 0 (h 59 0 + 1)) (fun z2 h2 => z2 = 0 ∧ Fr h h2 [(1, 1), (68, 1)] [59, 70] ∧ I1 h2 ∧ I2 (c + 1) h2) := by
    intro g
    have fin : ∀ h8 : Hp, h8 = hu (hu h 59 0 (h 59 0 + 1)) 70 0 (hu h 59 0 (h 59 0 + 1) 70 0 + 1) → (0 : Int) = 0 ∧ Fr h h8 [(1, 1), (68, 1)] [59, 70] ∧ I1 h8 ∧ I2 (c + 1) h8 := by
      intro h8 e8
      rw [hu_ne (by decide)] at e8
      subst e8
      exact ⟨rfl, T.2.sub (fun p q => absurd q (by simp)) (fun o q => q), I.fr T.2 (by decide), T.1⟩
    refine c_X12_end ⟨ha, fun _ => fin, fun c1 => ⟨ha, ?_, fun c2 => absurd c2 ?_, fun _ => fin⟩⟩
    · rw [hu_ne (by decide)]; exact ⟨by omega, by omega⟩
    · rw [hu_ne (by decide)]; omega
  refine c_X11_end ⟨ha, fun g => x_refuseAct ⟨by decide, by decide⟩ (fun _ _ => no (Or.inl g)), fun g => ⟨ha, ⟨by omega, by omega⟩, fun g2 h7 e7 _ => ?_, fun g2 => x_refuseAct ⟨by decide, by decide⟩ (fun _ _ => no (by omega))⟩⟩
  subst e7
  have h68 : hu h 1 1 a 68 1 = h 68 1 := hu_ne (by decide)
  refine c_X12_end ⟨ha, fun c1 => absurd c1 g, fun _ => ⟨ha, by rw [h68]; exact ⟨by omega, by omega⟩, fun _ h6 e6 => ?_, fun c2 => absurd (by rw [h68]; omega) c2⟩⟩
  subst e6
  have F0 := Fr.trans (L := [(1, 1)]) (R := []) (L' := [(68, 1)]) (R' := []) (Fr.cel (h := h) (o := 1) (i := 1) (v := a)) (Fr.cel (o := 68) (i := 1) (v := a))
  refine ⟨rfl, F0.sub (fun p q => Or.inl (by simpa using q)) (fun o q => absurd q (by simp)), ?_, (J.fr F0 (by decide)).up (by omega)⟩
  have r := (F0.cell (C := []) (W := [2, 69]) (by decide)).2
  unfold I1
  rw [r 2 (by decide), r 69 (by decide), hu_if, if_pos rfl, hu_ne (by decide), hu_if, if_pos rfl]
  exact ⟨rfl, by omega, by omega, fun k h0 h1 => e2 k h0 (by omega)⟩
end L2F
