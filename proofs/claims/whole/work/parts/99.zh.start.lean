/-! what holds at the law's entry -/
theorem mT_1 {i : Nat} {w : Cond} (hi : tables_1_1[i]? = some w) : w ∈ lw_tbl := List.mem_append_right _ (by have h := List.mem_of_getElem? hi; exact List.mem_append_left _ h)
theorem mT_2 {i : Nat} {w : Cond} (hi : tables_1_2[i]? = some w) : w ∈ lw_tbl := List.mem_append_right _ (by have h := List.mem_of_getElem? hi; exact List.mem_append_right _ (List.mem_append_left _ h))
theorem mT_3 {i : Nat} {w : Cond} (hi : tables_1_3[i]? = some w) : w ∈ lw_tbl := List.mem_append_right _ (by have h := List.mem_of_getElem? hi; exact List.mem_append_right _ (List.mem_append_right _ (List.mem_append_left _ h)))
theorem mT_4 {i : Nat} {w : Cond} (hi : tables_1_4[i]? = some w) : w ∈ lw_tbl := List.mem_append_right _ (by have h := List.mem_of_getElem? hi; exact List.mem_append_right _ (List.mem_append_right _ (List.mem_append_right _ (List.mem_append_left _ h))))
theorem mT_5 {i : Nat} {w : Cond} (hi : tables_1_5[i]? = some w) : w ∈ lw_tbl := List.mem_append_right _ (by have h := List.mem_of_getElem? hi; exact List.mem_append_right _ (List.mem_append_right _ (List.mem_append_right _ (List.mem_append_right _ (List.mem_append_left _ h)))))
theorem mT_6 {i : Nat} {w : Cond} (hi : tables_1_6[i]? = some w) : w ∈ lw_tbl := List.mem_append_right _ (by have h := List.mem_of_getElem? hi; exact List.mem_append_right _ (List.mem_append_right _ (List.mem_append_right _ (List.mem_append_right _ (List.mem_append_right _ (List.mem_append_left _ h))))))
theorem mT_7 {i : Nat} {w : Cond} (hi : tables_1_7[i]? = some w) : w ∈ lw_tbl := List.mem_append_right _ (by have h := List.mem_of_getElem? hi; exact List.mem_append_right _ (List.mem_append_right _ (List.mem_append_right _ (List.mem_append_right _ (List.mem_append_right _ (List.mem_append_right _ (List.mem_append_left _ h)))))))
theorem mT_8 {i : Nat} {w : Cond} (hi : tables_1_8[i]? = some w) : w ∈ lw_tbl := List.mem_append_right _ (by have h := List.mem_of_getElem? hi; exact List.mem_append_right _ (List.mem_append_right _ (List.mem_append_right _ (List.mem_append_right _ (List.mem_append_right _ (List.mem_append_right _ (List.mem_append_right _ (List.mem_append_left _ h))))))))
theorem mT_9 {i : Nat} {w : Cond} (hi : tables_1_9[i]? = some w) : w ∈ lw_tbl := List.mem_append_right _ (by have h := List.mem_of_getElem? hi; exact List.mem_append_right _ (List.mem_append_right _ (List.mem_append_right _ (List.mem_append_right _ (List.mem_append_right _ (List.mem_append_right _ (List.mem_append_right _ (List.mem_append_right _ (h)))))))))
def stF : List (String × Nat) := [("SiltShare$RiverReader", 58), ("SiltShare$RiverReader", 78), ("SiltShare$RiverReader", 152), ("SiltShare$RiverReader", 85), ("SiltShare$Text", 80), ("SiltShare$RiverReader", 104), ("SiltShare$RiverReader", 109), ("SiltShare$RiverReader", 183), ("SiltShare$RiverReader", 194), ("SiltShare$RiverReader", 199), ("SiltShare$RiverReader", 117), ("SiltShare$Grammar", 121), ("SiltShare$Grammar", 126), ("SiltShare$Grammar", 128), ("SiltShare$Grammar", 148), ("SiltShare$Grammar", 150), ("SiltShare$Grammar", 152), ("SiltShare$Grammar", 136), ("SiltShare$Grammar", 140), ("SiltShare$Grammar", 142), ("SiltShare$Grammar", 144), ("SiltShare$Grammar", 146), ("SiltShare$RiverReader", 133), ("SiltShare$RiverReader", 137), ("SiltShare$RiverReader", 141), ("SiltShare$RiverReader", 145), ("SiltShare$Grammar", 58), ("SiltShare$Grammar", 64), ("SiltShare$Grammar", 66), ("SiltShare$Grammar", 68), ("SiltShare$Grammar", 70), ("SiltShare$Grammar", 72), ("SiltShare$Grammar", 88), ("SiltShare$Grammar", 103), ("SiltShare$Grammar", 86), ("SiltShare$Grammar", 77)]
def stB : List Nat := [9, 18, 27, 33, 42, 162, 172, 180, 186, 195, 203, 210, 217, 224, 233, 242, 249, 267, 284, 292, 302, 310, 319, 329, 338, 347, 354, 363, 371, 380, 389, 397, 406, 413, 420, 427]
def tmS (i : Nat) : Term := .string (stF.getD i ("", 0)).1 (stF.getD i ("", 0)).2
def fl0 : List Cond := flatC (Jvm.Cond.and given_1 narrow_1)
def reqS (i : Nat) : List Cond := [.exactly (tmS i) "java/lang/String", .eq (.field (tmS i) "java/lang/String" "coder" "B") (.int 0), .arrayOf (.field (tmS i) "java/lang/String" "value" "[B") .byte, .eq (.length (.field (tmS i) "java/lang/String" "value" "[B")) (.int (Int32.ofNat (lenSt.getD i 0)))] ++ (List.range (lenSt.getD i 0)).map (fun j => .eq (.elem (.field (tmS i) "java/lang/String" "value" "[B") (.int (Int32.ofNat j))) (.int ((bytSt.getD i []).getD j 0)))
theorem reqS_ok : ∀ i, i < 36 → (fl0.drop (stB.getD i 0)).take (4 + lenSt.getD i 0) = reqS i := by decide +kernel
theorem reqS_in {i : Nat} (hi : i < 36) {c : Cond} (hc : c ∈ reqS i) : c ∈ fl0 := by
  rw [← reqS_ok i hi] at hc
  exact List.mem_of_mem_drop (List.mem_of_mem_take hc)
theorem apart_S : ∀ i, i < 36 → ∀ j, j < 36 → i = j ∨ Int32.ofNat (lenSt.getD i 0) ≠ Int32.ofNat (lenSt.getD j 0) ∨ (lenSt.getD i 0 = lenSt.getD j 0 ∧ ∃ p, p < lenSt.getD i 0 ∧ (bytSt.getD i []).getD p 0 ≠ (bytSt.getD j []).getD p 0) := by
  have h : ((List.range 36).all fun i => (List.range 36).all fun j => decide (i = j) || decide (Int32.ofNat (lenSt.getD i 0) ≠ Int32.ofNat (lenSt.getD j 0)) || (decide (lenSt.getD i 0 = lenSt.getD j 0) && (List.range (lenSt.getD i 0)).any fun p => decide ((bytSt.getD i []).getD p 0 ≠ (bytSt.getD j []).getD p 0))) = true := by decide +kernel
  intro i hi j hj
  have a := List.all_eq_true.mp (List.all_eq_true.mp h i (List.mem_range.mpr hi)) j (List.mem_range.mpr hj)
  rw [Bool.or_eq_true, Bool.or_eq_true, Bool.and_eq_true] at a
  rcases a with (a | a) | ⟨a, b⟩
  · exact Or.inl (of_decide_eq_true a)
  · exact Or.inr (Or.inl (of_decide_eq_true a))
  · obtain ⟨p, hp, q⟩ := List.any_eq_true.mp b
    exact Or.inr (Or.inr ⟨of_decide_eq_true a, p, List.mem_range.mp hp, of_decide_eq_true q⟩)
theorem sr_all : ∀ q ∈ stLk, Cond.stringRef q.1 q.2.1 q.2.2.1 ∈ lw_tbl := List.forall_mem_cons.mpr ⟨(mT_3 (i := 5) rfl), List.forall_mem_cons.mpr ⟨(mT_3 (i := 90) rfl), List.forall_mem_cons.mpr ⟨(mT_3 (i := 96) rfl), List.forall_mem_cons.mpr ⟨(mT_3 (i := 101) rfl), List.forall_mem_cons.mpr ⟨(mT_3 (i := 124) rfl), List.forall_mem_cons.mpr ⟨(mT_3 (i := 138) rfl), List.forall_mem_cons.mpr ⟨(mT_3 (i := 139) rfl), List.forall_mem_cons.mpr ⟨(mT_3 (i := 148) rfl), List.forall_mem_cons.mpr ⟨(mT_3 (i := 154) rfl), List.forall_mem_cons.mpr ⟨(mT_3 (i := 155) rfl), List.forall_mem_cons.mpr ⟨(mT_3 (i := 156) rfl), List.forall_mem_cons.mpr ⟨(mT_3 (i := 212) rfl), List.forall_mem_cons.mpr ⟨(mT_3 (i := 218) rfl), List.forall_mem_cons.mpr ⟨(mT_3 (i := 219) rfl), List.forall_mem_cons.mpr ⟨(mT_3 (i := 224) rfl), List.forall_mem_cons.mpr ⟨(mT_3 (i := 225) rfl), List.forall_mem_cons.mpr ⟨(mT_3 (i := 226) rfl), List.forall_mem_cons.mpr ⟨(mT_3 (i := 227) rfl), List.forall_mem_cons.mpr ⟨(mT_3 (i := 233) rfl), List.forall_mem_cons.mpr ⟨(mT_3 (i := 234) rfl), List.forall_mem_cons.mpr ⟨(mT_3 (i := 235) rfl), List.forall_mem_cons.mpr ⟨(mT_3 (i := 236) rfl), List.forall_mem_cons.mpr ⟨(mT_3 (i := 237) rfl), List.forall_mem_cons.mpr ⟨(mT_3 (i := 238) rfl), List.forall_mem_cons.mpr ⟨(mT_3 (i := 239) rfl), List.forall_mem_cons.mpr ⟨(mT_4 (i := 0) rfl), List.forall_mem_cons.mpr ⟨(mT_4 (i := 1) rfl), List.forall_mem_cons.mpr ⟨(mT_4 (i := 2) rfl), List.forall_mem_cons.mpr ⟨(mT_5 (i := 140) rfl), List.forall_mem_cons.mpr ⟨(mT_5 (i := 141) rfl), List.forall_mem_cons.mpr ⟨(mT_5 (i := 142) rfl), List.forall_mem_cons.mpr ⟨(mT_5 (i := 143) rfl), List.forall_mem_cons.mpr ⟨(mT_5 (i := 144) rfl), List.forall_mem_cons.mpr ⟨(mT_5 (i := 145) rfl), List.forall_mem_cons.mpr ⟨(mT_5 (i := 158) rfl), List.forall_mem_cons.mpr ⟨(mT_5 (i := 159) rfl), List.forall_mem_cons.mpr ⟨(mT_5 (i := 164) rfl), List.forall_mem_cons.mpr ⟨(mT_5 (i := 165) rfl), fun _ h => absurd h List.not_mem_nil⟩⟩⟩⟩⟩⟩⟩⟩⟩⟩⟩⟩⟩⟩⟩⟩⟩⟩⟩⟩⟩⟩⟩⟩⟩⟩⟩⟩⟩⟩⟩⟩⟩⟩⟩⟩⟩⟩
theorem ns_all : ∀ q ∈ nsLk, Cond.methodLinkNest q.1 q.2.1 q.2.2.1 q.2.2.2 ∈ lw_tbl := List.forall_mem_cons.mpr ⟨(mT_1 (i := 30) rfl), List.forall_mem_cons.mpr ⟨(mT_1 (i := 64) rfl), List.forall_mem_cons.mpr ⟨(mT_1 (i := 130) rfl), List.forall_mem_cons.mpr ⟨(mT_1 (i := 229) rfl), List.forall_mem_cons.mpr ⟨(mT_2 (i := 27) rfl), List.forall_mem_cons.mpr ⟨(mT_2 (i := 44) rfl), List.forall_mem_cons.mpr ⟨(mT_4 (i := 45) rfl), List.forall_mem_cons.mpr ⟨(mT_4 (i := 171) rfl), List.forall_mem_cons.mpr ⟨(mT_4 (i := 181) rfl), List.forall_mem_cons.mpr ⟨(mT_4 (i := 194) rfl), List.forall_mem_cons.mpr ⟨(mT_5 (i := 56) rfl), List.forall_mem_cons.mpr ⟨(mT_5 (i := 68) rfl), fun _ h => absurd h List.not_mem_nil⟩⟩⟩⟩⟩⟩⟩⟩⟩⟩⟩⟩
theorem nest_tabs {a : String} {i : Nat} {y : MethodName} {c : String} : (Cond.methodLinkNest a i y c).onTables = true := rfl
theorem st_links : ∀ q ∈ stLk, q.2.2.2 < 36 ∧ (tmS q.2.2.2 = .string q.1 q.2.1 ∨ Cond.eq (tmS q.2.2.2) (.string q.1 q.2.1) ∈ fl0) := List.forall_mem_cons.mpr ⟨⟨by decide, Or.inl rfl⟩, List.forall_mem_cons.mpr ⟨⟨by decide, Or.inl rfl⟩, List.forall_mem_cons.mpr ⟨⟨by decide, Or.inl rfl⟩, List.forall_mem_cons.mpr ⟨⟨by decide, Or.inl rfl⟩, List.forall_mem_cons.mpr ⟨⟨by decide, Or.inl rfl⟩, List.forall_mem_cons.mpr ⟨⟨by decide, Or.inl rfl⟩, List.forall_mem_cons.mpr ⟨⟨by decide, Or.inl rfl⟩, List.forall_mem_cons.mpr ⟨⟨by decide, Or.inl rfl⟩, List.forall_mem_cons.mpr ⟨⟨by decide, Or.inl rfl⟩, List.forall_mem_cons.mpr ⟨⟨by decide, Or.inl rfl⟩, List.forall_mem_cons.mpr ⟨⟨by decide, Or.inl rfl⟩, List.forall_mem_cons.mpr ⟨⟨by decide, Or.inl rfl⟩, List.forall_mem_cons.mpr ⟨⟨by decide, Or.inl rfl⟩, List.forall_mem_cons.mpr ⟨⟨by decide, Or.inl rfl⟩, List.forall_mem_cons.mpr ⟨⟨by decide, Or.inl rfl⟩, List.forall_mem_cons.mpr ⟨⟨by decide, Or.inl rfl⟩, List.forall_mem_cons.mpr ⟨⟨by decide, Or.inl rfl⟩, List.forall_mem_cons.mpr ⟨⟨by decide, Or.inr (List.mem_of_getElem? (i := 266) (by decide +kernel))⟩, List.forall_mem_cons.mpr ⟨⟨by decide, Or.inl rfl⟩, List.forall_mem_cons.mpr ⟨⟨by decide, Or.inr (List.mem_of_getElem? (i := 283) (by decide +kernel))⟩, List.forall_mem_cons.mpr ⟨⟨by decide, Or.inl rfl⟩, List.forall_mem_cons.mpr ⟨⟨by decide, Or.inl rfl⟩, List.forall_mem_cons.mpr ⟨⟨by decide, Or.inl rfl⟩, List.forall_mem_cons.mpr ⟨⟨by decide, Or.inl rfl⟩, List.forall_mem_cons.mpr ⟨⟨by decide, Or.inl rfl⟩, List.forall_mem_cons.mpr ⟨⟨by decide, Or.inl rfl⟩, List.forall_mem_cons.mpr ⟨⟨by decide, Or.inl rfl⟩, List.forall_mem_cons.mpr ⟨⟨by decide, Or.inl rfl⟩, List.forall_mem_cons.mpr ⟨⟨by decide, Or.inl rfl⟩, List.forall_mem_cons.mpr ⟨⟨by decide, Or.inl rfl⟩, List.forall_mem_cons.mpr ⟨⟨by decide, Or.inl rfl⟩, List.forall_mem_cons.mpr ⟨⟨by decide, Or.inl rfl⟩, List.forall_mem_cons.mpr ⟨⟨by decide, Or.inl rfl⟩, List.forall_mem_cons.mpr ⟨⟨by decide, Or.inl rfl⟩, List.forall_mem_cons.mpr ⟨⟨by decide, Or.inl rfl⟩, List.forall_mem_cons.mpr ⟨⟨by decide, Or.inl rfl⟩, List.forall_mem_cons.mpr ⟨⟨by decide, Or.inl rfl⟩, List.forall_mem_cons.mpr ⟨⟨by decide, Or.inl rfl⟩, fun _ h => absurd h List.not_mem_nil⟩⟩⟩⟩⟩⟩⟩⟩⟩⟩⟩⟩⟩⟩⟩⟩⟩⟩⟩⟩⟩⟩⟩⟩⟩⟩⟩⟩⟩⟩⟩⟩⟩⟩⟩⟩⟩⟩
theorem zl_c : Cond.laysStatic "java/lang/String" "COMPACT_STRINGS" "Z" ∈ lw_tbl := (mT_3 (i := 23) rfl)
theorem zl_p : Cond.laysStatic "jdk/internal/util/Preconditions" "SIOOBE_FORMATTER" "Ljava/util/function/BiFunction;" ∈ lw_tbl := (mT_3 (i := 43) rfl)
theorem zi_c : Cond.initialized "java/lang/String" ∈ lw_tbl := (mT_1 (i := 15) rfl)
theorem zi_p : Cond.initialized "jdk/internal/util/Preconditions" ∈ lw_tbl := (mT_1 (i := 17) rfl)
theorem zf_c : Cond.eq (.static "java/lang/String" "COMPACT_STRINGS" "Z") (.int 1) ∈ fl0 := List.mem_of_getElem? (i := 4) (by decide +kernel)
theorem zf_p : Cond.isRef (.static "jdk/internal/util/Preconditions" "SIOOBE_FORMATTER" "Ljava/util/function/BiFunction;") ∈ fl0 := List.mem_of_getElem? (i := 5) (by decide +kernel)
theorem vw_len : vwCl.length = 13 := rfl
theorem kn_of {args : Array Value} {s : State} {ci N : Nat} {C : String} {T : u_T} {ty0 : Nat → FieldType} (h : CLS ci C T N ty0) (hi : inW (.instantiable C N)) (hts : ∀ w ∈ lw_tbl, w.before args s = true) (d : ClassId) : ∃ y : ClassId × (Nat → Nat), ∀ q : vw_C, vwCl[ci]? = some q → u_Kn s q.1 q.2.1 q.2.2 y.1 y.2 := by
  obtain ⟨cC, iS, k⟩ := u_known (N := N) (n := N) hts (fun w hw => (h.2.2.1 w hw).1) (hts _ hi.1)
  exact ⟨(cC, iS), fun q e => by rw [h.1] at e; cases e; exact k⟩
theorem kn_all {args : Array Value} {s : State} (hts : ∀ w ∈ lw_tbl, w.before args s = true) (d : ClassId) : ∀ k : Nat, ∃ y : ClassId × (Nat → Nat), ∀ q : vw_C, vwCl[k]? = some q → u_Kn s q.1 q.2.1 q.2.2 y.1 y.2 := by
  intro k
  by_cases hk : k < 13
  · rcases (show k = 0 ∨ k = 1 ∨ k = 2 ∨ k = 3 ∨ k = 4 ∨ k = 5 ∨ k = 6 ∨ k = 7 ∨ k = 8 ∨ k = 9 ∨ k = 10 ∨ k = 11 ∨ k = 12 by omega) with rfl | rfl | rfl | rfl | rfl | rfl | rfl | rfl | rfl | rfl | rfl | rfl | rfl
    · exact kn_of kl_0 inst_0 hts d
    · exact kn_of kl_1 inst_1 hts d
    · exact kn_of kl_2 inst_2 hts d
    · exact kn_of kl_3 inst_3 hts d
    · exact kn_of kl_4 inst_4 hts d
    · exact kn_of kl_5 inst_5 hts d
    · exact kn_of kl_6 inst_6 hts d
    · exact kn_of kl_7 inst_7 hts d
    · exact kn_of kl_8 inst_8 hts d
    · exact kn_of kl_9 inst_9 hts d
    · exact kn_of kl_10 inst_10 hts d
    · exact kn_of kl_11 inst_11 hts d
    · exact kn_of kl_12 inst_12 hts d
  · exact ⟨(d, fun _ => 0), fun q e => absurd (List.getElem?_eq_some_iff.mp e).1 (by rw [vw_len]; exact hk)⟩
theorem ar_all {args : Array Value} {s : State} (hts : ∀ w ∈ lw_tbl, w.before args s = true) (d : ClassId) : ∀ kd : Nat, ∃ cA : ClassId, kd < 4 → ArrOfT s cA (kty kd) ∧ s.vm.findClass ("[" ++ (kty kd).toString) = some cA := by
  have one : ∀ kd : Nat, inW (.arrayClass (kty kd)) → ∃ cA : ClassId, kd < 4 → ArrOfT s cA (kty kd) ∧ s.vm.findClass ("[" ++ (kty kd).toString) = some cA := fun kd hw => by
    obtain ⟨cA, kA, comp, h1, h2, h3⟩ := Cond.arrayClass_spec (hts _ hw.1)
    exact ⟨cA, fun _ => ⟨fun n z => ⟨fun k h => (by cases h), kA, h2, comp, h3⟩, h1⟩⟩
  intro kd
  by_cases hk : kd < 4
  · rcases (show kd = 0 ∨ kd = 1 ∨ kd = 2 ∨ kd = 3 by omega) with rfl | rfl | rfl | rfl
    · exact one 0 ac_0
    · exact one 1 ac_1
    · exact one 2 ac_2
    · exact one 3 ac_3
  · exact ⟨d, fun h => absurd h hk⟩
theorem OF_one {o n d : String} {v v' : Value} {t : Nat} {A : Nat → Prop} {U : State} {H : Heap} (a : va_OF o n d v t A U H) (b : va_OF o n d v' t A U H) : v = v' := by
  obtain ⟨cf, k, i, f, cell, a1, a2, a3, a4, a5, a6⟩ := a
  obtain ⟨cf', k', i', f', cell', b1, b2, b3, b4, b5, b6⟩ := b
  rw [a1] at b1
  cases b1
  rw [a3] at b3
  cases b3
  rw [a5] at b5
  cases b5
  rfl
theorem st_start {args : Array Value} {s : State} (A : Nat → Prop) (hs : ∀ c ∈ fl0, c.before args s = true) (hA : ∀ a : Nat, a < s.heap.size → ¬ A a) : ∃ adK adV : Nat → Nat, vk_S nSt lenSt bytSt adK adV A s s.heap ∧ ∀ i : Nat, i < 36 → (tmS i).eval args s none [] s = some (.ref (adK i)) := by
  have ll : ∀ i, i < 36 → lenSt.getD i 0 < 2 ^ 31 := by decide +kernel
  have one : ∀ i : Nat, ∃ y : Nat × Nat, i < 36 → (va_O "java/lang/String" y.1 A s s.heap ∧ va_OF "java/lang/String" "coder" "B" (.int 0) y.1 A s s.heap ∧ va_OF "java/lang/String" "value" "[B" (.ref y.2) y.1 A s s.heap ∧ va_T .byte y.2 (lenSt.getD i 0) (fun j => .int ((bytSt.getD i []).getD j 0)) A s s.heap) ∧ (tmS i).eval args s none [] s = some (.ref y.1) := by
    intro i
    by_cases hi : i < 36
    · have rq : ∀ c ∈ reqS i, c.before args s = true := fun c hc => hs c (reqS_in hi hc)
      obtain ⟨adK, adV, V, E⟩ := vk_Sof (N := 1) (tm := fun _ => tmS i) (len := [lenSt.getD i 0]) (byt := [bytSt.getD i []]) (A := A) (args := args) (s := s)
        (fun j hj => by obtain rfl : j = 0 := by omega
                        exact ll i hi)
        (fun j _ => rq _ (List.mem_append_left _ (by simp)))
        (fun j _ => rq _ (List.mem_append_left _ (by simp)))
        (fun j _ => rq _ (List.mem_append_left _ (by simp)))
        (fun j hj => by obtain rfl : j = 0 := by omega
                        exact rq _ (List.mem_append_left _ (by simp)))
        (fun j hj p hp => by obtain rfl : j = 0 := by omega
                             exact rq _ (List.mem_append_right _ (List.mem_map.mpr ⟨p, List.mem_range.mpr hp, rfl⟩)))
        (fun j k hj hk n => absurd (by omega) n) hA
      have v0 := V.1 0 (by decide)
      exact ⟨(adK 0, adV 0), fun _ => ⟨v0, E 0 (by decide)⟩⟩
    · exact ⟨(0, 0), fun h => absurd h hi⟩
  obtain ⟨y, hy⟩ := Classical.axiomOfChoice one
  refine ⟨fun i => (y i).1, fun i => (y i).2, ⟨fun i hi => (hy i hi).1, fun i j hi hj e => ?_⟩, fun i hi => (hy i hi).2⟩
  have hi : i < 36 := hi
  have hj : j < 36 := hj
  have e : (y i).1 = (y j).1 := e
  have a := (hy i hi).1.2.2
  have b := (hy j hj).1.2.2
  rw [← e] at b
  have ev : Value.ref (y i).2 = Value.ref (y j).2 := OF_one a.1 b.1
  have ev2 : (y i).2 = (y j).2 := Value.ref.inj ev
  obtain ⟨c1, a1, a2, a3, a4, a5, a6, a7⟩ := a.2
  obtain ⟨c2, b1, b2, b3, b4, b5, b6, b7⟩ := b.2
  rw [← ev2, a1] at b1
  cases b1
  rcases apart_S i hi j hj with q | q | ⟨q, p, hp, r⟩
  · exact q
  · exact absurd (a5.symm.trans b5) q
  · have u1 := a6 p hp
    have u2 := b6 p (by omega)
    rw [u1] at u2
    have u3 := Option.some.inj u2
    exact absurd (Value.int.inj u3) r
/-- the world at the law's entry -/
theorem w_start {p : Program} {s : State} {m : MethodId} {meth : Method} {c : Code} {b L : Nat} {xs : Nat → Int32} (hL : L ≤ 3072) (C0 : lw_At p s m meth c b L xs) : ∃ w : Wd, w.1 = s.heap.size ∧ w.2.2.2.2.2.1.1 = b ∧ w.2.2.2.2.2.1.2.1 = L ∧ Sf w s s.heap := by
  obtain ⟨hx, hb, hr, hml, hown, hts, hX, hbl, hlocks, hgv, -⟩ := id C0
  have hs : ∀ c ∈ fl0, c.before #[Value.ref b] s = true := flat_of_before _ hgv
  have hA : ∀ a : Nat, a < s.heap.size → ¬ (fun q : Nat => s.heap.size ≤ q) a := fun a h => Nat.not_le.mpr h
  obtain ⟨D, hD⟩ := Classical.axiomOfChoice (kn_all hts m.cls)
  obtain ⟨cA, hcA⟩ := Classical.axiomOfChoice (ar_all hts m.cls)
  obtain ⟨adK, adV, V, E⟩ := st_start (fun q : Nat => s.heap.size ≤ q) hs hA
  have Z1 := va_Zof (A := fun q : Nat => s.heap.size ≤ q) (hts _ zl_c) (hts _ zi_c) (va_eqi (hs _ zf_c)) hA
  obtain ⟨fo, Z2⟩ : ∃ fo : Option Nat, va_Z "jdk/internal/util/Preconditions" "SIOOBE_FORMATTER" "Ljava/util/function/BiFunction;" (va_rf fo) (fun q : Nat => s.heap.size ≤ q) s s.heap := by
    rcases va_Zqof (A := fun q : Nat => s.heap.size ≤ q) (hts _ zl_p) (hts _ zi_p) (hs _ zf_p) hA with z | ⟨t, z⟩
    · exact ⟨none, z⟩
    · exact ⟨some t, z⟩
  refine ⟨(s.heap.size, (fun k => (D k).1, fun k => (D k).2), cA, adK, adV, (b, L, xs), fo), rfl, rfl, rfl, ⟨fun k q e => hD k q e, fun k q e => ?_⟩, ⟨V, fun q hq => ?_, Z1, Z2⟩, ⟨hX, hbl, hL⟩, fun q hq => va_Nw.of nest_tabs (hts _ (ns_all q hq))⟩
  · match k, e with
    | 0, e => cases e; exact hcA 0 (by decide)
    | 1, e => cases e; exact hcA 1 (by decide)
    | 2, e => cases e; exact hcA 2 (by decide)
    | 3, e => cases e; exact hcA 3 (by decide)
    | k + 4, e => simp at e
  · obtain ⟨h36, h⟩ := st_links q hq
    refine vk_R.of (hts _ (sr_all q hq)) ?_
    rcases h with h | h
    · rw [← h]; exact E _ h36
    · exact va_eqR (hs _ h) (E _ h36)
