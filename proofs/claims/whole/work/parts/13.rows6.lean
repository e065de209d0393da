theorem Ob.rng {ci : Nat} {o : Int} (h : Ob ci o) : 0 ≤ o ∧ o < 5000 := ⟨h.1, by have := Ob.lt h; have := NT_lt; omega⟩
theorem Ar.rng {kd len : Nat} {o : Int} (h : Ar kd len o) : 0 ≤ o ∧ o < 5000 := ⟨h.1, by have := Ar.lt h; have := NT_lt; omega⟩
theorem Ar.lrng {kd len : Nat} {o : Int} (h : Ar kd len o) : inR (Int.ofNat len) := by
  have := Ar.small h
  exact ⟨by show _ ≤ (len : Int); omega, by show (len : Int) < _; omega⟩
/-- a text, by its number -/
def St (s : Int) : Prop := 1000 ≤ s ∧ s < 1000 + nSt
theorem nSt_lt : nSt < 1000 := by decide
theorem St.rng {s : Int} (h : St s) : 0 ≤ s ∧ s < 5000 := by
  have := nSt_lt
  obtain ⟨h1, h2⟩ := h
  exact ⟨by omega, by omega⟩
def slen (s : Int) : Int := (lenSt.getD (s - 1000).toNat 0 : Nat)
def sch (s i : Int) : Int := ((bytSt.getD (s - 1000).toNat []).getD i.toNat 0).toInt
theorem lenSt_ok : lenSt.all (fun n => decide (n < 200)) = true := by decide +kernel
theorem slen_in (s : Int) : inR (slen s) := by
  have : lenSt.getD (s - 1000).toNat 0 < 200 := by
    rw [List.getD_eq_getElem?_getD]
    cases hx : lenSt[(s - 1000).toNat]? with
    | none => decide
    | some n =>
      have := List.all_eq_true.mp lenSt_ok n (List.mem_of_getElem? hx)
      simpa using this
  unfold slen
  exact ⟨by omega, by omega⟩
theorem bytSt_ok : bytSt.all (fun l => l.all (fun b => decide (0 ≤ b.toInt ∧ b.toInt < 128))) = true := by decide +kernel
theorem sch_b (s i : Int) : 0 ≤ sch s i ∧ sch s i < 128 := by
  unfold sch
  rw [List.getD_eq_getElem?_getD, List.getD_eq_getElem?_getD]
  cases hx : bytSt[(s - 1000).toNat]? with
  | none => rw [Option.getD_none, List.getElem?_nil, Option.getD_none]; exact ⟨by decide, by decide⟩
  | some l =>
    rw [Option.getD_some]
    cases hy : l[i.toNat]? with
    | none => exact ⟨by decide, by decide⟩
    | some b =>
      have := List.all_eq_true.mp (List.all_eq_true.mp bytSt_ok l (List.mem_of_getElem? hx)) b (List.mem_of_getElem? hy)
      simpa using this
theorem sch_in (s i : Int) : inR (sch s i) := by
  have := sch_b s i
  exact ⟨by omega, by omega⟩
theorem lg_len (w : Wd) (as : List Vl) : (lg_sl (as.map (tv w))).length = catS as := by
  induction as with
  | nil => rfl
  | cons v vs ih =>
    have e : lg_sl ((v :: vs).map (tv w)) = (if (tv w v).category = 2 then [Slot.val (tv w v), Slot.second] else [Slot.val (tv w v)]) ++ lg_sl (vs.map (tv w)) := by
      rw [List.map_cons]; rfl
    rw [e, List.length_append, ih]
    show _ = (if isL v = true then 2 else 1) + catS vs
    have := cat_isL w v
    rcases lv_cat (tv w v) with q | q
    · rw [q] at this ⊢
      have h2 : isL v = false := by rw [← this]; rfl
      rw [h2]; rfl
    · rw [q] at this ⊢
      have h2 : isL v = true := by rw [← this]; rfl
      rw [h2]; rfl
theorem CGm_of2 {w : Wd} {fz : Bool} {M : Mt} {d n0 n1 : Nat} {as : List Vl} {h : Hp} {K : Int → Hp → Prop} (hy : plainName M.1.cls = true) (hnl : M.1.name ≠ "law") (hok : match M.2.2.2 with | none => True | some .int => True | some .boolean => True | some .byte => True | some .char => True | some .long => True | _ => False)
    (hlen : catS as ≤ M.2.2.1) (k : JG w fz M d n1 n0 0 (lva 0 as) [] h K) : CGm w fz M d n0 n1 as h K := CGm_of (plainFor_of_name hy) hnl hok (by rw [lg_len]; exact hlen) k
theorem CGm_of3 {w : Wd} {fz : Bool} {M : Mt} {d n0 n1 : Nat} {as : List Vl} {h : Hp} {K : Int → Hp → Prop} (hy : plainFor M.1 = true) (hnl : M.1.name ≠ "law") (hok : match M.2.2.2 with | none => True | some .int => True | some .boolean => True | some .byte => True | some .char => True | some .long => True | _ => False)
    (hlen : catS as ≤ M.2.2.1) (k : JG w fz M d n1 n0 0 (lva 0 as) [] h K) : CGm w fz M d n0 n1 as h K := CGm_of hy hnl hok (by rw [lg_len]; exact hlen) k
section ROWS6
variable {w : Wd} {fz : Bool} {M : Mt} {d n1 n pc : Nat} {lv : List (Nat × Vl)} {st : List Vl} {h : Hp} {K : Int → Hp → Prop}
theorem J_ldcsE (q : Nat) (hp : pc + 2 = q) {index : Nat} {tx : String} (i : Nat) {v : Int} (hv : 1000 + (i : Int) = v) (hi : i < 1000) (hq : (M.1.cls, index, tx, i) ∈ stLk) (hd : decode M.2.1 pc = .ok (.ldc index, 2)) (k : JG w fz M d n1 n q lv (vR v :: st) h K) : JG w fz M d n1 n pc lv st h K := by
  subst hv
  exact J_ldcs q hp i hi hq hd k
theorem J_alenE (q : Nat) (hp : pc + 1 = q) {o v : Int} {kd len : Nat} (hv : (len : Int) = v) (hkd : kd < 4) (ho : Ar kd len o) (hn : o.toNat < n) (hd : decode M.2.1 pc = .ok (.arraylength, 1)) (k : JG w fz M d n1 n q lv (vI v :: st) h K) : JG w fz M d n1 n pc lv (vR o :: st) h K := by
  subst hv
  exact J_alen q hp hkd ho hn hd k
theorem J_idivS (q : Nat) (hp : pc + 1 = q) {x y : Int} (hx : -2147483648 < x ∧ x < 2147483648) (hy : inR y) (h0 : y ≠ 0) (hd : decode M.2.1 pc = .ok (.idiv, 1)) (k : JG w fz M d n1 n q lv (vI (x.tdiv y) :: st) h K) : JG w fz M d n1 n pc lv (vI y :: vI x :: st) h K := by
  subst hp
  intro p l e R s m args below meth c H locs ls cells slots Q F hR hr hW hS hl
  refine lv_idiv F.1 F.2.1 hd (i32_ne0 hy h0) ?_
  rw [i32_tdiv hx hy h0]
  exact k p l e R s m args below meth c H locs ls cells slots Q F hR hr hW hS hl
end ROWS6
theorem st_0 : St 1000 := ⟨by decide, by decide⟩
theorem st_1 : St 1001 := ⟨by decide, by decide⟩
theorem st_2 : St 1002 := ⟨by decide, by decide⟩
theorem st_3 : St 1003 := ⟨by decide, by decide⟩
theorem st_4 : St 1004 := ⟨by decide, by decide⟩
theorem st_5 : St 1005 := ⟨by decide, by decide⟩
theorem st_6 : St 1006 := ⟨by decide, by decide⟩
theorem st_7 : St 1007 := ⟨by decide, by decide⟩
theorem st_8 : St 1008 := ⟨by decide, by decide⟩
theorem st_9 : St 1009 := ⟨by decide, by decide⟩
theorem st_10 : St 1010 := ⟨by decide, by decide⟩
theorem st_11 : St 1011 := ⟨by decide, by decide⟩
theorem st_12 : St 1012 := ⟨by decide, by decide⟩
theorem st_13 : St 1013 := ⟨by decide, by decide⟩
theorem st_14 : St 1014 := ⟨by decide, by decide⟩
theorem st_15 : St 1015 := ⟨by decide, by decide⟩
theorem st_16 : St 1016 := ⟨by decide, by decide⟩
theorem st_17 : St 1017 := ⟨by decide, by decide⟩
theorem st_18 : St 1018 := ⟨by decide, by decide⟩
theorem st_19 : St 1019 := ⟨by decide, by decide⟩
theorem st_20 : St 1020 := ⟨by decide, by decide⟩
theorem st_21 : St 1021 := ⟨by decide, by decide⟩
theorem st_22 : St 1022 := ⟨by decide, by decide⟩
theorem st_23 : St 1023 := ⟨by decide, by decide⟩
theorem st_24 : St 1024 := ⟨by decide, by decide⟩
theorem st_25 : St 1025 := ⟨by decide, by decide⟩
theorem st_26 : St 1026 := ⟨by decide, by decide⟩
theorem st_27 : St 1027 := ⟨by decide, by decide⟩
theorem st_28 : St 1028 := ⟨by decide, by decide⟩
theorem st_29 : St 1029 := ⟨by decide, by decide⟩
theorem st_30 : St 1030 := ⟨by decide, by decide⟩
theorem st_31 : St 1031 := ⟨by decide, by decide⟩
theorem st_32 : St 1032 := ⟨by decide, by decide⟩
theorem st_33 : St 1033 := ⟨by decide, by decide⟩
theorem st_34 : St 1034 := ⟨by decide, by decide⟩
theorem st_35 : St 1035 := ⟨by decide, by decide⟩
