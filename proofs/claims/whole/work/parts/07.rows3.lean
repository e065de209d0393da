theorem tt_small : tt.all (fun q => match q with | .inr p => decide (p.2 < 65536) | .inl _ => true) = true := by decide +kernel
theorem Ar.small {kd len : Nat} {o : Int} (h : Ar kd len o) : len < 65536 := by
  have := List.all_eq_true.mp tt_small _ (List.mem_of_getElem? h.2)
  simpa using this
theorem wad_w (w : Wd) {o : Int} (h0 : 0 ≤ o) (hn : o.toNat < NT) : tv w (vR o) = .ref (w.1 + o.toNat) := wad_o w h0 (by have := NT_lt; omega)
/-- an empty stack (behind the call's own values) -/
def isLs (st : List Vl) : Nat := st.length
theorem isLs_len {st : List Vl} (h : isLs st = 0) : st.length = 0 := h
theorem isLs_sum (w : Wd) (st : List Vl) : isLs st = 0 → ((List.map (tv w) st).map fun v => v.category).sum = 0 := by
  intro h
  have : st = [] := List.length_eq_zero_iff.mp h
  subst this
  rfl
section ROWS3
variable {w : Wd} {fz : Bool} {M : Mt} {d n1 n pc : Nat} {lv : List (Nat × Vl)} {st : List Vl} {h : Hp} {K : Int → Hp → Prop}
theorem earr_i (w : Wd) (fz : Bool) (h : Hp) (k : Int) (len : Nat) : earr w fz h k 0 len = .inl (w.2.2.1 0, (len, .inl (fun j => Int32.ofInt (h k j)))) := rfl
theorem earr_l (w : Wd) (fz : Bool) (h : Hp) (k : Int) (len : Nat) : earr w fz h k 1 len = .inl (w.2.2.1 1, (len, .inr (.inl (fun j => Int64.ofInt (h k j))))) := rfl
theorem earr_b (w : Wd) (fz : Bool) (h : Hp) (k : Int) (len : Nat) : earr w fz h k 2 len = .inl (w.2.2.1 2, (len, .inl (fun j => Int32.ofInt (h k j)))) := rfl
theorem earr_c (w : Wd) (h : Hp) (k : Int) (len : Nat) : earr w false h k 3 len = .inl (w.2.2.1 3, (len, .inl (fun j => Int32.ofInt (h k j)))) := rfl
theorem earr_C (w : Wd) (h : Hp) (k : Int) (len : Nat) : earr w true h k 3 len = .inl (w.2.2.1 3, (len, .inl (fun j => Int32.ofInt (cw k j)))) := rfl
theorem J_iald (q : Nat) (hp : pc + 1 = q) {o i : Int} {len : Nat} (ho : Ar 0 len o) (hn : o.toNat < n) (hi : 0 ≤ i ∧ i < len) (hd : decode M.2.1 pc = .ok (.iaload, 1)) (k : JG w fz M d n1 n q lv (vI (h o i) :: st) h K) : JG w fz M d n1 n pc lv (vI i :: vR o :: st) h K := by
  subst hp
  intro p l e R s m args below meth c H locs ls cells slots Q F hR hr hW hS hl
  have he := wl_at (w := w) (fz := fz) (h := h) hn
  have hsm := Ar.small ho
  rw [en_arr ho, earr_i] at he
  have k2 := k p l e R s m args below meth c H locs ls cells slots Q F hR hr hW hS hl
  rw [List.map_cons, List.map_cons, wad_w w ho.1 (Ar.lt ho)]
  refine va_iald F.1 F.2.1 F.2.2.2.2.2.2.2.1.1 hW.2 o.toNat 0 he rfl (vp_in_i32 hi.1 hi.2 (by omega)) hd ?_
  have e1 : (((Int32.ofInt i).toNatClampNeg : Nat) : Int) = i := by rw [clamp_i32 hi.1 (by omega)]; omega
  rw [e1]
  exact k2
theorem J_lald (q : Nat) (hp : pc + 1 = q) {o i : Int} {len : Nat} (ho : Ar 1 len o) (hn : o.toNat < n) (hi : 0 ≤ i ∧ i < len) (hd : decode M.2.1 pc = .ok (.laload, 1)) (k : JG w fz M d n1 n q lv (vL (h o i) :: st) h K) : JG w fz M d n1 n pc lv (vI i :: vR o :: st) h K := by
  subst hp
  intro p l e R s m args below meth c H locs ls cells slots Q F hR hr hW hS hl
  have he := wl_at (w := w) (fz := fz) (h := h) hn
  have hsm := Ar.small ho
  rw [en_arr ho, earr_l] at he
  have k2 := k p l e R s m args below meth c H locs ls cells slots Q F hR hr hW hS hl
  rw [List.map_cons, List.map_cons, wad_w w ho.1 (Ar.lt ho)]
  refine va_lald F.1 F.2.1 F.2.2.2.2.2.2.2.1.1 hW.2 o.toNat 1 he rfl (vp_in_i32 hi.1 hi.2 (by omega)) hd ?_
  have e1 : (((Int32.ofInt i).toNatClampNeg : Nat) : Int) = i := by rw [clamp_i32 hi.1 (by omega)]; omega
  rw [e1]
  exact k2
theorem J_bald (q : Nat) (hp : pc + 1 = q) {o i : Int} {len : Nat} (ho : Ar 2 len o) (hn : o.toNat < n) (hi : 0 ≤ i ∧ i < len) (hd : decode M.2.1 pc = .ok (.baload, 1)) (k : JG w fz M d n1 n q lv (vI (h o i) :: st) h K) : JG w fz M d n1 n pc lv (vI i :: vR o :: st) h K := by
  subst hp
  intro p l e R s m args below meth c H locs ls cells slots Q F hR hr hW hS hl
  have he := wl_at (w := w) (fz := fz) (h := h) hn
  have hsm := Ar.small ho
  rw [en_arr ho, earr_b] at he
  have k2 := k p l e R s m args below meth c H locs ls cells slots Q F hR hr hW hS hl
  rw [List.map_cons, List.map_cons, wad_w w ho.1 (Ar.lt ho)]
  refine va_bald F.1 F.2.1 F.2.2.2.2.2.2.2.1.1 hW.2 o.toNat 2 he rfl (vp_in_i32 hi.1 hi.2 (by omega)) hd ?_
  have e1 : (((Int32.ofInt i).toNatClampNeg : Nat) : Int) = i := by rw [clamp_i32 hi.1 (by omega)]; omega
  rw [e1]
  exact k2
theorem J_cald (q : Nat) (hp : pc + 1 = q) {o i : Int} {len : Nat} (ho : Ar 3 len o) (hn : o.toNat < n) (hi : 0 ≤ i ∧ i < len) (hd : decode M.2.1 pc = .ok (.caload, 1)) (k : JG w true M d n1 n q lv (vI (cw o i) :: st) h K) : JG w true M d n1 n pc lv (vI i :: vR o :: st) h K := by
  subst hp
  intro p l e R s m args below meth c H locs ls cells slots Q F hR hr hW hS hl
  have he := wl_at (w := w) (fz := true) (h := h) hn
  have hsm := Ar.small ho
  rw [en_arr ho, earr_C] at he
  have k2 := k p l e R s m args below meth c H locs ls cells slots Q F hR hr hW hS hl
  rw [List.map_cons, List.map_cons, wad_w w ho.1 (Ar.lt ho)]
  refine va_cald F.1 F.2.1 F.2.2.2.2.2.2.2.1.1 hW.2 o.toNat 3 he rfl (vp_in_i32 hi.1 hi.2 (by omega)) hd ?_
  have e1 : (((Int32.ofInt i).toNatClampNeg : Nat) : Int) = i := by rw [clamp_i32 hi.1 (by omega)]; omega
  rw [e1]
  exact k2
theorem J_alen (q : Nat) (hp : pc + 1 = q) {o : Int} {kd len : Nat} (hkd : kd < 4) (ho : Ar kd len o) (hn : o.toNat < n) (hd : decode M.2.1 pc = .ok (.arraylength, 1)) (k : JG w fz M d n1 n q lv (vI len :: st) h K) : JG w fz M d n1 n pc lv (vR o :: st) h K := by
  subst hp
  intro p l e R s m args below meth c H locs ls cells slots Q F hR hr hW hS hl
  have he := wl_at (w := w) (fz := fz) (h := h) hn
  rw [en_arr ho] at he
  have k2 := k p l e R s m args below meth c H locs ls cells slots Q F hR hr hW hS hl
  rw [List.map_cons, wad_w w ho.1 (Ar.lt ho)]
  unfold earr at he
  rcases (show kd = 0 ∨ kd = 1 ∨ kd = 2 ∨ kd = 3 by omega) with rfl | rfl | rfl | rfl
  · exact va_alen F.1 F.2.1 F.2.2.2.2.2.2.2.1.1 hW.2 o.toNat 0 he (ty := .int) rfl (v := Int32.ofInt len) (by rfl) hd k2
  · exact va_alen F.1 F.2.1 F.2.2.2.2.2.2.2.1.1 hW.2 o.toNat 1 he (ty := .long) rfl (v := Int32.ofInt len) (by rfl) hd k2
  · exact va_alen F.1 F.2.1 F.2.2.2.2.2.2.2.1.1 hW.2 o.toNat 2 he (ty := .byte) rfl (v := Int32.ofInt len) (by rfl) hd k2
  · exact va_alen F.1 F.2.1 F.2.2.2.2.2.2.2.1.1 hW.2 o.toNat 3 he (ty := .char) rfl (v := Int32.ofInt len) (by rfl) hd k2
theorem arr_W {w : Wd} {fz : Bool} {h : Hp} {n : Nat} {H H1 : Heap} {o i z : Int} {kd len : Nat} (hW : Wh w fz n h H) (ho : Ar kd len o) (hn : o.toNat < n) (e1 : va_at w.2.1 vwCl (w.1 + o.toNat, earr w fz (hu h o i z) o kd len) H1) (e2 : H1.size = H.size) (e3 : ∀ q, q ≠ w.1 + o.toNat → H1[q]? = H[q]?) : Wh w fz n (hu h o i z) H1 := by
  have he := wl_at (w := w) (fz := fz) (h := h) hn
  rw [en_arr ho] at he
  refine ⟨hW.1.imp id (fun q => by rw [e2]; exact q), ?_⟩
  have hs := hW.2.set (wl_D w fz n h) he e1 e3
  rwa [wl_set (i := i) (v := z) ho.1 hn (by rw [en_arr ho])] at hs
theorem hu_at {h : Hp} {o i z : Int} {q : Nat} : hu h o i z o q = if (q : Int) = i then z else h o q := by
  unfold hu
  by_cases g : (q : Int) = i
  · rw [if_pos ⟨rfl, g⟩, if_pos g]
  · rw [if_neg (fun r => g r.2), if_neg g]
theorem arr_F {α : Type} {f : Int → α} {h : Hp} {o i z : Int} (hi : 0 ≤ i ∧ i < 2147483648) : (fun j : Nat => if j = (Int32.ofInt i).toNatClampNeg then f z else f (h o j)) = fun j : Nat => f (hu h o i z o j) := by
  funext j
  rw [hu_at, clamp_i32 hi.1 hi.2]
  by_cases g : (j : Int) = i
  · rw [if_pos (by omega), if_pos g]
  · rw [if_neg (by omega), if_neg g]
theorem J_iast (q : Nat) (hp : pc + 1 = q) {o i z : Int} {len : Nat} (ho : Ar 0 len o) (hn : o.toNat < n) (hi : 0 ≤ i ∧ i < len) (hz : True) (hd : decode M.2.1 pc = .ok (.iastore, 1)) (k : JG w fz M d n1 n q lv st (hu h o i z) K) : JG w fz M d n1 n pc lv (vI z :: vI i :: vR o :: st) h K := by
  subst hp
  intro p l e R s m args below meth c H locs ls cells slots Q F hR hr hW hS hl
  have he := wl_at (w := w) (fz := fz) (h := h) hn
  have hsm := Ar.small ho
  rw [en_arr ho, earr_i] at he
  rw [List.map_cons, List.map_cons, List.map_cons, wad_w w ho.1 (Ar.lt ho)]
  have hin : vp_in (Int32.ofInt i) len := vp_in_i32 hi.1 hi.2 (by omega)
  refine W.iast F.1 F.2.1 (hW.2 o.toNat _ he) ((F.2.2.2.2.2.2.2.1.1.2 0 _ rfl).1 len (fun j => .int (Int32.ofInt (h o j)))) (fun q => by cases q) (by show ¬ (_ ∨ (arrV _ _ _).slots.size ≤ _); rw [arrV_size]; exact hin) rfl rfl hd fun H1 e1 e2 e3 => ?_
  refine k p l e R s m args below meth c H1 _ ls cells slots Q F hR hr (arr_W hW ho hn ?_ e2 e3) (hS.put e2 e3 (Nat.le_add_right _ _)) hl
  rw [earr_i]
  show H1[w.1 + o.toNat]? = some (vp_cell _ _)
  rw [e1]
  rw [vp_cell_i, vp_cell_i, arrV_store]
  refine congrArg some (congrArg (arrV _ _) ?_)
  rw [← arr_F (f := fun x => Value.int (Int32.ofInt x)) (h := h) ⟨hi.1, by omega⟩]
  unfold updV
  rfl
theorem J_last (q : Nat) (hp : pc + 1 = q) {o i z : Int} {len : Nat} (ho : Ar 1 len o) (hn : o.toNat < n) (hi : 0 ≤ i ∧ i < len) (hz : True) (hd : decode M.2.1 pc = .ok (.lastore, 1)) (k : JG w fz M d n1 n q lv st (hu h o i z) K) : JG w fz M d n1 n pc lv (vL z :: vI i :: vR o :: st) h K := by
  subst hp
  intro p l e R s m args below meth c H locs ls cells slots Q F hR hr hW hS hl
  have he := wl_at (w := w) (fz := fz) (h := h) hn
  have hsm := Ar.small ho
  rw [en_arr ho, earr_l] at he
  rw [List.map_cons, List.map_cons, List.map_cons, wad_w w ho.1 (Ar.lt ho)]
  have hin : vp_in (Int32.ofInt i) len := vp_in_i32 hi.1 hi.2 (by omega)
  refine W.last F.1 F.2.1 (hW.2 o.toNat _ he) ((F.2.2.2.2.2.2.2.1.1.2 1 _ rfl).1 len (fun j => .long (Int64.ofInt (h o j)))) (fun q => by cases q) (by show ¬ (_ ∨ (arrV _ _ _).slots.size ≤ _); rw [arrV_size]; exact hin) rfl rfl hd fun H1 e1 e2 e3 => ?_
  refine k p l e R s m args below meth c H1 _ ls cells slots Q F hR hr (arr_W hW ho hn ?_ e2 e3) (hS.put e2 e3 (Nat.le_add_right _ _)) hl
  rw [earr_l]
  show H1[w.1 + o.toNat]? = some (vp_cell _ _)
  rw [e1]
  rw [vp_cell_l, vp_cell_l, arrV_store]
  refine congrArg some (congrArg (arrV _ _) ?_)
  rw [← arr_F (f := fun x => Value.long (Int64.ofInt x)) (h := h) ⟨hi.1, by omega⟩]
  unfold updV
  rfl
theorem J_bast (q : Nat) (hp : pc + 1 = q) {o i z : Int} {len : Nat} (ho : Ar 2 len o) (hn : o.toNat < n) (hi : 0 ≤ i ∧ i < len) (hz : -128 ≤ z ∧ z < 128) (hd : decode M.2.1 pc = .ok (.bastore, 1)) (k : JG w fz M d n1 n q lv st (hu h o i z) K) : JG w fz M d n1 n pc lv (vI z :: vI i :: vR o :: st) h K := by
  subst hp
  intro p l e R s m args below meth c H locs ls cells slots Q F hR hr hW hS hl
  have he := wl_at (w := w) (fz := fz) (h := h) hn
  have hsm := Ar.small ho
  rw [en_arr ho, earr_b] at he
  rw [List.map_cons, List.map_cons, List.map_cons, wad_w w ho.1 (Ar.lt ho)]
  have hin : vp_in (Int32.ofInt i) len := vp_in_i32 hi.1 hi.2 (by omega)
  refine W.bast F.1 F.2.1 (hW.2 o.toNat _ he) ((F.2.2.2.2.2.2.2.1.1.2 2 _ rfl).1 len (fun j => .int (Int32.ofInt (h o j)))) (fun q => by cases q) (by show ¬ (_ ∨ (arrV _ _ _).slots.size ≤ _); rw [arrV_size]; exact hin) rfl rfl hd fun H1 e1 e2 e3 => ?_
  refine k p l e R s m args below meth c H1 _ ls cells slots Q F hR hr (arr_W hW ho hn ?_ e2 e3) (hS.put e2 e3 (Nat.le_add_right _ _)) hl
  rw [earr_b]
  show H1[w.1 + o.toNat]? = some (vp_cell _ _)
  rw [e1]
  rw [vp_cell_i, vp_cell_i, arrV_store]
  refine congrArg some (congrArg (arrV _ _) ?_)
  rw [← arr_F (f := fun x => Value.int (Int32.ofInt x)) (h := h) ⟨hi.1, by omega⟩]
  unfold updV
  rw [nar_b hz]
theorem J_cast (q : Nat) (hp : pc + 1 = q) {o i z : Int} {len : Nat} (ho : Ar 3 len o) (hn : o.toNat < n) (hi : 0 ≤ i ∧ i < len) (hz : 0 ≤ z ∧ z < 65536) (hd : decode M.2.1 pc = .ok (.castore, 1)) (k : JG w false M d n1 n q lv st (hu h o i z) K) : JG w false M d n1 n pc lv (vI z :: vI i :: vR o :: st) h K := by
  subst hp
  intro p l e R s m args below meth c H locs ls cells slots Q F hR hr hW hS hl
  have he := wl_at (w := w) (fz := false) (h := h) hn
  have hsm := Ar.small ho
  rw [en_arr ho, earr_c] at he
  rw [List.map_cons, List.map_cons, List.map_cons, wad_w w ho.1 (Ar.lt ho)]
  have hin : vp_in (Int32.ofInt i) len := vp_in_i32 hi.1 hi.2 (by omega)
  refine W.cast F.1 F.2.1 (hW.2 o.toNat _ he) ((F.2.2.2.2.2.2.2.1.1.2 3 _ rfl).1 len (fun j => .int (Int32.ofInt (h o j)))) (fun q => by cases q) (by show ¬ (_ ∨ (arrV _ _ _).slots.size ≤ _); rw [arrV_size]; exact hin) rfl rfl hd fun H1 e1 e2 e3 => ?_
  refine k p l e R s m args below meth c H1 _ ls cells slots Q F hR hr (arr_W hW ho hn ?_ e2 e3) (hS.put e2 e3 (Nat.le_add_right _ _)) hl
  rw [earr_c]
  show H1[w.1 + o.toNat]? = some (vp_cell _ _)
  rw [e1]
  rw [vp_cell_i, vp_cell_i, arrV_store]
  refine congrArg some (congrArg (arrV _ _) ?_)
  rw [← arr_F (f := fun x => Value.int (Int32.ofInt x)) (h := h) ⟨hi.1, by omega⟩]
  unfold updV
  rw [nar_c hz]
def hcpy (h : Hp) (a sp b dp len : Int) : Hp := fun o' i' => if o' = b ∧ dp ≤ i' ∧ i' < dp + len then h a (sp + (i' - dp)) else h o' i'
theorem hcpy_ne {h : Hp} {a sp b dp len o i : Int} (hne : o ≠ b) : hcpy h a sp b dp len o i = h o i := by
  unfold hcpy
  rw [if_neg (fun q => hne q.1)]
theorem en_cpy {w : Wd} {fz : Bool} {h : Hp} {a sp b dp len : Int} {k : Nat} (hne : (k : Int) ≠ b) : en w fz (hcpy h a sp b dp len) k = en w fz h k := by
  unfold en
  cases hk : tt[k]? with
  | none => rfl
  | some x =>
    cases x with
    | inl ci => simp only [eobj, fvl, hcpy_ne hne]
    | inr q => obtain ⟨kd, n⟩ := q; simp only [earr, hcpy_ne hne]
theorem wl_cpy {w : Wd} {fz : Bool} {n : Nat} {h : Hp} {a sp b dp len : Int} {e : va_E} (h0 : 0 ≤ b) (hn : b.toNat < n) (he : en w fz (hcpy h a sp b dp len) b.toNat = e) : (wl w fz n h).set b.toNat (w.1 + b.toNat, e) = wl w fz n (hcpy h a sp b dp len) := by
  apply List.ext_getElem?
  intro k
  rw [List.getElem?_set, wl_len]
  by_cases hk : b.toNat = k
  · subst hk
    rw [if_pos rfl, if_pos hn, wl_at hn, he]
  · rw [if_neg hk]
    by_cases h2 : k < n
    · rw [wl_at h2, wl_at h2, en_cpy (by omega)]
    · rw [List.getElem?_eq_none (by rw [wl_len]; omega), List.getElem?_eq_none (by rw [wl_len]; omega)]
theorem J_copy (q : Nat) (hp : pc + 3 = q) {a b sp dp cn : Int} {la lb idx : Nat} (hlk : inW (.methodLink M.1.cls idx arraycopyName)) (hnat : inW (.native arraycopyName)) (hsta : inW (.static arraycopyName)) (hini : inW (.initialized "java/lang/System")) (ha : Ar 0 la a) (hb : Ar 0 lb b) (h1 : 0 ≤ sp ∧ 0 ≤ dp ∧ 0 ≤ cn ∧ sp + cn ≤ la ∧ dp + cn ≤ lb) (hst : isLs st = 0) (hd0 : 1 ≤ d) (hd : decode M.2.1 pc = .ok (.invokestatic idx, 3)) (k : JG w true M d n1 NT q lv st (hcpy h a sp b dp cn) K) : JG w true M d n1 NT pc lv (vI cn :: vI dp :: vR b :: vI sp :: vR a :: st) h K := by
  subst hp
  intro p l e R s m args below meth c H locs ls cells slots Q F hR hr hW hS hl
  have hts := F.2.2.2.2.2.2.1
  have hea := wl_at (w := w) (fz := true) (h := h) (Ar.lt ha)
  have heb := wl_at (w := w) (fz := true) (h := h) (Ar.lt hb)
  have sa := Ar.small ha
  have sb := Ar.small hb
  rw [en_arr ha, earr_i] at hea
  rw [en_arr hb, earr_i] at heb
  rw [List.map_cons, List.map_cons, List.map_cons, List.map_cons, List.map_cons, wad_w w ha.1 (Ar.lt ha), wad_w w hb.1 (Ar.lt hb)]
  have c1 := clamp_i32 h1.1 (i := sp) (by omega)
  have c2 := clamp_i32 h1.2.1 (i := dp) (by omega)
  have c3 := clamp_i32 h1.2.2.1 (i := cn) (by omega)
  have z0 : inR 0 := ⟨by decide, by decide⟩
  refine va_copyi F.1 F.2.1 (by rw [F.2.2.1]; exact hl.1.symm) F.2.2.2.2.2.1 (hts _ (hlk.mem M)) (hts _ (hnat.mem M)) (hts _ (hsta.mem M)) (hts _ (hini.mem M)) F.2.2.2.2.2.2.2.1.1 hW.2 (wl_D w true NT h) hS a.toNat b.toNat 0 0 hea heb rfl rfl rfl (sp := Int32.ofInt sp) (dp := Int32.ofInt dp) (n := Int32.ofInt cn)
    (fun q => absurd ((i32_lt ⟨by omega, by omega⟩ z0).mp q) (by omega)) (fun q => absurd ((i32_lt ⟨by omega, by omega⟩ z0).mp q) (by omega)) (fun q => absurd ((i32_lt ⟨by omega, by omega⟩ z0).mp q) (by omega)) (by rw [c1, c3]; omega) (by rw [c2, c3]; omega) (fun _ _ => rfl) (by omega) ?_ hd ?_
  · have e1 : ((List.map (tv w) st).map fun v => v.category).sum = 0 + st.length := by
      have := isLs_sum w st hst
      have := isLs_len hst
      omega
    have e2 := isLs_len hst
    rw [e1, e2]
    exact Nat.le_trans (by decide) (show 80 * 1 ≤ R.locals by omega)
  · intro H1 locs1 hP1 hD1 hS1
    refine k p l e R s m args below meth c H1 locs1 ls cells slots Q F hR hr ⟨Or.inl rfl, ?_⟩ hS1 hl
    rwa [wl_cpy (a := a) (sp := sp) (dp := dp) (len := cn) hb.1 (Ar.lt hb)] at hP1
    rw [en_arr hb, earr_i]
    refine congrArg Sum.inl (congrArg (Prod.mk _) (congrArg (Prod.mk _) (congrArg Sum.inl ?_)))
    funext j
    unfold va_cpy hcpy
    rw [c1, c2, c3]
    by_cases g : dp.toNat ≤ j ∧ j < dp.toNat + cn.toNat
    · rw [if_pos ⟨rfl, by omega, by omega⟩, if_pos g]
      have e3 : sp + ((j : Int) - dp) = ((sp.toNat + (j - dp.toNat) : Nat) : Int) := by omega
      rw [e3]
    · rw [if_neg (fun q => g ⟨by omega, by omega⟩), if_neg g]
end ROWS3
