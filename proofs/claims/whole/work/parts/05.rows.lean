/-! ROWS: an instruction, a row -/
theorem NT_lt : NT < 1000 := by decide +kernel
theorem lvm_at {w : Wd} {lv : List (Nat × Vl)} {k i : Nat} {v : Vl} (h : lv[k]? = some (i, v)) : (lvm w lv)[k]? = some (i, tv w v) := by simp [lvm, h]
def isL : Vl → Bool
  | .inr (.inl _) => true
  | _ => false
theorem cat_isL (w : Wd) (v : Vl) : ((tv w v).category == 2) = isL v := by
  rcases v with z | z | o
  · rfl
  · rfl
  · show ((wad w o).category == 2) = false
    rw [wad_cat]; rfl
/-- behind a store of one word: i holds v -/
def lput (lv : List (Nat × Vl)) (i : Nat) (v : Vl) : List (Nat × Vl) := (i, v) :: lv.filter (fun q => !(q.1 == i) && !(q.1 + 1 == i && isL q.2))
def lput2 (lv : List (Nat × Vl)) (i : Nat) (v : Vl) : List (Nat × Vl) := (i, v) :: lv.filter (fun q => !(q.1 == i) && (!(q.1 == i + 1) && !(q.1 + 1 == i && isL q.2)))
theorem lput_m {w : Wd} {lv lv' : List (Nat × Vl)} {i : Nat} {v : Vl} (h : lput lv i v = lv') : (i, tv w v) :: (lvm w lv).filter (fun q => !(q.1 == i) && !(q.1 + 1 == i && q.2.category == 2)) = lvm w lv' := by
  subst h
  simp only [lput, lvm, List.map_cons, List.filter_map]
  congr 2
  apply List.filter_congr
  intro q _
  simp only [Function.comp, cat_isL]
theorem lput2_m {w : Wd} {lv lv' : List (Nat × Vl)} {i : Nat} {v : Vl} (h : lput2 lv i v = lv') : (i, tv w v) :: (lvm w lv).filter (fun q => !(q.1 == i) && (!(q.1 == i + 1) && !(q.1 + 1 == i && q.2.category == 2))) = lvm w lv' := by
  subst h
  simp only [lput2, lvm, List.map_cons, List.filter_map]
  congr 2
  apply List.filter_congr
  intro q _
  simp only [Function.comp, cat_isL]
/-- fewer locals, in any order, by their places -/
def lpick (l : List (Nat × Vl)) (ks : List Nat) : List (Nat × Vl) := ks.filterMap (fun k => l[k]?)
theorem lpick_m {w : Wd} {l l' : List (Nat × Vl)} (ks : List Nat) (h : lpick l ks = l') : lv_pick (lvm w l) ks = lvm w l' := by
  subst h
  unfold lpick lv_pick lvm
  induction ks with
  | nil => rfl
  | cons k ks ih =>
    simp only [List.filterMap_cons, List.getElem?_map]
    cases hk : l[k]? with
    | none => simp only [Option.map_none]; simpa only [List.getElem?_map] using ih
    | some q => simp only [Option.map_some, List.map_cons]; simp only [List.getElem?_map] at ih; rw [ih]
/-- a class: its name, fields, how many, types -/
def CLS (ci : Nat) (C : String) (T : u_T) (N : Nat) (ty0 : Nat → FieldType) : Prop := vwCl[ci]? = some (C, T, N) ∧ nfs.getD ci 0 = N ∧ (∀ w ∈ u_ws C T N, inW w) ∧ (∀ k, k < N → parseFieldDescriptor (T k).2.2.1 = some (ty0 k)) ∧ (∀ a, a < N → ∀ b, b < N → a ≠ b → (T a).2.1 ≠ (T b).2.1)
/-- a field's link -/
def FL (own : String) (idx ci j : Nat) (fin : Bool) (ty : FieldType) : Prop := ∃ (C : String) (T : u_T) (N : Nat) (ty0 : Nat → FieldType), CLS ci C T N ty0 ∧ j < N ∧ inW (.fieldLink own idx C (T j).2.1 (T j).2.2.1) ∧ (T j).1 = C ∧ (T j).2.2.2 = fin ∧ ty0 j = ty
section ROWS
variable {w : Wd} {fz : Bool} {M : Mt} {d n1 n pc : Nat} {lv : List (Nat × Vl)} {st : List Vl} {h : Hp} {K : Int → Hp → Prop}
theorem J_iconst (q : Nat) (hp : pc + 1 = q) {z : Int} (hd : decode M.2.1 pc = .ok (.iconst z, 1)) (k : JG w fz M d n1 n q lv (vI z :: st) h K) : JG w fz M d n1 n pc lv (st) h K := by
  subst hp
  intro p l e R s m args below meth c H locs ls cells slots Q F hR hr hW hS hl
  refine lv_iconst F.1 F.2.1 hd rfl ?_
  exact k p l e R s m args below meth c H locs ls cells slots Q F hR hr hW hS hl
theorem bip {z : Int} (h : -128 ≤ z ∧ z < 128) : (Int8.ofInt z).toInt32 = Int32.ofInt z := by
  apply Int32.toInt_inj.mp
  rw [Int8.toInt_toInt32, Int8.toInt_ofInt_of_le (by exact h.1) (by exact h.2), i32_to ⟨by omega, by omega⟩]
theorem sip {z : Int} (h : -32768 ≤ z ∧ z < 32768) : (Int16.ofInt z).toInt32 = Int32.ofInt z := by
  apply Int32.toInt_inj.mp
  rw [Int16.toInt_toInt32, Int16.toInt_ofInt_of_le (by exact h.1) (by exact h.2), i32_to ⟨by omega, by omega⟩]
theorem J_bipush (q : Nat) (hp : pc + 2 = q) {z : Int} (hz : -128 ≤ z ∧ z < 128) (hd : decode M.2.1 pc = .ok (.bipush z, 2)) (k : JG w fz M d n1 n q lv (vI z :: st) h K) : JG w fz M d n1 n pc lv (st) h K := by
  subst hp
  intro p l e R s m args below meth c H locs ls cells slots Q F hR hr hW hS hl
  refine lv_bipush F.1 F.2.1 hd (bip hz) ?_
  exact k p l e R s m args below meth c H locs ls cells slots Q F hR hr hW hS hl
theorem J_sipush (q : Nat) (hp : pc + 3 = q) {z : Int} (hz : -32768 ≤ z ∧ z < 32768) (hd : decode M.2.1 pc = .ok (.sipush z, 3)) (k : JG w fz M d n1 n q lv (vI z :: st) h K) : JG w fz M d n1 n pc lv (st) h K := by
  subst hp
  intro p l e R s m args below meth c H locs ls cells slots Q F hR hr hW hS hl
  refine lv_sipush F.1 F.2.1 hd (sip hz) ?_
  exact k p l e R s m args below meth c H locs ls cells slots Q F hR hr hW hS hl
theorem J_lconst (q : Nat) (hp : pc + 1 = q) {fq : Fin 2} {z : Int} (hz : Int64.ofNat (fq : Nat) = Int64.ofInt z) (hd : decode M.2.1 pc = .ok (.lconst fq, 1)) (k : JG w fz M d n1 n q lv (vL z :: st) h K) : JG w fz M d n1 n pc lv (st) h K := by
  subst hp
  intro p l e R s m args below meth c H locs ls cells slots Q F hR hr hW hS hl
  refine lv_lconst F.1 F.2.1 hd hz ?_
  exact k p l e R s m args below meth c H locs ls cells slots Q F hR hr hW hS hl
theorem J_iload (q : Nat) (hp : pc + 2 = q) {x : Int} (i k0 : Nat) (hk : lv[k0]? = some (i, vI x)) (hd : decode M.2.1 pc = .ok (.iload i, 2)) (k : JG w fz M d n1 n q lv (vI x :: st) h K) : JG w fz M d n1 n pc lv (st) h K := by
  subst hp
  intro p l e R s m args below meth c H locs ls cells slots Q F hR hr hW hS hl
  refine lv_iload F.1 F.2.1 hd (lv_at hl k0 (lvm_at hk)) ?_
  exact k p l e R s m args below meth c H locs ls cells slots Q F hR hr hW hS hl
theorem J_iload_n (q : Nat) (hp : pc + 1 = q) {x : Int} (fq : Fin 4) (k0 : Nat) (hk : lv[k0]? = some ((fq : Nat), vI x)) (hd : decode M.2.1 pc = .ok (.iload_n fq, 1)) (k : JG w fz M d n1 n q lv (vI x :: st) h K) : JG w fz M d n1 n pc lv (st) h K := by
  subst hp
  intro p l e R s m args below meth c H locs ls cells slots Q F hR hr hW hS hl
  refine lv_iload_n F.1 F.2.1 hd rfl (lv_at hl k0 (lvm_at hk)) ?_
  exact k p l e R s m args below meth c H locs ls cells slots Q F hR hr hW hS hl
theorem J_lload (q : Nat) (hp : pc + 2 = q) {x : Int} (i k0 : Nat) (hk : lv[k0]? = some (i, vL x)) (hd : decode M.2.1 pc = .ok (.lload i, 2)) (k : JG w fz M d n1 n q lv (vL x :: st) h K) : JG w fz M d n1 n pc lv (st) h K := by
  subst hp
  intro p l e R s m args below meth c H locs ls cells slots Q F hR hr hW hS hl
  refine lv_lload F.1 F.2.1 hd (lv_at hl k0 (lvm_at hk)) ?_
  exact k p l e R s m args below meth c H locs ls cells slots Q F hR hr hW hS hl
theorem J_lload_n (q : Nat) (hp : pc + 1 = q) {x : Int} (fq : Fin 4) (k0 : Nat) (hk : lv[k0]? = some ((fq : Nat), vL x)) (hd : decode M.2.1 pc = .ok (.lload_n fq, 1)) (k : JG w fz M d n1 n q lv (vL x :: st) h K) : JG w fz M d n1 n pc lv (st) h K := by
  subst hp
  intro p l e R s m args below meth c H locs ls cells slots Q F hR hr hW hS hl
  refine lv_lload_n F.1 F.2.1 hd rfl (lv_at hl k0 (lvm_at hk)) ?_
  exact k p l e R s m args below meth c H locs ls cells slots Q F hR hr hW hS hl
theorem wad_some (w : Wd) {o : Int} (h : 0 ≤ o ∧ o < 5000) : ∃ a : Nat, wad w o = .ref a := by
  unfold wad
  rw [if_neg (by omega)]
  repeat' split
  all_goals first | exact ⟨_, rfl⟩ | omega
theorem J_aload (q : Nat) (hp : pc + 2 = q) {x : Int} (i k0 : Nat) (hk : lv[k0]? = some (i, vR x)) (hx : 0 ≤ x ∧ x < 5000) (hd : decode M.2.1 pc = .ok (.aload i, 2)) (k : JG w fz M d n1 n q lv (vR x :: st) h K) : JG w fz M d n1 n pc lv st h K := by
  subst hp
  intro p l e R s m args below meth c H locs ls cells slots Q F hR hr hW hS hl
  obtain ⟨a, ha⟩ := wad_some w hx
  have hk2 := lv_at hl k0 (lvm_at (w := w) hk)
  have k2 := k p l e R s m args below meth c H locs ls cells slots Q F hR hr hW hS hl
  have e2 : (List.map (tv w) (vR x :: st)) = .ref a :: List.map (tv w) st := by rw [← ha]; rfl
  rw [e2] at k2
  rw [show tv w (vR x) = wad w x from rfl, ha] at hk2
  exact lv_aload F.1 F.2.1 hd hk2 k2
theorem J_aload_n (q : Nat) (hp : pc + 1 = q) {x : Int} (fq : Fin 4) (k0 : Nat) (hk : lv[k0]? = some ((fq : Nat), vR x)) (hx : 0 ≤ x ∧ x < 5000) (hd : decode M.2.1 pc = .ok (.aload_n fq, 1)) (k : JG w fz M d n1 n q lv (vR x :: st) h K) : JG w fz M d n1 n pc lv st h K := by
  subst hp
  intro p l e R s m args below meth c H locs ls cells slots Q F hR hr hW hS hl
  obtain ⟨a, ha⟩ := wad_some w hx
  have hk2 := lv_at hl k0 (lvm_at (w := w) hk)
  have k2 := k p l e R s m args below meth c H locs ls cells slots Q F hR hr hW hS hl
  have e2 : (List.map (tv w) (vR x :: st)) = .ref a :: List.map (tv w) st := by rw [← ha]; rfl
  rw [e2] at k2
  rw [show tv w (vR x) = wad w x from rfl, ha] at hk2
  exact lv_aload_n F.1 F.2.1 hd rfl hk2 k2
theorem J_istore (q : Nat) (hp : pc + 2 = q) {x : Int} {lv' : List (Nat × Vl)} (i : Nat) (hn : i < M.2.2.1) (hl' : lput lv i (vI x) = lv') (hd : decode M.2.1 pc = .ok (.istore i, 2)) (k : JG w fz M d n1 n q lv' st h K) : JG w fz M d n1 n pc lv (vI x :: st) h K := by
  subst hp
  intro p l e R s m args below meth c H locs ls cells slots Q F hR hr hW hS hl
  exact lv_istore F.1 F.2.1 hd hl hn (lput_m hl') fun ls hl => k p l e R s m args below meth c H locs ls cells slots Q F hR hr hW hS hl
theorem J_istore_n (q : Nat) (hp : pc + 1 = q) {x : Int} {lv' : List (Nat × Vl)} (fq : Fin 4) (hn : (fq : Nat) < M.2.2.1) (hl' : lput lv (fq : Nat) (vI x) = lv') (hd : decode M.2.1 pc = .ok (.istore_n fq, 1)) (k : JG w fz M d n1 n q lv' st h K) : JG w fz M d n1 n pc lv (vI x :: st) h K := by
  subst hp
  intro p l e R s m args below meth c H locs ls cells slots Q F hR hr hW hS hl
  exact lv_istore_n F.1 F.2.1 hd rfl hl hn (lput_m hl') fun ls hl => k p l e R s m args below meth c H locs ls cells slots Q F hR hr hW hS hl
theorem J_lstore (q : Nat) (hp : pc + 2 = q) {x : Int} {lv' : List (Nat × Vl)} (i : Nat) (hn : i + 1 < M.2.2.1) (hl' : lput2 lv i (vL x) = lv') (hd : decode M.2.1 pc = .ok (.lstore i, 2)) (k : JG w fz M d n1 n q lv' st h K) : JG w fz M d n1 n pc lv (vL x :: st) h K := by
  subst hp
  intro p l e R s m args below meth c H locs ls cells slots Q F hR hr hW hS hl
  exact lv_lstore F.1 F.2.1 hd hl hn (lput2_m hl') fun ls hl => k p l e R s m args below meth c H locs ls cells slots Q F hR hr hW hS hl
theorem J_lstore_n (q : Nat) (hp : pc + 1 = q) {x : Int} {lv' : List (Nat × Vl)} (fq : Fin 4) (hn : (fq : Nat) + 1 < M.2.2.1) (hl' : lput2 lv (fq : Nat) (vL x) = lv') (hd : decode M.2.1 pc = .ok (.lstore_n fq, 1)) (k : JG w fz M d n1 n q lv' st h K) : JG w fz M d n1 n pc lv (vL x :: st) h K := by
  subst hp
  intro p l e R s m args below meth c H locs ls cells slots Q F hR hr hW hS hl
  exact lv_lstore_n F.1 F.2.1 hd rfl hl hn (lput2_m hl') fun ls hl => k p l e R s m args below meth c H locs ls cells slots Q F hR hr hW hS hl
theorem J_astore (q : Nat) (hp : pc + 2 = q) {x : Int} {lv' : List (Nat × Vl)} (i : Nat) (hx : 0 ≤ x ∧ x < 5000) (hn : i < M.2.2.1) (hl' : lput lv i (vR x) = lv') (hd : decode M.2.1 pc = .ok (.astore i, 2)) (k : JG w fz M d n1 n q lv' st h K) : JG w fz M d n1 n pc lv (vR x :: st) h K := by
  subst hp
  intro p l e R s m args below meth c H locs ls cells slots Q F hR hr hW hS hl
  obtain ⟨a, ha⟩ := wad_some w hx
  have e2 : (List.map (tv w) (vR x :: st)) = .ref a :: List.map (tv w) st := by rw [← ha]; rfl
  have hm := lput_m (w := w) hl'
  rw [show tv w (vR x) = wad w x from rfl, ha] at hm
  rw [e2]
  exact lv_astore F.1 F.2.1 hd hl hn hm fun ls hl => k p l e R s m args below meth c H locs ls cells slots Q F hR hr hW hS hl
theorem J_astore_n (q : Nat) (hp : pc + 1 = q) {x : Int} {lv' : List (Nat × Vl)} (fq : Fin 4) (hx : 0 ≤ x ∧ x < 5000) (hn : (fq : Nat) < M.2.2.1) (hl' : lput lv (fq : Nat) (vR x) = lv') (hd : decode M.2.1 pc = .ok (.astore_n fq, 1)) (k : JG w fz M d n1 n q lv' st h K) : JG w fz M d n1 n pc lv (vR x :: st) h K := by
  subst hp
  intro p l e R s m args below meth c H locs ls cells slots Q F hR hr hW hS hl
  obtain ⟨a, ha⟩ := wad_some w hx
  have e2 : (List.map (tv w) (vR x :: st)) = .ref a :: List.map (tv w) st := by rw [← ha]; rfl
  have hm := lput_m (w := w) hl'
  rw [show tv w (vR x) = wad w x from rfl, ha] at hm
  rw [e2]
  exact lv_astore_n F.1 F.2.1 hd rfl hl hn hm fun ls hl => k p l e R s m args below meth c H locs ls cells slots Q F hR hr hW hS hl
theorem J_iinc (q : Nat) (hp : pc + 3 = q) {x v : Int} {lv' : List (Nat × Vl)} (i k0 : Nat) (z : Int) (hk : lv[k0]? = some (i, vI x)) (hv : x + z = v) (hn : i < M.2.2.1) (hl' : lput lv i (vI v) = lv') (hd : decode M.2.1 pc = .ok (.iinc i z, 3)) (k : JG w fz M d n1 n q lv' st h K) : JG w fz M d n1 n pc lv st h K := by
  subst hp
  intro p l e R s m args below meth c H locs ls cells slots Q F hR hr hW hS hl
  refine lv_iinc (v := Int32.ofInt v) (lv' := lvm w lv') F.1 F.2.1 hd hl (lvm_at hk) (by rw [← hv, Int32.ofInt_add]) hn (lput_m hl') fun ls hl => k p l e R s m args below meth c H locs ls cells slots Q F hR hr hW hS hl
theorem J_sub {lv' : List (Nat × Vl)} (ks : List Nat) (hl' : lpick lv ks = lv') (k : JG w fz M d n1 n pc lv' st h K) : JG w fz M d n1 n pc lv st h K := by
  intro p l e R s m args below meth c H locs ls cells slots Q F hR hr hW hS hl
  exact k p l e R s m args below meth c H locs ls cells slots Q F hR hr hW hS (lv_sub hl ks (lpick_m ks hl'))
theorem J_iadd (q : Nat) (hp : pc + 1 = q) {x y : Int}  (hd : decode M.2.1 pc = .ok (.iadd, 1)) (k : JG w fz M d n1 n q lv (vI (x + y) :: st) h K) : JG w fz M d n1 n pc lv (vI y :: vI x :: st) h K := by
  subst hp
  intro p l e R s m args below meth c H locs ls cells slots Q F hR hr hW hS hl
  refine lv_iadd F.1 F.2.1 hd  ?_
  rw [← Int32.ofInt_add]
  exact k p l e R s m args below meth c H locs ls cells slots Q F hR hr hW hS hl
theorem J_ladd (q : Nat) (hp : pc + 1 = q) {x y : Int}  (hd : decode M.2.1 pc = .ok (.ladd, 1)) (k : JG w fz M d n1 n q lv (vL (x + y) :: st) h K) : JG w fz M d n1 n pc lv (vL y :: vL x :: st) h K := by
  subst hp
  intro p l e R s m args below meth c H locs ls cells slots Q F hR hr hW hS hl
  refine lv_ladd F.1 F.2.1 hd  ?_
  rw [← Int64.ofInt_add]
  exact k p l e R s m args below meth c H locs ls cells slots Q F hR hr hW hS hl
theorem J_isub (q : Nat) (hp : pc + 1 = q) {x y : Int}  (hd : decode M.2.1 pc = .ok (.isub, 1)) (k : JG w fz M d n1 n q lv (vI (x - y) :: st) h K) : JG w fz M d n1 n pc lv (vI y :: vI x :: st) h K := by
  subst hp
  intro p l e R s m args below meth c H locs ls cells slots Q F hR hr hW hS hl
  refine lv_isub F.1 F.2.1 hd  ?_
  rw [← Int32.ofInt_sub]
  exact k p l e R s m args below meth c H locs ls cells slots Q F hR hr hW hS hl
theorem J_lsub (q : Nat) (hp : pc + 1 = q) {x y : Int}  (hd : decode M.2.1 pc = .ok (.lsub, 1)) (k : JG w fz M d n1 n q lv (vL (x - y) :: st) h K) : JG w fz M d n1 n pc lv (vL y :: vL x :: st) h K := by
  subst hp
  intro p l e R s m args below meth c H locs ls cells slots Q F hR hr hW hS hl
  refine lv_lsub F.1 F.2.1 hd  ?_
  rw [← Int64.ofInt_sub]
  exact k p l e R s m args below meth c H locs ls cells slots Q F hR hr hW hS hl
theorem J_imul (q : Nat) (hp : pc + 1 = q) {x y : Int}  (hd : decode M.2.1 pc = .ok (.imul, 1)) (k : JG w fz M d n1 n q lv (vI (x * y) :: st) h K) : JG w fz M d n1 n pc lv (vI y :: vI x :: st) h K := by
  subst hp
  intro p l e R s m args below meth c H locs ls cells slots Q F hR hr hW hS hl
  refine lv_imul F.1 F.2.1 hd  ?_
  rw [← Int32.ofInt_mul]
  exact k p l e R s m args below meth c H locs ls cells slots Q F hR hr hW hS hl
theorem J_lmul (q : Nat) (hp : pc + 1 = q) {x y : Int}  (hd : decode M.2.1 pc = .ok (.lmul, 1)) (k : JG w fz M d n1 n q lv (vL (x * y) :: st) h K) : JG w fz M d n1 n pc lv (vL y :: vL x :: st) h K := by
  subst hp
  intro p l e R s m args below meth c H locs ls cells slots Q F hR hr hW hS hl
  refine lv_lmul F.1 F.2.1 hd  ?_
  rw [← Int64.ofInt_mul]
  exact k p l e R s m args below meth c H locs ls cells slots Q F hR hr hW hS hl
theorem i32_ne0 {y : Int} (hy : inR y) (h0 : y ≠ 0) : ¬ Int32.ofInt y = 0 := fun q => h0 ((i32_eq hy (y := 0) ⟨by decide, by decide⟩).mp q)
theorem i64_ne0 {y : Int} (hy : inL y) (h0 : y ≠ 0) : ¬ Int64.ofInt y = 0 := fun q => h0 ((i64_eq hy (y := 0) ⟨by decide, by decide⟩).mp q)
theorem tdiv_in {x y B : Int} (hB : -B < x ∧ x < B) (h0 : y ≠ 0) : -B < x.tdiv y ∧ x.tdiv y < B := by
  have h1 : (x.tdiv y).natAbs ≤ x.natAbs := by rw [Int.natAbs_tdiv]; exact Nat.div_le_self _ _
  omega
theorem i32_tdiv {x y : Int} (hx : -2147483648 < x ∧ x < 2147483648) (hy : inR y) (h0 : y ≠ 0) : Int32.ofInt x / Int32.ofInt y = Int32.ofInt (x.tdiv y) := by
  have h2 := tdiv_in hx h0
  apply Int32.toInt_inj.mp
  rw [Int32.toInt_div, i32_to ⟨by omega, by omega⟩, i32_to hy, i32_to ⟨by omega, by omega⟩]
  exact Int.bmod_eq_of_le (by omega) (by omega)
theorem i64_tdiv {x y : Int} (hx : -9223372036854775808 < x ∧ x < 9223372036854775808) (hy : inL y) (h0 : y ≠ 0) : Int64.ofInt x / Int64.ofInt y = Int64.ofInt (x.tdiv y) := by
  have h2 := tdiv_in hx h0
  apply Int64.toInt_inj.mp
  rw [Int64.toInt_div, i64_to ⟨by omega, by omega⟩, i64_to hy, i64_to ⟨by omega, by omega⟩]
  exact Int.bmod_eq_of_le (by omega) (by omega)
theorem i32_rem {x y : Int} (hx : -2147483648 < x ∧ x < 2147483648) (hy : inR y) (h0 : y ≠ 0) : Int32.ofInt x - Int32.ofInt x / Int32.ofInt y * Int32.ofInt y = Int32.ofInt (x.tmod y) := by
  rw [i32_tdiv hx hy h0, ← Int32.ofInt_mul, ← Int32.ofInt_sub]
  congr 1
  have := Int.mul_tdiv_add_tmod x y
  rw [Int.mul_comm] at this
  omega
theorem i64_rem {x y : Int} (hx : -9223372036854775808 < x ∧ x < 9223372036854775808) (hy : inL y) (h0 : y ≠ 0) : Int64.ofInt x - Int64.ofInt x / Int64.ofInt y * Int64.ofInt y = Int64.ofInt (x.tmod y) := by
  rw [i64_tdiv hx hy h0, ← Int64.ofInt_mul, ← Int64.ofInt_sub]
  congr 1
  have := Int.mul_tdiv_add_tmod x y
  rw [Int.mul_comm] at this
  omega
theorem J_idiv (q : Nat) (hp : pc + 1 = q) {x y : Int} (hx : 0 ≤ x ∧ x < 2147483648) (hy : 0 < y ∧ y < 2147483648) (hd : decode M.2.1 pc = .ok (.idiv, 1)) (k : JG w fz M d n1 n q lv (vI (x / y) :: st) h K) : JG w fz M d n1 n pc lv (vI y :: vI x :: st) h K := by
  subst hp
  intro p l e R s m args below meth c H locs ls cells slots Q F hR hr hW hS hl
  refine lv_idiv F.1 F.2.1 hd (i32_ne0 ⟨by omega, by omega⟩ (by omega)) ?_
  rw [i32_tdiv ⟨by omega, by omega⟩ ⟨by omega, by omega⟩ (by omega), Int.tdiv_eq_ediv_of_nonneg hx.1]
  exact k p l e R s m args below meth c H locs ls cells slots Q F hR hr hW hS hl
theorem J_irem (q : Nat) (hp : pc + 1 = q) {x y : Int} (hx : 0 ≤ x ∧ x < 2147483648) (hy : 0 < y ∧ y < 2147483648) (hd : decode M.2.1 pc = .ok (.irem, 1)) (k : JG w fz M d n1 n q lv (vI (x % y) :: st) h K) : JG w fz M d n1 n pc lv (vI y :: vI x :: st) h K := by
  subst hp
  intro p l e R s m args below meth c H locs ls cells slots Q F hR hr hW hS hl
  refine lv_irem F.1 F.2.1 hd (i32_ne0 ⟨by omega, by omega⟩ (by omega)) ?_
  rw [i32_rem ⟨by omega, by omega⟩ ⟨by omega, by omega⟩ (by omega), Int.tmod_eq_emod_of_nonneg hx.1]
  exact k p l e R s m args below meth c H locs ls cells slots Q F hR hr hW hS hl
theorem J_ldiv (q : Nat) (hp : pc + 1 = q) {x y : Int} (hx : 0 ≤ x ∧ x < 9223372036854775808) (hy : 0 < y ∧ y < 9223372036854775808) (hd : decode M.2.1 pc = .ok (.ldiv, 1)) (k : JG w fz M d n1 n q lv (vL (x / y) :: st) h K) : JG w fz M d n1 n pc lv (vL y :: vL x :: st) h K := by
  subst hp
  intro p l e R s m args below meth c H locs ls cells slots Q F hR hr hW hS hl
  refine lv_ldiv F.1 F.2.1 hd (i64_ne0 ⟨by omega, by omega⟩ (by omega)) ?_
  rw [i64_tdiv ⟨by omega, by omega⟩ ⟨by omega, by omega⟩ (by omega), Int.tdiv_eq_ediv_of_nonneg hx.1]
  exact k p l e R s m args below meth c H locs ls cells slots Q F hR hr hW hS hl
theorem J_lrem (q : Nat) (hp : pc + 1 = q) {x y : Int} (hx : 0 ≤ x ∧ x < 9223372036854775808) (hy : 0 < y ∧ y < 9223372036854775808) (hd : decode M.2.1 pc = .ok (.lrem, 1)) (k : JG w fz M d n1 n q lv (vL (x % y) :: st) h K) : JG w fz M d n1 n pc lv (vL y :: vL x :: st) h K := by
  subst hp
  intro p l e R s m args below meth c H locs ls cells slots Q F hR hr hW hS hl
  refine lv_lrem F.1 F.2.1 hd (i64_ne0 ⟨by omega, by omega⟩ (by omega)) ?_
  rw [i64_rem ⟨by omega, by omega⟩ ⟨by omega, by omega⟩ (by omega), Int.tmod_eq_emod_of_nonneg hx.1]
  exact k p l e R s m args below meth c H locs ls cells slots Q F hR hr hW hS hl
theorem J_ldivS (q : Nat) (hp : pc + 1 = q) {x y : Int} (hx : -9223372036854775808 < x ∧ x < 9223372036854775808) (hy : inL y) (h0 : y ≠ 0) (hd : decode M.2.1 pc = .ok (.ldiv, 1)) (k : JG w fz M d n1 n q lv (vL (x.tdiv y) :: st) h K) : JG w fz M d n1 n pc lv (vL y :: vL x :: st) h K := by
  subst hp
  intro p l e R s m args below meth c H locs ls cells slots Q F hR hr hW hS hl
  refine lv_ldiv F.1 F.2.1 hd (i64_ne0 hy h0) ?_
  rw [i64_tdiv hx hy h0]
  exact k p l e R s m args below meth c H locs ls cells slots Q F hR hr hW hS hl
theorem J_lremS (q : Nat) (hp : pc + 1 = q) {x y : Int} (hx : -9223372036854775808 < x ∧ x < 9223372036854775808) (hy : inL y) (h0 : y ≠ 0) (hd : decode M.2.1 pc = .ok (.lrem, 1)) (k : JG w fz M d n1 n q lv (vL (x.tmod y) :: st) h K) : JG w fz M d n1 n pc lv (vL y :: vL x :: st) h K := by
  subst hp
  intro p l e R s m args below meth c H locs ls cells slots Q F hR hr hW hS hl
  refine lv_lrem F.1 F.2.1 hd (i64_ne0 hy h0) ?_
  rw [i64_rem hx hy h0]
  exact k p l e R s m args below meth c H locs ls cells slots Q F hR hr hW hS hl
theorem i32_mask {x : Int} {k : Nat} (hk : k ≤ 31) : Int32.ofInt x &&& Int32.ofInt (2 ^ k - 1) = Int32.ofInt (x % 2 ^ k) := by
  have hm : (Int32.ofInt (2 ^ k - 1)).toBitVec = BitVec.ofNat 32 (2 ^ k - 1) := by
    rw [Int32.toBitVec_ofInt]
    have e : ((2 : Int) ^ k - 1) = ((2 ^ k - 1 : Nat) : Int) := by
      have : 1 ≤ 2 ^ k := Nat.one_le_two_pow
      push_cast [this]
      rfl
    rw [e, BitVec.ofInt_natCast]
  apply Int32.toBitVec_inj.mp
  rw [Int32.toBitVec_and, hm, Int32.toBitVec_ofInt, Int32.toBitVec_ofInt]
  apply BitVec.eq_of_toNat_eq
  rw [BitVec.toNat_and, BitVec.toNat_ofNat, BitVec.toNat_ofInt, BitVec.toNat_ofInt]
  have h2 : (2 : Nat) ^ k ≤ 2 ^ 31 := Nat.pow_le_pow_right (by decide) hk
  have h3 : (2 : Nat) ^ 31 < 2 ^ 32 := by decide
  have h1 : 1 ≤ 2 ^ k := Nat.one_le_two_pow
  rw [Nat.mod_eq_of_lt (show 2 ^ k - 1 < 2 ^ 32 by omega), Nat.and_two_pow_sub_one_eq_mod]
  have hdvd : ((2 : Int) ^ k) ∣ 2 ^ 32 := by
    obtain ⟨t, ht⟩ : ∃ t, 32 = k + t := ⟨32 - k, by omega⟩
    exact ⟨2 ^ t, by rw [ht, Int.pow_add]⟩
  have e1 : x % 2 ^ k = (x % 2 ^ 32) % 2 ^ k := (Int.emod_emod_of_dvd x hdvd).symm
  have p0 : (0 : Int) ≤ x % 2 ^ 32 := Int.emod_nonneg _ (by decide)
  have e4 : ((2 ^ 32 : Nat) : Int) = 2 ^ 32 := by decide
  rw [e1]
  obtain ⟨q, hq⟩ : ∃ q : Nat, x % 2 ^ 32 = (q : Int) := ⟨(x % 2 ^ 32).toNat, by omega⟩
  rw [e4, hq]
  have e5 : ((q : Int) % 2 ^ k) = ((q % 2 ^ k : Nat) : Int) := by push_cast; rfl
  rw [e5]
  have h6 : q % 2 ^ k < 2 ^ k := Nat.mod_lt _ (by omega)
  have e6 : (((q % 2 ^ k : Nat) : Int) % 2 ^ 32) = ((q % 2 ^ k : Nat) : Int) := by
    apply Int.emod_eq_of_lt (by omega)
    have : ((2 : Int) ^ 32) = ((2 ^ 32 : Nat) : Int) := by decide
    rw [this]
    exact Int.ofNat_lt.mpr (by omega)
  rw [e6, Int.toNat_natCast, Int.toNat_natCast]
theorem i32_and01 {x y : Int} (hx : x = 0 ∨ x = 1) (hy : y = 0 ∨ y = 1) : Int32.ofInt x &&& Int32.ofInt y = Int32.ofInt (x * y) := by
  rcases hx with rfl | rfl <;> rcases hy with rfl | rfl <;> decide
def iorI (x y : Int) : Int := (Int32.ofInt x ||| Int32.ofInt y).toInt
theorem i32_a31 {s : Int} (hs : 0 ≤ s ∧ s < 32) : Int32.ofInt s &&& 31 = Int32.ofInt s := by
  have := i32_mask (x := s) (k := 5) (by decide)
  rw [show ((2 : Int) ^ 5 - 1) = 31 from rfl, show ((2 : Int) ^ 5) = 32 from rfl, Int.emod_eq_of_lt hs.1 hs.2] at this
  exact this
theorem i32_shr {x s : Int} (hx : inR x) (hs : 0 ≤ s ∧ s < 32) : Int32.ofInt x >>> Int32.ofInt s = Int32.ofInt (x / 2 ^ s.toNat) := by
  obtain ⟨k, rfl⟩ : ∃ k : Nat, s = (k : Int) := ⟨s.toNat, by omega⟩
  have hk : k < 32 := by omega
  apply Int32.toInt_inj.mp
  have hsm : ((Int32.ofInt (k : Int)).toBitVec.smod 32).toNat = k := by
    have : ∀ q, q < 32 → ((Int32.ofInt ((q : Nat) : Int)).toBitVec.smod 32).toNat = q := by decide +kernel
    exact this k hk
  rw [pk_shr _ _ k hsm, i32_to hx, Int.shiftRight_eq_div_pow]
  have h2 : (0 : Int) < 2 ^ k := Int.pow_pos (by decide)
  have h3 : (1 : Int) ≤ 2 ^ k := by omega
  have b1 : -2147483648 ≤ x / 2 ^ k := by
    have := Int.ediv_le_ediv h2 hx.1
    have h4 : -2147483648 ≤ (-2147483648 : Int) / 2 ^ k := (Int.le_ediv_iff_mul_le h2).mpr (by omega)
    omega
  have b2 : x / 2 ^ k < 2147483648 := (Int.ediv_lt_iff_lt_mul h2).mpr (by omega)
  rw [i32_to ⟨by simpa using b1, by simpa using b2⟩]
  simp
theorem i32_shl {x s : Int} (hs : 0 ≤ s ∧ s < 32) : Int32.ofInt x <<< Int32.ofInt s = Int32.ofInt (x * 2 ^ s.toNat) := by
  obtain ⟨k, rfl⟩ : ∃ k : Nat, s = (k : Int) := ⟨s.toNat, by omega⟩
  have hk : k < 32 := by omega
  have hsm : ((Int32.ofInt (k : Int)).toBitVec.smod 32).toNat = k := by
    have : ∀ q, q < 32 → ((Int32.ofInt ((q : Nat) : Int)).toBitVec.smod 32).toNat = q := by decide +kernel
    exact this k hk
  apply Int32.toBitVec_inj.mp
  apply BitVec.eq_of_toNat_eq
  rw [pk_shl _ _ k hsm, Int32.toBitVec_ofInt, Int32.toBitVec_ofInt, BitVec.toNat_ofInt, BitVec.toNat_ofInt]
  have p0 : (0 : Int) ≤ x % 2 ^ 32 := Int.emod_nonneg _ (by decide)
  have e4 : ((2 ^ 32 : Nat) : Int) = 2 ^ 32 := by decide
  rw [e4]
  obtain ⟨q, hq⟩ : ∃ q : Nat, x % 2 ^ 32 = (q : Int) := ⟨(x % 2 ^ 32).toNat, by omega⟩
  rw [Int.mul_emod, hq, Int.toNat_natCast, Int.toNat_natCast]
  have e7 : ((q : Int) * (2 ^ k % 2 ^ 32)) % 2 ^ 32 = ((q * 2 ^ k % 2 ^ 32 : Nat) : Int) := by
    rw [Int.mul_emod, Int.emod_emod_of_dvd _ (Int.dvd_refl _), ← Int.mul_emod, Int.natCast_emod, e4, Int.natCast_mul, Int.natCast_pow]
    rfl
  rw [e7, Int.toNat_natCast]
theorem J_mask (q : Nat) (hp : pc + 1 = q) {x z : Int} (k0 : Nat) (hk : k0 ≤ 31) (hz : z = 2 ^ k0 - 1) (hd : decode M.2.1 pc = .ok (.iand, 1)) (k : JG w fz M d n1 n q lv (vI (x % 2 ^ k0) :: st) h K) : JG w fz M d n1 n pc lv (vI z :: vI x :: st) h K := by
  subst hp
  intro p l e R s m args below meth c H locs ls cells slots Q F hR hr hW hS hl
  subst hz
  refine lv_iand F.1 F.2.1 hd ?_
  rw [i32_mask hk]
  exact k p l e R s m args below meth c H locs ls cells slots Q F hR hr hW hS hl
theorem J_and01 (q : Nat) (hp : pc + 1 = q) {x y : Int} (hx : x = 0 ∨ x = 1) (hy : y = 0 ∨ y = 1) (hd : decode M.2.1 pc = .ok (.iand, 1)) (k : JG w fz M d n1 n q lv (vI (x * y) :: st) h K) : JG w fz M d n1 n pc lv (vI y :: vI x :: st) h K := by
  subst hp
  intro p l e R s m args below meth c H locs ls cells slots Q F hR hr hW hS hl
  refine lv_iand F.1 F.2.1 hd ?_
  rw [i32_and01 hx hy]
  exact k p l e R s m args below meth c H locs ls cells slots Q F hR hr hW hS hl
theorem J_ior (q : Nat) (hp : pc + 1 = q) {x y : Int} (hd : decode M.2.1 pc = .ok (.ior, 1)) (k : JG w fz M d n1 n q lv (vI (iorI x y) :: st) h K) : JG w fz M d n1 n pc lv (vI y :: vI x :: st) h K := by
  subst hp
  intro p l e R s m args below meth c H locs ls cells slots Q F hR hr hW hS hl
  refine lv_ior F.1 F.2.1 hd ?_
  have k2 := k p l e R s m args below meth c H locs ls cells slots Q F hR hr hW hS hl
  rw [show List.map (tv w) (vI (iorI x y) :: st) = .int (Int32.ofInt (iorI x y)) :: List.map (tv w) st from rfl, iorI, Int32.ofInt_toInt] at k2
  exact k2
theorem J_ishr (q : Nat) (hp : pc + 1 = q) {x y : Int} (hx : inR x) (hy : 0 ≤ y ∧ y < 32) (hd : decode M.2.1 pc = .ok (.ishr, 1)) (k : JG w fz M d n1 n q lv (vI (x / 2 ^ y.toNat) :: st) h K) : JG w fz M d n1 n pc lv (vI y :: vI x :: st) h K := by
  subst hp
  intro p l e R s m args below meth c H locs ls cells slots Q F hR hr hW hS hl
  refine lv_ishr F.1 F.2.1 hd ?_
  have k2 := k p l e R s m args below meth c H locs ls cells slots Q F hR hr hW hS hl
  rw [show List.map (tv w) (vI (x / 2 ^ y.toNat) :: st) = .int (Int32.ofInt (x / 2 ^ y.toNat)) :: List.map (tv w) st from rfl, ← i32_shr hx hy, ← i32_a31 hy] at k2
  exact k2
theorem J_ishl (q : Nat) (hp : pc + 1 = q) {x y : Int} (hy : 0 ≤ y ∧ y < 32) (hd : decode M.2.1 pc = .ok (.ishl, 1)) (k : JG w fz M d n1 n q lv (vI (x * 2 ^ y.toNat) :: st) h K) : JG w fz M d n1 n pc lv (vI y :: vI x :: st) h K := by
  subst hp
  intro p l e R s m args below meth c H locs ls cells slots Q F hR hr hW hS hl
  refine lv_ishl F.1 F.2.1 hd ?_
  have k2 := k p l e R s m args below meth c H locs ls cells slots Q F hR hr hW hS hl
  rw [show List.map (tv w) (vI (x * 2 ^ y.toNat) :: st) = .int (Int32.ofInt (x * 2 ^ y.toNat)) :: List.map (tv w) st from rfl, ← i32_shl hy, ← i32_a31 hy] at k2
  exact k2
theorem J_i2l (q : Nat) (hp : pc + 1 = q) {x : Int} (hx : inR x) (hd : decode M.2.1 pc = .ok (.i2l, 1)) (k : JG w fz M d n1 n q lv (vL x :: st) h K) : JG w fz M d n1 n pc lv (vI x :: st) h K := by
  subst hp
  intro p l e R s m args below meth c H locs ls cells slots Q F hR hr hW hS hl
  refine lv_i2l (v := Int64.ofInt x) F.1 F.2.1 hd ?_ (k p l e R s m args below meth c H locs ls cells slots Q F hR hr hW hS hl)
  apply Int64.toInt_inj.mp
  rw [Int32.toInt_toInt64, i32_to hx, i64_to ⟨by omega, by omega⟩]
theorem J_l2i (q : Nat) (hp : pc + 1 = q) {x : Int} (hd : decode M.2.1 pc = .ok (.l2i, 1)) (k : JG w fz M d n1 n q lv (vI x :: st) h K) : JG w fz M d n1 n pc lv (vL x :: st) h K := by
  subst hp
  intro p l e R s m args below meth c H locs ls cells slots Q F hR hr hW hS hl
  refine lv_l2i (v := Int32.ofInt x) F.1 F.2.1 hd ?_ (k p l e R s m args below meth c H locs ls cells slots Q F hR hr hW hS hl)
  rw [Int64.toInt32_ofInt]
theorem J_i2b (q : Nat) (hp : pc + 1 = q) {x : Int} (hd : decode M.2.1 pc = .ok (.i2b, 1)) (k : JG w fz M d n1 n q lv (vI (x.bmod 256) :: st) h K) : JG w fz M d n1 n pc lv (vI x :: st) h K := by
  subst hp
  intro p l e R s m args below meth c H locs ls cells slots Q F hR hr hW hS hl
  refine lv_i2b (v := Int32.ofInt (x.bmod 256)) F.1 F.2.1 hd ?_ (k p l e R s m args below meth c H locs ls cells slots Q F hR hr hW hS hl)
  apply Int32.toInt_inj.mp
  have b1 : -128 ≤ x.bmod 256 := Int.le_bmod (by decide)
  have b2 : x.bmod 256 < 128 := Int.bmod_lt (by decide)
  rw [Int8.toInt_toInt32, Int32.toInt8_ofInt, i32_to ⟨by omega, by omega⟩, Int8.toInt_ofInt]
end ROWS
