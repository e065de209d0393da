abbrev Mt : Type := MethodName × ByteArray × Nat × Option FieldType
/-- a word that the tables have, and that every later state keeps -/
def inW (c : Cond) : Prop := c ∈ lw_tbl ∧ goodWord c = true
def wsOf (M : Mt) : List Cond := .code M.1 M.2.1 M.2.2.1 M.2.2.2 :: lw_tbl.filter goodWord
theorem inW.mem {c : Cond} (h : inW c) (M : Mt) : c ∈ wsOf M := List.mem_cons_of_mem _ (List.mem_filter.mpr ⟨h.1, h.2⟩)
theorem wsOf_good {M M' : Mt} (h : inW (.code M'.1 M'.2.1 M'.2.2.1 M'.2.2.2)) : GoodIn (wsOf M) (wsOf M') := by
  intro c hc
  rcases List.mem_cons.mp hc with rfl | hc
  · exact ⟨h.mem M, good_of_word h.2⟩
  · exact ⟨List.mem_cons_of_mem _ hc, good_of_word (List.mem_filter.mp hc).2⟩
/-- the texts: where they lie, what they are -/
def Strg (w : Wd) (s : State) (H : Heap) : Prop := vk_S nSt lenSt bytSt w.2.2.2.1 w.2.2.2.2.1 (wA w) s H ∧ (∀ q ∈ stLk, vk_R q.1 q.2.1 q.2.2.1 (w.2.2.2.1 q.2.2.2) s) ∧ va_Z "java/lang/String" "COMPACT_STRINGS" "Z" (.int 1) (wA w) s H ∧ va_Z "jdk/internal/util/Preconditions" "SIOOBE_FORMATTER" "Ljava/util/function/BiFunction;" (va_rf w.2.2.2.2.2.2) (wA w) s H
/-- the script -/
def Scr (w : Wd) (s : State) (H : Heap) : Prop := va_X w.2.2.2.2.2.1.1 w.2.2.2.2.2.1.2.1 w.2.2.2.2.2.1.2.2 s H ∧ w.2.2.2.2.2.1.1 < w.1 ∧ w.2.2.2.2.2.1.2.1 ≤ 3072
/-- the links to private members of nest mates -/
def Nsf (s : State) : Prop := ∀ q ∈ nsLk, va_Nw (.methodLinkNest q.1 q.2.1 q.2.2.1 q.2.2.2) s
def Sf (w : Wd) (s : State) (H : Heap) : Prop := va_K w.2.1 vwCl (tysW w) s ∧ Strg w s H ∧ Scr w s H ∧ Nsf s
def PW (w : Wd) (fz : Bool) (n : Nat) (h : Hp) (U : State) : Prop := Wh w fz n h U.heap ∧ w.1 ≤ U.heap.size ∧ Sf w U U.heap
def rmD (d c z : Nat) : Room := { frames := d, cells := c, slots := z, locals := 80 * d }
def rv (rt : Option FieldType) (z : Int) : Option Value := match rt with
  | none => none
  | some .long => some (.long (Int64.ofInt z))
  | some _ => some (.int (Int32.ofInt z))
def rst (rt : Option FieldType) (z : Int) : List Vl := match rt with
  | none => []
  | some .long => [vL z]
  | some _ => [vI z]
theorem rv_rst (w : Wd) (rt : Option FieldType) (z : Int) : (rv rt z).toList = (rst rt z).map (tv w) := by
  unfold rv rst
  split <;> rfl
def rok (rt : Option FieldType) (z : Int) : Prop := match rt with
  | some .int => True
  | some .boolean => z = 0 ∨ z = 1
  | some .byte => -128 ≤ z ∧ z < 128
  | some .char => 0 ≤ z ∧ z < 65536
  | some .long => True
  | none => True
  | _ => False
def QcK (w : Wd) (fz : Bool) (n1 : Nat) (rt : Option FieldType) (K : Int → Hp → Prop) : Array Value → State → Outcome → State → Prop := fun _ st o t =>
  (∃ (z : Int) (h' : Hp), o = .returned (rv rt z) ∧ K z h' ∧ rok rt z ∧ Wh w fz n1 h' t.heap) ∧ va_F (wA w) st t
def CG (w : Wd) (fz : Bool) (M : Mt) (d n0 n1 : Nat) (as : List Vl) (h : Hp) (K : Int → Hp → Prop) : Prop :=
  ∀ l : Launch, Met l M.1 (wsOf M) (rmD d (n1 - n0) (ssz n1 - ssz n0)) (va_Pc (as.map (tv w)) (PW w fz n0 h)) (QcK w fz n1 M.2.2.2 K) (n1 - n0) (ssz n1 - ssz n0) (wA w)
def Fx (w : Wd) (M : Mt) (p : Program) (s : State) (m : MethodId) (args : Array Value) (meth : Method) (c : Code) : Prop :=
  p.tables.exec = Jvm.exec ∧ c.code = M.2.1 ∧ c.maxLocals = M.2.2.1 ∧ meth.sig.returnType = M.2.2.2 ∧ meth.locks = false ∧ s.vm.findClass M.1.cls = some m.cls ∧ (∀ c ∈ wsOf M, c.before args s = true) ∧ Sf w s s.heap ∧ meth.name = M.1.name ∧ w.1 ≤ s.heap.size
def rdec (M : Mt) (pc : Nat) : Prop := match M.2.2.2 with
  | none => decode M.2.1 pc = .ok (.return_, 1)
  | some .long => decode M.2.1 pc = .ok (.lreturn, 1)
  | some _ => decode M.2.1 pc = .ok (.ireturn, 1)
def lvm (w : Wd) (lv : List (Nat × Vl)) : List (Nat × Value) := lv.map (fun q => (q.1, tv w q.2))
/-- what the end of the method is for: from an answer z that K allows, and its store, the goal Q is reached -/
def Rt (w : Wd) (fz : Bool) (n1 : Nat) (M : Mt) (K : Int → Hp → Prop) (p : Program) (l : Launch) (e : Env) (R : Room) (s : State) (m : MethodId) (args : Array Value) (below : List Frame) (meth : Method) (c : Code) (cells slots : Nat) (Q : State → Prop) : Prop :=
  ∀ (z : Int) (h' : Hp) (H' : Heap) (locs' : List Loc) (ls' : Array Slot) (pc' : Nat), K z h' → (M.1.name ≠ "law" → Wh w fz n1 h' H') → va_S (wA w) s.heap H' locs' → rdec M pc' → rok M.2.2.2 z →
    W p l e R s m args below meth c H' locs' cells slots Q (F0 m pc' ls' ((rst M.2.2.2 z).map (tv w)))
def JG (w : Wd) (fz : Bool) (M : Mt) (d n1 n pc : Nat) (lv : List (Nat × Vl)) (st : List Vl) (h : Hp) (K : Int → Hp → Prop) : Prop :=
  ∀ (p : Program) (l : Launch) (e : Env) (R : Room) (s : State) (m : MethodId) (args : Array Value) (below : List Frame) (meth : Method) (c : Code) (H : Heap) (locs : List Loc) (ls : Array Slot) (cells slots : Nat) (Q : State → Prop),
    Fx w M p s m args meth c → (d ≤ R.frames ∧ 80 * d ≤ R.locals ∧ cells + (n1 - n) ≤ R.cells ∧ slots + (ssz n1 - ssz n) ≤ R.slots) → Rt w fz n1 M K p l e R s m args below meth c (cells + (n1 - n)) (slots + (ssz n1 - ssz n)) Q →
    Wh w fz n h H → va_S (wA w) s.heap H locs → lv_has ls M.2.2.1 (lvm w lv) → W p l e R s m args below meth c H locs cells slots Q (F0 m pc ls (st.map (tv w)))
/-- args to locals -/
def lva : Nat → List Vl → List (Nat × Vl)
  | _, [] => []
  | i, .inr (.inl z) :: vs => (i, vL z) :: lva (i + 2) vs
  | i, v :: vs => (i, v) :: lva (i + 1) vs
theorem wad_cat (w : Wd) (o : Int) : (wad w o).category = 1 := by
  unfold wad
  repeat' split
  all_goals first | rfl | (cases w.2.2.2.2.2.2 <;> rfl)
theorem lva_m (w : Wd) (as : List Vl) : ∀ i, lv_args i (as.map (tv w)) = lvm w (lva i as) := by
  induction as with
  | nil => intro i; rfl
  | cons v vs ih =>
    intro i
    rcases v with z | z | o
    · show (i, Value.int _) :: lv_args (if (1 : Nat) = 2 then i + 2 else i + 1) _ = (i, _) :: lvm w (lva (i + 1) vs)
      rw [if_neg (show ¬ (1 : Nat) = 2 by decide), ih]; rfl
    · show (i, Value.long _) :: lv_args (if (2 : Nat) = 2 then i + 2 else i + 1) _ = (i, _) :: lvm w (lva (i + 2) vs)
      rw [if_pos (show (2 : Nat) = 2 from rfl), ih]; rfl
    · show (i, wad w o) :: lv_args (if (wad w o).category = 2 then i + 2 else i + 1) _ = (i, _) :: lvm w (lva (i + 1) vs)
      rw [if_neg (by rw [wad_cat]; decide), ih]; rfl
theorem Wh_setVm {w : Wd} {fz : Bool} {n : Nat} {h : Hp} {H H' : Heap} (e : H' = H) (hw : Wh w fz n h H) : Wh w fz n h H' := by rw [e]; exact hw
theorem Sf.moved {w : Wd} {s U : State} {H : Heap} (hW : s.WarmedH U.vm) (h : Sf w s s.heap) (hk : ∀ a : Nat, a < s.heap.size → ¬ wA w a → H[a]? = s.heap[a]?) (hz : w.1 ≤ s.heap.size) (hU : U.heap = H) : Sf w U U.heap := by
  obtain ⟨h1, ⟨h2, h3, h4, h5⟩, ⟨h6, h7, h8⟩, h9⟩ := h
  rw [hU]
  have hs : w.2.2.2.2.2.1.1 < s.heap.size := Nat.lt_of_lt_of_le h7 hz
  refine ⟨va_K.moved hW.alike h1, ⟨vk_S.kept (vk_S.moved hW.alike h2) hk, fun q hq => vk_R.warm hW (h3 q hq), ?_, ?_⟩, ⟨va_X.moved hW.alike (va_X.kept h6 (hk _ hs (Nat.not_le.mpr h7))), h7, h8⟩, fun q hq => va_Nw.warmM hW (h9 q hq)⟩
  · exact va_Z.kept (va_Z.moved hW.alike h4) hk
  · exact va_Z.kept (va_Z.moved hW.alike h5) hk
theorem Sf.calling {w : Wd} {U : State} {g : JFrame} {mk : MethodId} {a : Array Value} (h : Sf w U U.heap) : Sf w (U.calling g mk a) (U.calling g mk a).heap := by
  obtain ⟨h1, ⟨h2, h3, h4, h5⟩, ⟨h6, h7, h8⟩, h9⟩ := h
  have al : U.vm.Alike (U.calling g mk a).vm := Vm.Alike.refl U.vm
  refine ⟨va_K.moved al h1, ⟨vk_S.moved al h2, fun q hq => vk_R.same rfl (h3 q hq), va_Z.moved al h4, va_Z.moved al h5⟩, ⟨va_X.moved al h6, h7, h8⟩, fun q hq => va_Nw.same rfl rfl (h9 q hq)⟩
theorem PW_blind (w : Wd) (fz : Bool) (n : Nat) (h : Hp) (av : List Value) : FrameBlind (va_Pc av (PW w fz n h)) := fun _ _ _ _ q => ⟨q.1, q.2.1, q.2.2.1, q.2.2.2.calling⟩
theorem Met_ofWF {l : Launch} {y : MethodName} {ws ws' : List Cond} {rm : Room} {Pc : Array Value → State → Prop} {Qc : Array Value → State → Outcome → State → Prop} {mc ms : Nat} {free : Addr → Prop} {cc : ByteArray} {maxL : Nat} {ret : Option FieldType}
    (hy : plainFor y = true) (hw : ws = Cond.code y cc maxL ret :: ws')
    (body : ∀ p e s m args below meth c s₁, BodyLoose p l y (headSpec ws rm) cc maxL ret e s m args below meth c s₁ → c.maxLocals = maxL → Pc args s → W p l e (headSpec ws rm).room s m args below meth c s.heap [] 0 0 (MQ below Qc args s mc ms free) (entryFrame m args maxL)) : Met l y ws rm Pc Qc mc ms free := by
  refine MetFree.of_bodySF (code := cc) (maxLocals := maxL) (ret := ret) hy (fun args s m h hn => ?_) (fun p e s m args below meth c s₁ B hml hP _ => ?_)
  · obtain ⟨meth, c, h1, h2, h3, h4, h5, h6, -, -⟩ := Cond.code_spec hn (atoms_spec (ws := ws) h _ (hw ▸ List.mem_cons_self))
    exact ⟨meth, c, h1, h2, h3, h4, h5, h6⟩
  · obtain ⟨t, a1, o, b1, b2, b3⟩ := body p e s m args below meth c s₁ B hml hP s₁ (by rw [B.state]; rfl) (Stand.of_body B)
    exact ⟨t, o, a1, b1, b2, ⟨b3.1, b3.2⟩⟩
set_option maxHeartbeats 4000000 in
theorem CG_of {w : Wd} {fz : Bool} {M : Mt} {d n0 n1 : Nat} {as : List Vl} {h : Hp} {K : Int → Hp → Prop} (hy : plainFor M.1 = true) (hnl : M.1.name ≠ "law") (hok : match M.2.2.2 with | none => True | some .int => True | some .boolean => True | some .byte => True | some .char => True | some .long => True | _ => False)
    (hlen : (lg_sl (as.map (tv w))).length ≤ M.2.2.1) (k : JG w fz M d n1 n0 0 (lva 0 as) [] h K) : CG w fz M d n0 n1 as h K := by
  intro l
  refine Met_ofWF (cc := M.2.1) (maxL := M.2.2.1) (ret := M.2.2.2) hy rfl ?_
  intro p e s m args below meth c s₁ B hml hv
  obtain ⟨rfl, hWh, hbz, hSf⟩ := hv
  have hr := B.returns
  have hl := lv_entry (as.map (tv w)) (n := M.2.2.1) hlen
  rw [lg_entry_eq]
  generalize ((lg_sl (as.map (tv w))) ++ List.replicate (M.2.2.1 - (lg_sl (as.map (tv w))).length) Slot.unset).toArray = ls at hl ⊢
  rw [lva_m] at hl
  have hF : Fx w M p s m (as.map (tv w)).toArray meth c := ⟨B.exec, B.bytes, hml, hr, B.notSynchronized, findClass_of_methodNamed B.named, atoms_spec (ws := wsOf M) B.pre, hSf, (name_of_methodNamed B.named B.method).1, hbz⟩
  refine k p l e _ s m _ below meth c s.heap [] ls 0 0 _ hF ⟨Nat.le_refl _, Nat.le_refl _, by show 0 + (n1 - n0) ≤ n1 - n0; omega, by show 0 + (ssz n1 - ssz n0) ≤ ssz n1 - ssz n0; omega⟩ ?_ hWh va_S.rf hl
  intro z h' H' locs' ls' pc' hK hW' hS' hdec hz
  have hW' := hW' hnl
  rw [Nat.zero_add, Nat.zero_add]
  have hq : ∀ t : State, t.heap = H' → s.WarmedH t.vm → QcK w fz n1 M.2.2.2 K (as.map (tv w)).toArray s (.returned (rv M.2.2.2 z)) t := fun t ht _ => ⟨⟨z, h', rfl, hK, hz, Wh_setVm ht hW'⟩, hS'.F ht⟩
  revert hdec hz hq hr hok
  unfold rdec rst rv
  obtain ⟨M1, M2, M3, M4⟩ := M
  show _ → _ → _ → _ → _ → _
  dsimp only
  intro hok hr hdec hz hq
  rcases M4 with _ | rt
  · exact W.vret hF.1 hF.2.1 hr hq hS'.2.2 hdec
  · cases rt <;> first
      | exact absurd hok id
      | exact W.iret hF.1 hF.2.1 hr hq hS'.2.2 hdec
      | exact W.lret hF.1 hF.2.1 hr hq hS'.2.2 hdec
      | exact W.zret hF.1 hF.2.1 hr (by rcases hz with rfl | rfl <;> rfl) hq hS'.2.2 hdec
      | exact W.zret hF.1 hF.2.1 hr (nar_b hz) hq hS'.2.2 hdec
      | exact W.zret hF.1 hF.2.1 hr (nar_c hz) hq hS'.2.2 hdec
theorem JG_mono {w : Wd} {fz : Bool} {M : Mt} {d n1 n pc : Nat} {lv : List (Nat × Vl)} {st : List Vl} {h : Hp} {K K2 : Int → Hp → Prop} (hk : ∀ z h', K z h' → K2 z h') (k : JG w fz M d n1 n pc lv st h K) : JG w fz M d n1 n pc lv st h K2 := by
  intro p l e R s m args below meth c H locs ls cells slots Q F hR hr hW hS hl
  exact k p l e R s m args below meth c H locs ls cells slots Q F hR (fun z h' H' locs' ls' pc' q => hr z h' H' locs' ls' pc' (hk z h' q)) hW hS hl
/-- a call's meaning, closed upwards in what is wanted behind it -/
def CGm (w : Wd) (fz : Bool) (M : Mt) (d n0 n1 : Nat) (as : List Vl) (h : Hp) (K : Int → Hp → Prop) : Prop := ∀ K2 : Int → Hp → Prop, (∀ z h', K z h' → K2 z h') → CG w fz M d n0 n1 as h K2
theorem CGm.mono {w : Wd} {fz : Bool} {M : Mt} {d n0 n1 : Nat} {as : List Vl} {h : Hp} {K K2 : Int → Hp → Prop} (k : CGm w fz M d n0 n1 as h K) (hk : ∀ z h', K z h' → K2 z h') : CGm w fz M d n0 n1 as h K2 := fun K3 h3 => k K3 (fun z h' q => h3 z h' (hk z h' q))
theorem CGm_of {w : Wd} {fz : Bool} {M : Mt} {d n0 n1 : Nat} {as : List Vl} {h : Hp} {K : Int → Hp → Prop} (hy : plainFor M.1 = true) (hnl : M.1.name ≠ "law") (hok : match M.2.2.2 with | none => True | some .int => True | some .boolean => True | some .byte => True | some .char => True | some .long => True | _ => False)
    (hlen : (lg_sl (as.map (tv w))).length ≤ M.2.2.1) (k : JG w fz M d n1 n0 0 (lva 0 as) [] h K) : CGm w fz M d n0 n1 as h K := fun _ hk => CG_of hy hnl hok hlen (JG_mono hk k)
