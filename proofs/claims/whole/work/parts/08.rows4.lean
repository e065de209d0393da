/-! returns, calls, making -/
section ROWS4
variable {w : Wd} {fz : Bool} {M : Mt} {d n1 n pc : Nat} {lv : List (Nat × Vl)} {st : List Vl} {h : Hp} {K : Int → Hp → Prop}
theorem J_ret_any {z : Int} (hd : rdec M pc) (hz : rok M.2.2.2 z) (k : K z h) : JG w fz M d n n pc lv (rst M.2.2.2 z) h K := by
  intro p l e R s m args below meth c H locs ls cells slots Q F hR hr hW hS hl
  have := hr z h H locs ls pc k (fun _ => hW) hS hd hz
  rwa [Nat.sub_self, Nat.sub_self, Nat.add_zero, Nat.add_zero] at this
theorem J_iret {z : Int} (ht : M.2.2.2 = some .int) (hd : decode M.2.1 pc = .ok (.ireturn, 1)) (k : K z h) : JG w fz M d n n pc lv [vI z] h K := by
  have := J_ret_any (w := w) (fz := fz) (M := M) (d := d) (n := n) (pc := pc) (lv := lv) (h := h) (K := K) (z := z) (by unfold rdec; rw [ht]; exact hd) (by rw [ht]; trivial) k
  rwa [ht] at this
theorem J_zret {z : Int} (ht : M.2.2.2 = some .boolean) (hz : z = 0 ∨ z = 1) (hd : decode M.2.1 pc = .ok (.ireturn, 1)) (k : K z h) : JG w fz M d n n pc lv [vI z] h K := by
  have := J_ret_any (w := w) (fz := fz) (M := M) (d := d) (n := n) (pc := pc) (lv := lv) (h := h) (K := K) (z := z) (by unfold rdec; rw [ht]; exact hd) (by rw [ht]; exact hz) k
  rwa [ht] at this
theorem J_lret {z : Int} (ht : M.2.2.2 = some .long) (hd : decode M.2.1 pc = .ok (.lreturn, 1)) (k : K z h) : JG w fz M d n n pc lv [vL z] h K := by
  have := J_ret_any (w := w) (fz := fz) (M := M) (d := d) (n := n) (pc := pc) (lv := lv) (h := h) (K := K) (z := z) (by unfold rdec; rw [ht]; exact hd) (by rw [ht]; trivial) k
  rwa [ht] at this
theorem J_vret (ht : M.2.2.2 = none) (hd : decode M.2.1 pc = .ok (.return_, 1)) (k : K 0 h) : JG w fz M d n n pc lv [] h K := by
  have := J_ret_any (w := w) (fz := fz) (M := M) (d := d) (n := n) (pc := pc) (lv := lv) (h := h) (K := K) (z := 0) (by unfold rdec; rw [ht]; exact hd) (by rw [ht]; trivial) k
  rwa [ht] at this
/-- what the tables say of a method: code, its class is initialised, how many arguments -/
def MtOk (M : Mt) (na : Nat) : Prop := inW (.code M.1 M.2.1 M.2.2.1 M.2.2.2) ∧ inW (.initialized M.1.cls) ∧ (M.1.cls ≠ "java/lang/invoke/MethodHandle" ∧ M.1.cls ≠ "java/lang/invoke/VarHandle") ∧ (parseMethodDescriptor M.1.desc).map (fun d => d.parameters.length) = some na ∧ M.2.2.1 ≤ 60
theorem ssz_mono {a b : Nat} (h : a ≤ b) : ssz a ≤ ssz b := by
  unfold ssz
  have : ∀ (l : List Nat) (a b : Nat), a ≤ b → (l.take a).sum ≤ (l.take b).sum := by
    intro l
    induction l with
    | nil => intro a b _; simp
    | cons x xs ih =>
      intro a b hab
      cases a with
      | zero => simp
      | succ a =>
        cases b with
        | zero => omega
        | succ b => simp only [List.take_succ_cons, List.sum_cons]; have := ih a b (by omega); omega
  exact this _ a b h
/-- behind a call -/
theorem J_run {rt : Option FieldType} {n' : Nat} {st0 rest : List Vl} {K' : Int → Hp → Prop} {a : Array Value}
    {p : Program} {l : Launch} {e : Env} {R : Room} {s : State} {m : MethodId} {args : Array Value} {below : List Frame} {meth : Method} {c : Code} {H : Heap} {locs : List Loc} {ls : Array Slot} {cells slots : Nat} {Q : State → Prop}
    (hnn : n ≤ n' ∧ n' ≤ n1)
    (F : Fx w M p s m args meth c) (hR : d ≤ R.frames ∧ 80 * d ≤ R.locals ∧ cells + (n1 - n) ≤ R.cells ∧ slots + (ssz n1 - ssz n) ≤ R.slots) (hr : Rt w fz n1 M K p l e R s m args below meth c (cells + (n1 - n)) (slots + (ssz n1 - ssz n)) Q) (hS : va_S (wA w) s.heap H locs) (hl : lv_has ls M.2.2.1 (lvm w lv))
    (hrun : va_Run p l e R s m args below meth c H locs cells slots (n' - n) (ssz n' - ssz n) (F0 m pc ls (st0.map (tv w))) (rest.map (tv w)) (QcK w fz n' rt K' a) (wA w))
    (kk : ∀ z h', K' z h' → rok rt z → JG w fz M d n1 n' (pc + 3) lv (rst rt z ++ rest) h' K) : W p l e R s m args below meth c H locs cells slots Q (F0 m pc ls (st0.map (tv w))) := by
  intro T hT X
  obtain ⟨v, st₀, t, T', L, h0, X', hL, e1, e2, ⟨⟨z, h', hv, hK, hok, hW'⟩, hz, hk⟩, st1⟩ := hrun T hT X
  have hv : v = rv rt z := by injection hv
  subst hv
  have g1 := ssz_mono hnn.1
  have g2 := ssz_mono hnn.2
  rw [h0] at hz hk
  have hS' : va_S (wA w) s.heap T'.heap (locs ++ L) := ⟨Nat.le_trans hS.1 (by rw [e1]; exact hz), fun q g1 g2 => by rw [e1, hk q (Nat.lt_of_lt_of_le g1 hS.1) g2]; exact hS.2.1 q g1 g2, fun q hq => by
    rcases List.mem_append.mp hq with g | g
    · exact hS.2.2 q g
    · exact hL q g⟩
  have a1 : cells + (n' - n) + (n1 - n') = cells + (n1 - n) := by omega
  have a2 : slots + (ssz n' - ssz n) + (ssz n1 - ssz n') = slots + (ssz n1 - ssz n) := by omega
  obtain ⟨t2, b1, b2⟩ := kk z h' hK hok p l e R s m args below meth c T'.heap (locs ++ L) ls (cells + (n' - n)) (slots + (ssz n' - ssz n)) Q F (by rw [a1, a2]; exact hR) (by rw [a1, a2]; exact hr) (by rw [e1]; exact hW') hS' hl T' rfl X'
  refine ⟨t2, st1 t2 ?_, b2⟩
  rw [List.map_append, ← rv_rst] at b1
  exact b1
theorem wA_base {w : Wd} {s : State} {H : Heap} {locs : List Loc} (hS : va_S (wA w) s.heap H locs) (hb : w.1 ≤ s.heap.size) : w.1 ≤ H.size := Nat.le_trans hb hS.1
theorem PW_at {w : Wd} {fz : Bool} {n : Nat} {h : Hp} {p : Program} {s : State} {m : MethodId} {args : Array Value} {meth : Method} {c : Code} {H : Heap} {locs : List Loc} (F : Fx w M p s m args meth c) (hW : Wh w fz n h H) (hS : va_S (wA w) s.heap H locs) {U : State} (hU : U.heap = H) (hWU : s.WarmedH U.vm) : PW w fz n h U :=
  ⟨by rw [hU]; exact hW, by rw [hU]; exact wA_base hS F.2.2.2.2.2.2.2.2.2, Sf.moved hWU F.2.2.2.2.2.2.2.1 hS.2.1 F.2.2.2.2.2.2.2.2.2 hU⟩
theorem cb_any {M' : Mt} {d' n' na : Nat} {R : Room} {s : State} {args : Array Value} {own : String} {idx : Nat} (hM : MtOk M' na) (hts : ∀ c ∈ wsOf M, c.before args s = true) (hlk : inW (.methodLink own idx M'.1)) (hdd : d' + 1 ≤ d) (hR : d ≤ R.frames ∧ 80 * d ≤ R.locals) : CallB R s args own idx M'.1 M'.2.1 M'.2.2.1 M'.2.2.2 (wsOf M') (rmD d' (n' - n) (ssz n' - ssz n)) (n' - n) (ssz n' - ssz n) na := by
  obtain ⟨h1, h2, h3, h4, h5⟩ := hM
  exact callB_of (Ts := wsOf M) na hts (wsOf_good h1) rfl rfl rfl (hts _ (h2.mem M)) (hts _ (hlk.mem M)) ⟨h3.1, h3.2, h4⟩ ⟨by show d' + 1 ≤ _; omega, by show 8 + (M'.2.2.1 + 11) + 80 * d' ≤ _; omega⟩
theorem cn_any {M' : Mt} {d' n' na : Nat} {R : Room} {s : State} {args : Array Value} {own host : String} {idx : Nat} (hM : MtOk M' na) (hts : ∀ c ∈ wsOf M, c.before args s = true) (hlk : va_Nw (.methodLinkNest own idx M'.1 host) s) (hdd : d' + 1 ≤ d) (hR : d ≤ R.frames ∧ 80 * d ≤ R.locals) : va_CN R s args own idx M'.1 host M'.2.1 M'.2.2.1 M'.2.2.2 (wsOf M') (rmD d' (n' - n) (ssz n' - ssz n)) (n' - n) (ssz n' - ssz n) na := by
  obtain ⟨h1, h2, h3, h4, h5⟩ := hM
  exact va_cnB (Ts := wsOf M) na hts (wsOf_good h1) rfl rfl rfl hlk (hts _ (h2.mem M)) ⟨h3.1, h3.2, h4⟩ ⟨by show d' + 1 ≤ _; omega, by show 8 + (M'.2.2.1 + 11) + 80 * d' ≤ _; omega⟩
def catS : List Vl → Nat
  | [] => 0
  | v :: vs => (if isL v = true then 2 else 1) + catS vs
theorem catS_m (w : Wd) (st : List Vl) : ((st.map (tv w)).map fun v => v.category).sum = catS st := by
  induction st with
  | nil => rfl
  | cons v vs ih =>
    rw [List.map_cons, List.map_cons, List.sum_cons, ih]
    show _ = (if isL v = true then 2 else 1) + catS vs
    have := cat_isL w v
    rcases lv_cat (tv w v) with q | q
    · rw [q] at this ⊢
      have h2 : isL v = false := by rw [← this]; rfl
      rw [h2]; rfl
    · rw [q] at this ⊢
      have h2 : isL v = true := by rw [← this]; rfl
      rw [h2]; rfl
theorem recv_ob {w : Wd} {fz : Bool} {n : Nat} {h : Hp} {s : State} {H : Heap} {o : Int} {ci : Nat} {C : String} {T : u_T} {N : Nat} (hK : va_K w.2.1 vwCl (tysW w) s) (hW : Wh w fz n h H) (ho : Ob ci o) (hn : o.toNat < n) (hc : vwCl[ci]? = some (C, T, N)) : ∃ cell : Cell, H[w.1 + o.toNat]? = some cell ∧ cell.vm.isStatics = false ∧ s.vm.findClass C = some cell.cls := by
  have he := wl_at (w := w) (fz := fz) (h := h) hn
  rw [en_obj ho] at he
  exact va_recv hK hW.2 hc he
/-- the class of a number -/
def isC (ci : Nat) (C : String) : Prop := ∃ (T : u_T) (N : Nat), vwCl[ci]? = some (C, T, N)
theorem J_callV (q : Nat) (hp : pc + 3 = q) {M' : Mt} {d' n' na idx ci : Nat} {o : Int} {as : List Vl} (hM : MtOk M' na) (hin : inW (.instanceMethod M'.1)) (hse : inW (.selects M'.1.cls M'.1 M'.1)) (hlk : inW (.methodLink M.1.cls idx M'.1)) (hci : isC ci M'.1.cls) (ho : Ob ci o) (hn : o.toNat < n) (hna : as.length = na) (hdd : d' + 1 ≤ d) (hnn : n ≤ n' ∧ n' ≤ n1) (hcs : catS st ≤ 8) (hd : decode M.2.1 pc = .ok (.invokevirtual idx, 3))
    {K1 : Int → Hp → Prop} {sr : Int → List Vl} (hsr : ∀ z, rst M'.2.2.2 z ++ st = sr z) (k : CGm w fz M' d' n n' (vR o :: as) h K1) (kk : ∀ z h', K1 z h' → rok M'.2.2.2 z → JG w fz M d n1 n' q lv (sr z) h' K) : JG w fz M d n1 n pc lv (as.reverse ++ vR o :: st) h K := by
  subst hp
  intro p l e R s m args below meth c H locs ls cells slots Q F hR hr hW hS hl
  obtain ⟨T, N, hc⟩ := hci
  have hts := F.2.2.2.2.2.2.1
  have g2 := ssz_mono hnn.2
  refine J_run hnn F hR hr hS hl (va_runV (C := M'.1.cls) (b := w.1 + o.toNat) (As := as.map (tv w)) ⟨F.1, F.2.1, F.2.2.1, F.2.2.2.2.2.1, hts⟩ (k K1 (fun _ _ q => q) l) ⟨cb_any hM hts hlk hdd ⟨hR.1, hR.2.1⟩, hts _ (hin.mem M), hts _ (hse.mem M)⟩ ⟨PW_blind w fz n h _, recv_ob F.2.2.2.2.2.2.2.1.1 hW ho hn hc, fun U hU hWU => ⟨?_, PW_at F hW hS hU hWU⟩⟩ rfl (by rw [List.length_map]; exact hna) hl.1 ?_ ?_ hd ⟨by omega, by omega⟩) (fun z h' q g => by rw [hsr]; exact kk z h' q g)
  · rw [List.map_cons, wad_w w ho.1 (Ob.lt ho)]
  · rw [List.map_append, List.map_cons, wad_w w ho.1 (Ob.lt ho), List.map_reverse]
  · exact lv_room (by rw [catS_m]; exact hcs)
theorem J_callS (q : Nat) (hp : pc + 3 = q) {M' : Mt} {d' n' na idx : Nat} {as : List Vl} (hM : MtOk M' na) (hsta : inW (.static M'.1)) (hlk : inW (.methodLink M.1.cls idx M'.1)) (hna : as.length = na) (hdd : d' + 1 ≤ d) (hnn : n ≤ n' ∧ n' ≤ n1) (hcs : catS st ≤ 8) (hd : decode M.2.1 pc = .ok (.invokestatic idx, 3))
    {K1 : Int → Hp → Prop} {sr : Int → List Vl} (hsr : ∀ z, rst M'.2.2.2 z ++ st = sr z) (k : CGm w fz M' d' n n' as h K1) (kk : ∀ z h', K1 z h' → rok M'.2.2.2 z → JG w fz M d n1 n' q lv (sr z) h' K) : JG w fz M d n1 n pc lv (as.reverse ++ st) h K := by
  subst hp
  intro p l e R s m args below meth c H locs ls cells slots Q F hR hr hW hS hl
  have hts := F.2.2.2.2.2.2.1
  have g2 := ssz_mono hnn.2
  refine J_run hnn F hR hr hS hl (va_runS (As := as.map (tv w)) ⟨F.1, F.2.1, F.2.2.1, F.2.2.2.2.2.1, hts⟩ (k K1 (fun _ _ q => q) l) ⟨cb_any hM hts hlk hdd ⟨hR.1, hR.2.1⟩, hts _ (hsta.mem M)⟩ ⟨PW_blind w fz n h _, fun U hU hWU => ⟨rfl, PW_at F hW hS hU hWU⟩⟩ rfl (by rw [List.length_map]; exact hna) hl.1 ?_ ?_ hd ⟨by omega, by omega⟩) (fun z h' q g => by rw [hsr]; exact kk z h' q g)
  · rw [List.map_append, List.map_reverse]
  · exact lv_room (by rw [catS_m]; exact hcs)
theorem J_callI (q : Nat) (hp : pc + 3 = q) {M' : Mt} {d' n' na idx ci : Nat} {o : Int} {as : List Vl} (hM : MtOk M' na) (hin : inW (.instanceMethod M'.1)) (hnm : M'.1.name = "<init>" ∧ M'.2.2.2 = none) (hlk : inW (.methodLink M.1.cls idx M'.1)) (ho : Ob ci o) (hna : as.length = na) (hdd : d' + 1 ≤ d) (hnn : n ≤ n' ∧ n' ≤ n1) (hcs : catS st ≤ 8) (hd : decode M.2.1 pc = .ok (.invokespecial idx, 3))
    {K1 : Int → Hp → Prop} (k : CGm w fz M' d' n n' (vR o :: as) h K1) (kk : ∀ z h', K1 z h' → JG w fz M d n1 n' q lv st h' K) : JG w fz M d n1 n pc lv (as.reverse ++ vR o :: st) h K := by
  subst hp
  intro p l e R s m args below meth c H locs ls cells slots Q F hR hr hW hS hl
  have hts := F.2.2.2.2.2.2.1
  have g2 := ssz_mono hnn.2
  have hcb := cb_any (n := n) (n' := n') (d' := d') hM hts hlk hdd ⟨hR.1, hR.2.1⟩
  have kl := k K1 (fun _ _ q => q) l
  rw [hnm.2] at hcb kl
  refine J_run (rt := none) hnn F hR hr hS hl (va_runI (b := w.1 + o.toNat) (As := as.map (tv w)) ⟨F.1, F.2.1, F.2.2.1, F.2.2.2.2.2.1, hts⟩ kl ⟨hcb, hnm.1, hts _ (hin.mem M)⟩ ⟨PW_blind w fz n h _, fun U hU hWU => ⟨?_, PW_at F hW hS hU hWU⟩⟩ rfl (by rw [List.length_map]; exact hna) hl.1 ?_ ?_ hd ⟨by omega, by omega⟩) (fun z h' q _ => kk z h' q)
  · rw [List.map_cons, wad_w w ho.1 (Ob.lt ho)]
  · rw [List.map_append, List.map_cons, wad_w w ho.1 (Ob.lt ho), List.map_reverse]
  · exact lv_room (by rw [catS_m]; exact hcs)
theorem J_callVN (q : Nat) (hp : pc + 3 = q) {M' : Mt} {d' n' na idx ci : Nat} {host : String} {o : Int} {as : List Vl} (hM : MtOk M' na) (hin : inW (.instanceMethod M'.1)) (hse : inW (.selects M'.1.cls M'.1 M'.1)) (hlk : (M.1.cls, idx, M'.1, host) ∈ nsLk) (hci : isC ci M'.1.cls) (ho : Ob ci o) (hn : o.toNat < n) (hna : as.length = na) (hdd : d' + 1 ≤ d) (hnn : n ≤ n' ∧ n' ≤ n1) (hcs : catS st ≤ 8) (hd : decode M.2.1 pc = .ok (.invokevirtual idx, 3))
    {K1 : Int → Hp → Prop} {sr : Int → List Vl} (hsr : ∀ z, rst M'.2.2.2 z ++ st = sr z) (k : CGm w fz M' d' n n' (vR o :: as) h K1) (kk : ∀ z h', K1 z h' → rok M'.2.2.2 z → JG w fz M d n1 n' q lv (sr z) h' K) : JG w fz M d n1 n pc lv (as.reverse ++ vR o :: st) h K := by
  subst hp
  intro p l e R s m args below meth c H locs ls cells slots Q F hR hr hW hS hl
  obtain ⟨T, N, hc⟩ := hci
  have hts := F.2.2.2.2.2.2.1
  have g2 := ssz_mono hnn.2
  refine J_run hnn F hR hr hS hl (va_runVN (C := M'.1.cls) (b := w.1 + o.toNat) (As := as.map (tv w)) ⟨F.1, F.2.1, F.2.2.1, F.2.2.2.2.2.1, hts⟩ (k K1 (fun _ _ q => q) l) ⟨cn_any hM hts (F.2.2.2.2.2.2.2.1.2.2.2 _ hlk) hdd ⟨hR.1, hR.2.1⟩, hts _ (hin.mem M), hts _ (hse.mem M)⟩ ⟨PW_blind w fz n h _, recv_ob F.2.2.2.2.2.2.2.1.1 hW ho hn hc, fun U hU hWU => ⟨?_, PW_at F hW hS hU hWU⟩⟩ rfl (by rw [List.length_map]; exact hna) hl.1 ?_ ?_ hd ⟨by omega, by omega⟩) (fun z h' q g => by rw [hsr]; exact kk z h' q g)
  · rw [List.map_cons, wad_w w ho.1 (Ob.lt ho)]
  · rw [List.map_append, List.map_cons, wad_w w ho.1 (Ob.lt ho), List.map_reverse]
  · exact lv_room (by rw [catS_m]; exact hcs)
theorem J_callSN (q : Nat) (hp : pc + 3 = q) {M' : Mt} {d' n' na idx : Nat} {host : String} {as : List Vl} (hM : MtOk M' na) (hsta : inW (.static M'.1)) (hlk : (M.1.cls, idx, M'.1, host) ∈ nsLk) (hna : as.length = na) (hdd : d' + 1 ≤ d) (hnn : n ≤ n' ∧ n' ≤ n1) (hcs : catS st ≤ 8) (hd : decode M.2.1 pc = .ok (.invokestatic idx, 3))
    {K1 : Int → Hp → Prop} {sr : Int → List Vl} (hsr : ∀ z, rst M'.2.2.2 z ++ st = sr z) (k : CGm w fz M' d' n n' as h K1) (kk : ∀ z h', K1 z h' → rok M'.2.2.2 z → JG w fz M d n1 n' q lv (sr z) h' K) : JG w fz M d n1 n pc lv (as.reverse ++ st) h K := by
  subst hp
  intro p l e R s m args below meth c H locs ls cells slots Q F hR hr hW hS hl
  have hts := F.2.2.2.2.2.2.1
  have g2 := ssz_mono hnn.2
  refine J_run hnn F hR hr hS hl (va_runSN (As := as.map (tv w)) ⟨F.1, F.2.1, F.2.2.1, F.2.2.2.2.2.1, hts⟩ (k K1 (fun _ _ q => q) l) ⟨cn_any hM hts (F.2.2.2.2.2.2.2.1.2.2.2 _ hlk) hdd ⟨hR.1, hR.2.1⟩, hts _ (hsta.mem M), trivial⟩ ⟨PW_blind w fz n h _, fun U hU hWU => ⟨rfl, PW_at F hW hS hU hWU⟩⟩ rfl (by rw [List.length_map]; exact hna) hl.1 ?_ ?_ hd ⟨by omega, by omega⟩) (fun z h' q g => by rw [hsr]; exact kk z h' q g)
  · rw [List.map_append, List.map_reverse]
  · exact lv_room (by rw [catS_m]; exact hcs)
theorem J_callIN (q : Nat) (hp : pc + 3 = q) {M' : Mt} {d' n' na idx ci : Nat} {host : String} {o : Int} {as : List Vl} (hM : MtOk M' na) (hin : inW (.instanceMethod M'.1)) (hnm : M'.1.name = "<init>" ∧ M'.2.2.2 = none) (hlk : (M.1.cls, idx, M'.1, host) ∈ nsLk) (ho : Ob ci o) (hna : as.length = na) (hdd : d' + 1 ≤ d) (hnn : n ≤ n' ∧ n' ≤ n1) (hcs : catS st ≤ 8) (hd : decode M.2.1 pc = .ok (.invokespecial idx, 3))
    {K1 : Int → Hp → Prop} (k : CGm w fz M' d' n n' (vR o :: as) h K1) (kk : ∀ z h', K1 z h' → JG w fz M d n1 n' q lv st h' K) : JG w fz M d n1 n pc lv (as.reverse ++ vR o :: st) h K := by
  subst hp
  intro p l e R s m args below meth c H locs ls cells slots Q F hR hr hW hS hl
  have hts := F.2.2.2.2.2.2.1
  have g2 := ssz_mono hnn.2
  have hcb := cn_any (n := n) (n' := n') (d' := d') hM hts (F.2.2.2.2.2.2.2.1.2.2.2 _ hlk) hdd ⟨hR.1, hR.2.1⟩
  have kl := k K1 (fun _ _ q => q) l
  rw [hnm.2] at hcb kl
  refine J_run (rt := none) hnn F hR hr hS hl (va_runIN (b := w.1 + o.toNat) (As := as.map (tv w)) ⟨F.1, F.2.1, F.2.2.1, F.2.2.2.2.2.1, hts⟩ kl ⟨hcb, hnm.1, hts _ (hin.mem M)⟩ ⟨PW_blind w fz n h _, fun U hU hWU => ⟨?_, PW_at F hW hS hU hWU⟩⟩ rfl (by rw [List.length_map]; exact hna) hl.1 ?_ ?_ hd ⟨by omega, by omega⟩) (fun z h' q _ => kk z h' q)
  · rw [List.map_cons, wad_w w ho.1 (Ob.lt ho)]
  · rw [List.map_append, List.map_cons, wad_w w ho.1 (Ob.lt ho), List.map_reverse]
  · exact lv_room (by rw [catS_m]; exact hcs)
theorem J_mmax (q : Nat) (hp : pc + 3 = q) {x y : Int} {idx : Nat} (hlk : inW (.methodLink M.1.cls idx Lib.Math.max.name)) (hsta : inW (.static Lib.Math.max.name)) (hini : inW (.initialized "java/lang/Math")) (hcode : inW (.code Lib.Math.max.name Lib.Math.max.code 2 (some .int))) (hx : inR x) (hy : inR y) (hcs : catS st ≤ 8) (hd0 : 1 ≤ d) (hd : decode M.2.1 pc = .ok (.invokestatic idx, 3)) (k : JG w fz M d n n q lv (vI (max x y) :: st) h K) : JG w fz M d n n pc lv (vI y :: vI x :: st) h K := by
  subst hp
  intro p l e R s m args below meth c H locs ls cells slots Q F hR hr hW hS hl
  have hts := F.2.2.2.2.2.2.1
  refine va_mmax F.1 F.2.1 (by rw [F.2.2.1]; exact hl.1.symm) F.2.2.2.2.2.1 (hts _ (hlk.mem M)) (hts _ (hsta.mem M)) (hts _ (hini.mem M)) (hts _ (hcode.mem M)) (by omega) (by rw [catS_m]; omega) (by omega) (by omega) hd ?_
  have k2 := k p l e R s m args below meth c H locs ls cells slots Q F hR hr hW hS hl
  rw [List.map_cons] at k2
  have e1 : (if Int32.ofInt x < Int32.ofInt y then Int32.ofInt y else Int32.ofInt x) = Int32.ofInt (max x y) := by
    by_cases g : x < y
    · rw [if_pos ((i32_lt hx hy).mpr g), Int.max_eq_right (by omega)]
    · rw [if_neg (fun q => g ((i32_lt hx hy).mp q)), Int.max_eq_left (by omega)]
  rw [e1]
  exact k2
theorem J_mmin (q : Nat) (hp : pc + 3 = q) {x y : Int} {idx : Nat} (hlk : inW (.methodLink M.1.cls idx Lib.Math.min.name)) (hsta : inW (.static Lib.Math.min.name)) (hini : inW (.initialized "java/lang/Math")) (hcode : inW (.code Lib.Math.min.name Lib.Math.min.code 2 (some .int))) (hx : inR x) (hy : inR y) (hcs : catS st ≤ 8) (hd0 : 1 ≤ d) (hd : decode M.2.1 pc = .ok (.invokestatic idx, 3)) (k : JG w fz M d n n q lv (vI (min x y) :: st) h K) : JG w fz M d n n pc lv (vI y :: vI x :: st) h K := by
  subst hp
  intro p l e R s m args below meth c H locs ls cells slots Q F hR hr hW hS hl
  have hts := F.2.2.2.2.2.2.1
  refine va_mmin F.1 F.2.1 (by rw [F.2.2.1]; exact hl.1.symm) F.2.2.2.2.2.1 (hts _ (hlk.mem M)) (hts _ (hsta.mem M)) (hts _ (hini.mem M)) (hts _ (hcode.mem M)) (by omega) (by rw [catS_m]; omega) (by omega) (by omega) hd ?_
  have k2 := k p l e R s m args below meth c H locs ls cells slots Q F hR hr hW hS hl
  rw [List.map_cons] at k2
  have e1 : (if Int32.ofInt y < Int32.ofInt x then Int32.ofInt y else Int32.ofInt x) = Int32.ofInt (min x y) := by
    by_cases g : y < x
    · rw [if_pos ((i32_lt hy hx).mpr g), Int.min_eq_right (by omega)]
    · rw [if_neg (fun q => g ((i32_lt hy hx).mp q)), Int.min_eq_left (by omega)]
  rw [e1]
  exact k2
def ixorI (x y : Int) : Int := (Int32.ofInt x ^^^ Int32.ofInt y).toInt
theorem ixorI_in (x y : Int) : inR (ixorI x y) := ⟨Int32.minValue_le_toInt _, Int32.toInt_lt _⟩
theorem J_ixor (q : Nat) (hp : pc + 1 = q) {x y : Int} (hd : decode M.2.1 pc = .ok (.ixor, 1)) (k : JG w fz M d n1 n q lv (vI (ixorI x y) :: st) h K) : JG w fz M d n1 n pc lv (vI y :: vI x :: st) h K := by
  subst hp
  intro p l e R s m args below meth c H locs ls cells slots Q F hR hr hW hS hl
  refine lv_ixor F.1 F.2.1 hd ?_
  have k2 := k p l e R s m args below meth c H locs ls cells slots Q F hR hr hW hS hl
  rw [show List.map (tv w) (vI (ixorI x y) :: st) = .int (Int32.ofInt (ixorI x y)) :: List.map (tv w) st from rfl, ixorI, Int32.ofInt_toInt] at k2
  exact k2
theorem J_objInit (q : Nat) (hp : pc + 3 = q) {o : Int} {idx : Nat} (hlk : inW (.methodLink M.1.cls idx objectInit)) (hin : inW (.instanceMethod objectInit)) (hco : inW (.code objectInit ⟨#[0xb1]⟩ 1 none)) (ho : Ob 0 o ∨ 0 ≤ o ∧ o.toNat < NT) (hst : isLs st = 0) (hd0 : 1 ≤ d) (hd : decode M.2.1 pc = .ok (.invokespecial idx, 3)) (k : JG w fz M d n1 n q lv st h K) : JG w fz M d n1 n pc lv (vR o :: st) h K := by
  subst hp
  intro p l e R s m args below meth c H locs ls cells slots Q F hR hr hW hS hl
  have hts := F.2.2.2.2.2.2.1
  have h0 : 0 ≤ o ∧ o.toNat < NT := by
    rcases ho with ho | ho
    · exact ⟨ho.1, Ob.lt ho⟩
    · exact ho
  rw [List.map_cons, wad_w w h0.1 h0.2]
  have k2 := k p l e R s m args below meth c H locs ls cells slots Q F hR hr hW hS hl
  exact W.objInit F.1 F.2.1 F.2.2.2.2.2.1 (hts _ (hlk.mem M)) (hts _ (hin.mem M)) (hts _ (hco.mem M)) rfl (by rw [F.2.2.1]; exact hl.1) rfl hd (by omega) (by rw [isLs_sum w st hst]; show 2 * 0 + 0 + 12 ≤ _; omega) k2
theorem push_W {w : Wd} {n : Nat} {h : Hp} {H H1 : Heap} (hW : Wh w false n h H) (h' : Hp) (hh : ∀ k : Nat, k < n → en w false h' k = en w false h k) (e1 : va_at w.2.1 vwCl (w.1 + n, en w false h' n) H1) (e2 : H1.size = H.size + 1) (e3 : ∀ q, q < H.size → H1[q]? = H[q]?) : Wh w false (n + 1) h' H1 := by
  obtain ⟨hz, hP⟩ := hW
  have hz : H.size = w.1 + n := by
    rcases hz with q | q
    · cases q
    · exact q
  refine ⟨Or.inr (by omega), ?_⟩
  intro k q hk
  have hkn : k < n + 1 := by have := (List.getElem?_eq_some_iff.mp hk).1; rwa [wl_len] at this
  rw [wl_at hkn] at hk
  cases hk
  by_cases hlt : k < n
  · rw [hh k hlt]
    have g := hP k _ (wl_at hlt)
    exact g.kept (e3 _ (by show w.1 + k < H.size; omega))
  · rw [show k = n by omega]
    exact e1
def hz0 (h : Hp) (o : Int) : Hp := fun o' i => if o' = o then 0 else h o' i
theorem hz0_ne {w : Wd} {h : Hp} {n k : Nat} (hk : k < n) : en w false (hz0 h n) k = en w false h k := by
  have hne : ((k : Nat) : Int) ≠ n := by omega
  have e : ∀ j, hz0 h n k j = h k j := fun j => by unfold hz0; rw [if_neg hne]
  unfold en
  cases hk : tt[k]? with
  | none => rfl
  | some x =>
    cases x with
    | inl ci => simp only [eobj, fvl, e]
    | inr q => obtain ⟨kd, n⟩ := q; simp only [earr, e]
theorem J_newarr (q : Nat) (hp : pc + 2 = q) {z : Int} {len kd : Nat} {ty : FieldType} {at' : ArrayType} (hat : newarray.typeOf at' = kty kd) (hkd : kd < 4) (hword : inW (.arrayClass (kty kd))) (hz : z = len) (ho : Ar kd len n) (hn1 : n < n1) (hss : ssz (n + 1) = ssz n + len) (hd : decode M.2.1 pc = .ok (.newarray at', 2)) (k : JG w false M d n1 (n + 1) q lv (vR n :: st) (hz0 h n) K) : JG w false M d n1 n pc lv (vI z :: st) h K := by
  subst hp
  intro p l e R s m args below meth c H locs ls cells slots Q F hR hr hW hS hl
  have hts := F.2.2.2.2.2.2.1
  have hsm := Ar.small ho
  subst hz
  have hsz : H.size = w.1 + n := by
    rcases hW.1 with q | q
    · cases q
    · exact q
  have g1 := ssz_mono (show n + 1 ≤ n1 by omega)
  have hb : len * componentBytes (newarray.typeOf at') ≤ 536870912 := by
    have : componentBytes (newarray.typeOf at') ≤ 8 := by cases at' <;> decide
    exact Nat.le_trans (Nat.mul_le_mul_left _ this) (by omega)
  have z0 : inR 0 := ⟨by decide, by decide⟩
  have hlr : inR (len : Int) := ⟨by omega, by omega⟩
  have ec : (Int32.ofInt (len : Int)).toNatClampNeg = len := by rw [clamp_i32 (by omega) (by omega)]; omega
  refine va_newaK F.1 F.2.1 (atype := at') (by rw [hat]; exact hts _ (hword.mem M)) rfl hd rfl (fun q => absurd ((i32_lt hlr z0).mp q) (by omega)) ec hb (by omega) (by omega) hsz fun H1 cA e1 e2 e3 e4 e5 => ?_
  have a1 : cells + 1 + (n1 - (n + 1)) = cells + (n1 - n) := by omega
  have a2 : slots + len + (ssz n1 - ssz (n + 1)) = slots + (ssz n1 - ssz n) := by omega
  have hcA : cA = w.2.2.1 kd := by
    have hK := (F.2.2.2.2.2.2.2.1.1).2
    rw [hat] at e5
    rcases (show kd = 0 ∨ kd = 1 ∨ kd = 2 ∨ kd = 3 by omega) with rfl | rfl | rfl | rfl
    · have := (hK 0 (w.2.2.1 0, .int) rfl).2; exact Option.some.inj (e5.symm.trans this)
    · have := (hK 1 (w.2.2.1 1, .long) rfl).2; exact Option.some.inj (e5.symm.trans this)
    · have := (hK 2 (w.2.2.1 2, .byte) rfl).2; exact Option.some.inj (e5.symm.trans this)
    · have := (hK 3 (w.2.2.1 3, .char) rfl).2; exact Option.some.inj (e5.symm.trans this)
  have k2 := k p l e R s m args below meth c H1 locs ls (cells + 1) (slots + len) Q F (by rw [a1, a2]; exact hR) (by rw [a1, a2]; exact hr) (push_W hW (hz0 h n) (fun q hq => hz0_ne hq) ?_ (by rw [hsz]; exact e2) (fun q hq => e3 q (by omega))) ⟨Nat.le_trans hS.1 (by omega), fun q g1 g2 => by rw [e3 q (by have := hS.1; omega)]; exact hS.2.1 q g1 g2, hS.2.2⟩ hl
  · rw [List.map_cons, wad_w w (by omega) (Ar.lt ho)] at k2
    rw [show ((n : Int)).toNat = n by omega] at k2
    exact k2
  · have en1 := en_arr (w := w) (fz := false) (h := hz0 h n) ho
    rw [show ((n : Int)).toNat = n by omega] at en1
    rw [en1]
    have ez : ∀ j : Nat, hz0 h n n j = 0 := fun j => by unfold hz0; rw [if_pos rfl]
    have e9 : H1[w.1 + n]? = some (arrV (w.2.2.1 kd) len (fun _ => defaultValue (newarray.typeOf at'))) := by rw [← hcA]; exact e1
    rw [hat] at e9
    rcases (show kd = 0 ∨ kd = 1 ∨ kd = 2 ∨ kd = 3 by omega) with rfl | rfl | rfl | rfl
    · rw [earr_i]; show H1[w.1 + n]? = some (vp_cell _ _); rw [vp_cell_i, e9]; simp only [ez]; rfl
    · rw [earr_l]; show H1[w.1 + n]? = some (vp_cell _ _); rw [vp_cell_l, e9]; simp only [ez]; rfl
    · rw [earr_b]; show H1[w.1 + n]? = some (vp_cell _ _); rw [vp_cell_i, e9]; simp only [ez]; rfl
    · rw [earr_c]; show H1[w.1 + n]? = some (vp_cell _ _); rw [vp_cell_i, e9]; simp only [ez]; rfl
def dflt (ci : Nat) (i : Int) : Int := if fk ci i.toNat = 0 ∨ fk ci i.toNat = 1 then 0 else -1
def hzo (h : Hp) (o : Int) (ci : Nat) : Hp := fun o' i => if o' = o then dflt ci i else h o' i
theorem hzo_ne {w : Wd} {h : Hp} {n k ci : Nat} (hk : k < n) : en w false (hzo h n ci) k = en w false h k := by
  have hne : ((k : Nat) : Int) ≠ n := by omega
  have e : ∀ j, hzo h n ci k j = h k j := fun j => by unfold hzo; rw [if_neg hne]
  unfold en
  cases hk : tt[k]? with
  | none => rfl
  | some x =>
    cases x with
    | inl ci => simp only [eobj, fvl, e]
    | inr q => obtain ⟨kd, n⟩ := q; simp only [earr, e]
theorem J_new (q : Nat) (hp : pc + 3 = q) {idx ci N : Nat} {C : String} {T : u_T} {ty0 : Nat → FieldType} (hC : CLS ci C T N ty0) (hdf : ∀ j, j < N → defaultValue (ty0 j) = (if fk ci j = 0 then .int 0 else if fk ci j = 1 then .long 0 else .null)) (hcl : inW (.classLink M.1.cls idx C)) (hinst : inW (.instantiable C N)) (hini : inW (.initialized C)) (ho : Ob ci n) (hn1 : n < n1) (hss : ssz (n + 1) = ssz n + N) (hd : decode M.2.1 pc = .ok (.new idx, 3)) (k : JG w false M d n1 (n + 1) q lv (vR n :: st) (hzo h n ci) K) : JG w false M d n1 n pc lv st h K := by
  subst hp
  intro p l e R s m args below meth c H locs ls cells slots Q F hR hr hW hS hl
  have hts := F.2.2.2.2.2.2.1
  obtain ⟨hc, hnf, hin, hty, hnm⟩ := hC
  have hKn := F.2.2.2.2.2.2.2.1.1.1 ci _ hc
  have hsz : H.size = w.1 + n := by
    rcases hW.1 with q | q
    · cases q
    · exact q
  have g1 := ssz_mono (show n + 1 ≤ n1 by omega)
  refine W.newcK F.1 F.2.1 F.2.2.2.2.2.1 (hts _ (hcl.mem M)) (hts _ (hinst.mem M)) (hts _ (hini.mem M)) rfl hd (by omega) (by omega) hKn.2.1 hsz fun H1 kC hkC e1 e2 e3 => ?_
  have a1 : cells + 1 + (n1 - (n + 1)) = cells + (n1 - n) := by omega
  have a2 : slots + N + (ssz n1 - ssz (n + 1)) = slots + (ssz n1 - ssz n) := by omega
  have k2 := k p l e R s m args below meth c H1 locs ls (cells + 1) (slots + N) Q F (by rw [a1, a2]; exact hR) (by rw [a1, a2]; exact hr) (push_W hW (hzo h n ci) (fun q hq => hzo_ne hq) ?_ (by rw [hsz]; exact e2) (fun q hq => e3 q (by omega))) ⟨Nat.le_trans hS.1 (by omega), fun q g1 g2 => by rw [e3 q (by have := hS.1; omega)]; exact hS.2.1 q g1 g2, hS.2.2⟩ hl
  · rw [List.map_cons, wad_w w (by omega) (Ob.lt ho)] at k2
    rw [show ((n : Int)).toNat = n by omega] at k2
    exact k2
  · have en1 := en_obj (w := w) (fz := false) (h := hzo h n ci) ho
    rw [show ((n : Int)).toNat = n by omega] at en1
    rw [en1]
    have ez : ∀ j : Nat, hzo h n ci n j = dflt ci j := fun j => by unfold hzo; rw [if_pos rfl]
    refine ⟨_, hc, (u_born ty0 hts (fun c hc => (hin c hc).mem M) hKn hkC e1 hty).to fun j hj => ?_⟩
    rw [hdf j hj]
    have hat := eobj_at (w := w) (fz := false) (h := hzo h n ci) (o := n) (ci := ci) (j := j) (by rw [hnf]; exact hj)
    unfold vp_V
    rw [List.getD_eq_getElem?_getD, hat, Option.getD_some]
    unfold fvl
    rw [ez, dflt, show ((j : Int)).toNat = j by omega]
    by_cases g : fk ci j = 0
    · rw [if_pos g, if_pos g, if_pos (Or.inl g)]; rfl
    · rw [if_neg g, if_neg g]
      by_cases g2 : fk ci j = 1
      · rw [if_pos g2, if_pos g2, if_pos (Or.inr g2)]; rfl
      · have g4 : ¬ (fk ci j = 0 ∨ fk ci j = 1) := fun q => Or.elim q g g2
        rw [if_neg g2, if_neg g2]
        simp only [if_neg g4]
        split <;> rfl
/-- the constructors have ended: what is final is so from here on -/
def Froz (h : Hp) : Prop := (∀ (k ci j : Nat), tt[k]? = some (.inl ci) → j < nfs.getD ci 0 → 3 ≤ fk ci j → h k j = (k : Int) + (fk ci j - 1000)) ∧ ∀ (k len j : Nat), tt[k]? = some (.inr (3, len)) → j < len → h k j = cw k j
theorem J_freeze (hlaw : M.1.name = "law") (hf : Froz h) (k : JG w true M d NT NT pc lv st h K) : JG w false M d NT NT pc lv st h K := by
  intro p l e R s m args below meth c H locs ls cells slots Q F hR hr hW hS hl
  refine k p l e R s m args below meth c H locs ls cells slots Q F hR (fun z h' H' locs' ls' pc' hK _ hS' hdec hz => hr z h' H' locs' ls' pc' hK (fun g => absurd hlaw g) hS' hdec hz) ⟨Or.inl rfl, ?_⟩ hS hl
  intro i q hi
  have hin : i < NT := by have := (List.getElem?_eq_some_iff.mp hi).1; rwa [wl_len] at this
  have g := hW.2 i _ (wl_at hin)
  rw [wl_at hin] at hi
  cases hi
  unfold en at g ⊢
  cases ht : tt[i]? with
  | none => rw [ht] at g; exact g
  | some x =>
    rw [ht] at g
    cases x with
    | inl ci =>
      obtain ⟨r, hc, hob⟩ := g
      refine ⟨r, hc, hob.to fun j hj => ?_⟩
      have hnf : nfs.getD ci 0 = r.2.2 := by
        rw [← nfs_ok, List.getD_eq_getElem?_getD, List.getElem?_map, hc]
        rfl
      have hj' : j < nfs.getD ci 0 := by rw [hnf]; exact hj
      unfold vp_V
      show (List.map _ _).getD j Value.null = (List.map _ _).getD j Value.null
      have ea := eobj_at (w := w) (fz := false) (h := h) (o := i) hj'
      have eb := eobj_at (w := w) (fz := true) (h := h) (o := i) hj'
      have gd : ∀ (L : List Value) (v : Value), L[j]? = some v → L.getD j Value.null = v := fun L v q => by rw [List.getD_eq_getElem?_getD, q]; rfl
      rw [gd _ _ ea, gd _ _ eb]
      refine congrArg (tv w) ?_
      unfold fvl
      by_cases g0 : fk ci j = 0
      · rw [if_pos g0, if_pos g0]
      · by_cases g1 : fk ci j = 1
        · rw [if_neg g0, if_neg g0, if_pos g1, if_pos g1]
        · by_cases g2 : fk ci j = 2
          · rw [if_neg g0, if_neg g0, if_neg g1, if_neg g1, if_pos g2, if_pos g2]
          · rw [if_neg g0, if_neg g0, if_neg g1, if_neg g1, if_neg g2, if_neg g2, if_neg (by decide), if_pos rfl]
            have h3 : 3 ≤ fk ci j := fk_ge ci j g0 g1 g2
            rw [hf.1 i ci j ht hj' h3]
    | inr q =>
      obtain ⟨kd, len⟩ := q
      have g : va_at w.2.1 vwCl (w.1 + i, earr w false h i kd len) H := g
      show va_at w.2.1 vwCl (w.1 + i, earr w true h i kd len) H
      by_cases h3 : kd = 3
      · subst h3
        rw [earr_c] at g
        rw [earr_C]
        show H[w.1 + i]? = some (vp_cell _ _)
        have g : H[w.1 + i]? = some (vp_cell _ _) := g
        rw [g, vp_cell_i, vp_cell_i]
        refine congrArg some ?_
        unfold arrV
        congr 2
        funext j
        show Value.int (Int32.ofInt (h i j)) = Value.int (Int32.ofInt (cw i j))
        rw [hf.2 i len j ht (by have := j.2; simpa using this)]
      · unfold earr at g ⊢
        have e3 : ∀ b : Bool, ¬ (kd = 3 ∧ b = true) := fun b q => h3 q.1
        rw [if_neg (e3 false)] at g
        rw [if_neg (e3 true)]
        exact g
end ROWS4
