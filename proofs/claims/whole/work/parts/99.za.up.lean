/-! the constructors: a store as what was put into it, the newest first -/
abbrev Up : Type := Nat × Int × Int × Int
def ap1 (u : Up) (h : Hp) : Hp := match u with
  | (0, o, i, v) => hu h o i v
  | (1, o, _, _) => hz0 h o
  | (_, o, i, _) => hzo h o i.toNat
def ap : List Up → Hp → Hp
  | [], h => h
  | u :: us, h => ap1 u (ap us h)
theorem ap_app (A B : List Up) (h : Hp) : ap (A ++ B) h = ap A (ap B h) := by
  induction A with
  | nil => rfl
  | cons u us ih =>
    show ap1 u (ap (us ++ B) h) = ap1 u (ap us (ap B h))
    rw [ih]
def lk : List Up → Int → Int → Option Int
  | [], _, _ => none
  | (t, o', i', v) :: us, o, i => if o = o' then (if t = 0 then (if i = i' then some v else lk us o i) else if t = 1 then some 0 else some (dflt i'.toNat i)) else lk us o i
theorem lk_ap (h : Hp) (o i : Int) : ∀ U : List Up, ap U h o i = (lk U o i).getD (h o i) := by
  intro U
  induction U with
  | nil => rfl
  | cons u us ih =>
    obtain ⟨t, o', i', v⟩ := u
    unfold lk
    match t with
    | 0 =>
      show hu (ap us h) o' i' v o i = _
      unfold hu
      by_cases c : o = o'
      · rw [if_pos c, if_pos rfl]
        by_cases d : i = i'
        · rw [if_pos ⟨c, d⟩, if_pos d]; rfl
        · rw [if_neg (fun x => d x.2), if_neg d]; exact ih
      · rw [if_neg (fun x => c x.1), if_neg c]; exact ih
    | 1 =>
      show hz0 (ap us h) o' o i = _
      unfold hz0
      by_cases c : o = o'
      · rw [if_pos c, if_pos c, if_neg (by decide), if_pos rfl]; rfl
      · rw [if_neg c, if_neg c]; exact ih
    | n + 2 =>
      show hzo (ap us h) o' i'.toNat o i = _
      unfold hzo
      by_cases c : o = o'
      · rw [if_pos c, if_pos c, if_neg (by omega), if_neg (by omega)]; rfl
      · rw [if_neg c, if_neg c]; exact ih
theorem ap_some {U : List Up} {h : Hp} {o i z : Int} (e : lk U o i = some z) : ap U h o i = z := by rw [lk_ap, e]; rfl
theorem ap_none {U : List Up} {h : Hp} {o i z : Int} (e : lk U o i = none) (q : h o i = z) : ap U h o i = z := by rw [lk_ap, e]; exact q
/-- the row was made and never put into -/
def rz : List Up → Int → Bool
  | [], _ => false
  | (t, o', _, _) :: us, o => if o = o' then t == 1 else rz us o
theorem ap_row {h : Hp} {o : Int} (i : Int) : ∀ {U : List Up}, rz U o = true → ap U h o i = 0 := by
  intro U
  induction U with
  | nil => intro e; cases e
  | cons u us ih =>
    obtain ⟨t, o', i', v⟩ := u
    intro e
    rw [lk_ap]
    unfold rz at e
    unfold lk
    by_cases c : o = o'
    · rw [if_pos c] at e ⊢
      have : t = 1 := by simpa using e
      subst this
      rfl
    · rw [if_neg c] at e ⊢
      rw [← lk_ap]
      exact ih e
section L6A
variable {w : Wd} {M : Mt} {d n1 n pc : Nat} {lv : List (Nat × Vl)} {st : List Vl} {h : Hp} {K : Int → Hp → Prop} {U : List Up}
theorem A_new (q : Nat) (hp : pc + 3 = q) {idx ci N n2 : Nat} {ov : Int} {C : String} {T : u_T} {ty0 : Nat → FieldType} (cc : Int) (hn2 : n + 1 = n2) (hov : (n : Int) = ov) (hcc : cc.toNat = ci) (hC : CLS ci C T N ty0) (hdf : ∀ j, j < N → defaultValue (ty0 j) = (if fk ci j = 0 then .int 0 else if fk ci j = 1 then .long 0 else .null)) (hcl : inW (.classLink M.1.cls idx C)) (hinst : inW (.instantiable C N)) (hini : inW (.initialized C)) (ho : Ob ci ov) (hn1 : n < n1) (hss : ssz n2 = ssz n + N) (hd : decode M.2.1 pc = .ok (.new idx, 3)) (k : JG w false M d n1 n2 q lv (vR ov :: st) (ap ((2, ov, cc, 0) :: U) h) K) : JG w false M d n1 n pc lv st (ap U h) K := by
  subst hn2
  subst hov
  subst hcc
  exact J_new q hp hC hdf hcl hinst hini ho hn1 hss hd k
theorem A_newarr (q : Nat) (hp : pc + 2 = q) {z ov : Int} {len kd n2 : Nat} {at' : ArrayType} (hn2 : n + 1 = n2) (hov : (n : Int) = ov) (hat : newarray.typeOf at' = kty kd) (hkd : kd < 4) (hword : inW (.arrayClass (kty kd))) (hz : z = len) (ho : Ar kd len ov) (hn1 : n < n1) (hss : ssz n2 = ssz n + len) (hd : decode M.2.1 pc = .ok (.newarray at', 2)) (k : JG w false M d n1 n2 q lv (vR ov :: st) (ap ((1, ov, 0, 0) :: U) h) K) : JG w false M d n1 n pc lv (vI z :: st) (ap U h) K := by
  subst hn2
  subst hov
  exact J_newarr (ty := kty kd) q hp hat hkd hword hz ho hn1 hss hd k
theorem A_putI (q : Nat) (hp : pc + 3 = q) {o z jj : Int} {idx ci j : Nat} (hL : FL M.1.cls idx ci j false .int) (hjj : (j : Int) = jj) (hk : fk ci j = 0) (ho : Ob ci o) (hn : o.toNat < n) (hd : decode M.2.1 pc = .ok (.putfield idx, 3)) (k : JG w false M d n1 n q lv st (ap ((0, o, jj, z) :: U) h) K) : JG w false M d n1 n pc lv (vI z :: vR o :: st) (ap U h) K := J_putI q hp hL hjj hk ho hn hd (fun h1 e => by subst e; exact k)
theorem A_putL (q : Nat) (hp : pc + 3 = q) {o z jj : Int} {idx ci j : Nat} (hL : FL M.1.cls idx ci j false .long) (hjj : (j : Int) = jj) (hk : fk ci j = 1) (ho : Ob ci o) (hn : o.toNat < n) (hd : decode M.2.1 pc = .ok (.putfield idx, 3)) (k : JG w false M d n1 n q lv st (ap ((0, o, jj, z) :: U) h) K) : JG w false M d n1 n pc lv (vL z :: vR o :: st) (ap U h) K := J_putL q hp hL hjj hk ho hn hd (fun h1 e => by subst e; exact k)
theorem A_putR (q : Nat) (hp : pc + 3 = q) {o z jj : Int} {idx ci j : Nat} {cn : String} (hL : FL M.1.cls idx ci j false (.object cn)) (hjj : (j : Int) = jj) (hk : fk ci j = 2) (hz : 0 ≤ z ∧ z < 5000) (ho : Ob ci o) (hn : o.toNat < n) (hd : decode M.2.1 pc = .ok (.putfield idx, 3)) (k : JG w false M d n1 n q lv st (ap ((0, o, jj, z) :: U) h) K) : JG w false M d n1 n pc lv (vR z :: vR o :: st) (ap U h) K := J_putR q hp hL hjj hk hz ho hn hd (fun h1 e => by subst e; exact k)
theorem A_putFR (q : Nat) (hp : pc + 3 = q) {o z jj dd : Int} {idx ci j : Nat} {ty : FieldType} (hty : (∃ cn, ty = .object cn) ∨ ∃ t, ty = .array t) (hL : FL M.1.cls idx ci j true ty) (hcl : isC ci M.1.cls ∧ M.1.name = "<init>") (hjj : (j : Int) = jj) (hk : fk ci j = dd) (hdd : 3 ≤ dd) (hz : 0 ≤ z ∧ z < 5000) (ho : Ob ci o) (hn : o.toNat < n) (hd : decode M.2.1 pc = .ok (.putfield idx, 3)) (k : JG w false M d n1 n q lv st (ap ((0, o, jj, z) :: U) h) K) : JG w false M d n1 n pc lv (vR z :: vR o :: st) (ap U h) K := J_putFR q hp hty hL hcl hjj hk hdd hz ho hn hd (fun h1 e => by subst e; exact k)
theorem A_iast (q : Nat) (hp : pc + 1 = q) {o i z : Int} {len : Nat} (ho : Ar 0 len o) (hn : o.toNat < n) (hi : 0 ≤ i ∧ i < len) (hd : decode M.2.1 pc = .ok (.iastore, 1)) (k : JG w false M d n1 n q lv st (ap ((0, o, i, z) :: U) h) K) : JG w false M d n1 n pc lv (vI z :: vI i :: vR o :: st) (ap U h) K := J_iast q hp ho hn hi trivial hd k
theorem A_cast (q : Nat) (hp : pc + 1 = q) {o i z : Int} {len : Nat} (ho : Ar 3 len o) (hn : o.toNat < n) (hi : 0 ≤ i ∧ i < len) (hz : 0 ≤ z ∧ z < 65536) (hd : decode M.2.1 pc = .ok (.castore, 1)) (k : JG w false M d n1 n q lv st (ap ((0, o, i, z) :: U) h) K) : JG w false M d n1 n pc lv (vI z :: vI i :: vR o :: st) (ap U h) K := J_cast q hp ho hn hi hz hd k
theorem A_callI (q : Nat) (hp : pc + 3 = q) {M' : Mt} {d' n' na idx ci : Nat} {o : Int} {as : List Vl} (UC : List Up) (hM : MtOk M' na) (hin : inW (.instanceMethod M'.1)) (hnm : M'.1.name = "<init>" ∧ M'.2.2.2 = none) (hlk : inW (.methodLink M.1.cls idx M'.1)) (ho : Ob ci o) (hna : as.length = na) (hdd : d' + 1 ≤ d) (hnn : n ≤ n' ∧ n' ≤ n1) (hcs : catS st ≤ 8) (hd : decode M.2.1 pc = .ok (.invokespecial idx, 3))
    (c : ∀ K1 : Int → Hp → Prop, K1 0 (ap UC (ap U h)) → CGm w false M' d' n n' (vR o :: as) (ap U h) K1) (k : JG w false M d n1 n' q lv st (ap (UC ++ U) h) K) : JG w false M d n1 n pc lv (as.reverse ++ vR o :: st) (ap U h) K :=
  J_callI q hp hM hin hnm hlk ho hna hdd hnn hcs hd (K1 := fun _ h' => h' = ap UC (ap U h)) (c _ rfl) (fun z h' e => by rw [e, ← ap_app]; exact k)
theorem A_callIN (q : Nat) (hp : pc + 3 = q) {M' : Mt} {d' n' na idx ci : Nat} {host : String} {o : Int} {as : List Vl} (UC : List Up) (hM : MtOk M' na) (hin : inW (.instanceMethod M'.1)) (hnm : M'.1.name = "<init>" ∧ M'.2.2.2 = none) (hlk : (M.1.cls, idx, M'.1, host) ∈ nsLk) (ho : Ob ci o) (hna : as.length = na) (hdd : d' + 1 ≤ d) (hnn : n ≤ n' ∧ n' ≤ n1) (hcs : catS st ≤ 8) (hd : decode M.2.1 pc = .ok (.invokespecial idx, 3))
    (c : ∀ K1 : Int → Hp → Prop, K1 0 (ap UC (ap U h)) → CGm w false M' d' n n' (vR o :: as) (ap U h) K1) (k : JG w false M d n1 n' q lv st (ap (UC ++ U) h) K) : JG w false M d n1 n pc lv (as.reverse ++ vR o :: st) (ap U h) K :=
  J_callIN q hp hM hin hnm hlk ho hna hdd hnn hcs hd (K1 := fun _ h' => h' = ap UC (ap U h)) (c _ rfl) (fun z h' e => by rw [e, ← ap_app]; exact k)
theorem A_callV (q : Nat) (hp : pc + 3 = q) {M' : Mt} {d' na idx ci : Nat} {o : Int} {as : List Vl} (UC : List Up) (hM : MtOk M' na) (hin : inW (.instanceMethod M'.1)) (hse : inW (.selects M'.1.cls M'.1 M'.1)) (hlk : inW (.methodLink M.1.cls idx M'.1)) (hci : isC ci M'.1.cls) (hrt : M'.2.2.2 = none) (ho : Ob ci o) (hn : o.toNat < n) (hna : as.length = na) (hdd : d' + 1 ≤ d) (hn1 : n ≤ n1) (hcs : catS st ≤ 8) (hd : decode M.2.1 pc = .ok (.invokevirtual idx, 3))
    (c : ∀ K1 : Int → Hp → Prop, K1 0 (ap UC (ap U h)) → CGm w false M' d' n n (vR o :: as) (ap U h) K1) (k : JG w false M d n1 n q lv st (ap (UC ++ U) h) K) : JG w false M d n1 n pc lv (as.reverse ++ vR o :: st) (ap U h) K :=
  J_callV q hp hM hin hse hlk hci ho hn hna hdd ⟨Nat.le_refl _, hn1⟩ hcs hd (sr := fun _ => st) (K1 := fun _ h' => h' = ap UC (ap U h)) (fun z => by rw [hrt]; rfl) (c _ rfl) (fun z h' e _ => by rw [e, ← ap_app]; exact k)
theorem A_mmax (q : Nat) (hp : pc + 3 = q) {x y v : Int} {idx : Nat} (hv : max x y = v) (hlk : inW (.methodLink M.1.cls idx Lib.Math.max.name)) (hx : inR x) (hy : inR y) (hcs : catS st ≤ 8) (hd0 : 1 ≤ d) (hd : decode M.2.1 pc = .ok (.invokestatic idx, 3)) (k : JG w false M d n1 n q lv (vI v :: st) (ap U h) K) : JG w false M d n1 n pc lv (vI y :: vI x :: st) (ap U h) K := by
  subst hp
  subst hv
  intro p l e R s m args below meth c H locs ls cells slots Q F hR hr hW hS hl
  have hts := F.2.2.2.2.2.2.1
  refine va_mmax F.1 F.2.1 (by rw [F.2.2.1]; exact hl.1.symm) F.2.2.2.2.2.1 (hts _ (hlk.mem M)) (hts _ (mm_max_st.mem M)) (hts _ (mm_ini.mem M)) (hts _ (mm_max_co.mem M)) (by omega) (by rw [catS_m]; omega) (by omega) (by omega) hd ?_
  have k2 := k p l e R s m args below meth c H locs ls cells slots Q F hR hr hW hS hl
  rw [List.map_cons] at k2
  have e1 : (if Int32.ofInt x < Int32.ofInt y then Int32.ofInt y else Int32.ofInt x) = Int32.ofInt (max x y) := by
    by_cases g : x < y
    · rw [if_pos ((i32_lt hx hy).mpr g), Int.max_eq_right (by omega)]
    · rw [if_neg (fun q => g ((i32_lt hx hy).mp q)), Int.max_eq_left (by omega)]
  rw [e1]
  exact k2
end L6A
