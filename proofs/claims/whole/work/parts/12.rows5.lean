section ROWS5
variable {w : Wd} {fz : Bool} {M : Mt} {d n1 n pc : Nat} {lv : List (Nat × Vl)} {st : List Vl} {h : Hp} {K : Int → Hp → Prop}
theorem hu_self {h : Hp} {o i z : Int} : hu h o i z o i = z := by
  unfold hu
  rw [if_pos ⟨rfl, rfl⟩]
theorem J_putI (q : Nat) (hp : pc + 3 = q) {o z jj : Int} {idx ci j : Nat} (hL : FL M.1.cls idx ci j false .int) (hjj : (j : Int) = jj) (hk : fk ci j = 0) (ho : Ob ci o) (hn : o.toNat < n) (hd : decode M.2.1 pc = .ok (.putfield idx, 3)) (k : ∀ h1, h1 = hu h o jj z → JG w fz M d n1 n q lv st h1 K) : JG w fz M d n1 n pc lv (vI z :: vR o :: st) h K := by
  subst hjj
  exact J_put q hp hL (by unfold fvl; rw [if_pos hk, hu_self]) rfl rfl ho hn hd (k _ rfl)
theorem J_putZ (q : Nat) (hp : pc + 3 = q) {o z jj : Int} {idx ci j : Nat} (hL : FL M.1.cls idx ci j false .boolean) (hjj : (j : Int) = jj) (hk : fk ci j = 0) (hzz : z = 0 ∨ z = 1) (ho : Ob ci o) (hn : o.toNat < n) (hd : decode M.2.1 pc = .ok (.putfield idx, 3)) (k : ∀ h1, h1 = hu h o jj z → JG w fz M d n1 n q lv st h1 K) : JG w fz M d n1 n pc lv (vI z :: vR o :: st) h K := by
  subst hjj
  exact J_put q hp hL (by unfold fvl; rw [if_pos hk, hu_self]) (by rcases hzz with rfl | rfl <;> rfl) (by rcases hzz with rfl | rfl <;> rfl) ho hn hd (k _ rfl)
theorem J_putL (q : Nat) (hp : pc + 3 = q) {o z jj : Int} {idx ci j : Nat} (hL : FL M.1.cls idx ci j false .long) (hjj : (j : Int) = jj) (hk : fk ci j = 1) (ho : Ob ci o) (hn : o.toNat < n) (hd : decode M.2.1 pc = .ok (.putfield idx, 3)) (k : ∀ h1, h1 = hu h o jj z → JG w fz M d n1 n q lv st h1 K) : JG w fz M d n1 n pc lv (vL z :: vR o :: st) h K := by
  subst hjj
  exact J_put q hp hL (by unfold fvl; rw [if_neg (by rw [hk]; decide), if_pos hk, hu_self]) rfl rfl ho hn hd (k _ rfl)
theorem J_putR (q : Nat) (hp : pc + 3 = q) {o z jj : Int} {idx ci j : Nat} {cn : String} (hL : FL M.1.cls idx ci j false (.object cn)) (hjj : (j : Int) = jj) (hk : fk ci j = 2) (hz : 0 ≤ z ∧ z < 5000) (ho : Ob ci o) (hn : o.toNat < n) (hd : decode M.2.1 pc = .ok (.putfield idx, 3)) (k : ∀ h1, h1 = hu h o jj z → JG w fz M d n1 n q lv st h1 K) : JG w fz M d n1 n pc lv (vR z :: vR o :: st) h K := by
  subst hjj
  obtain ⟨a, ha⟩ := wad_some w hz
  have e : tv w (vR z) = .ref a := ha
  exact J_put q hp hL (by unfold fvl; rw [if_neg (by rw [hk]; decide), if_neg (by rw [hk]; decide), if_pos hk, hu_self]) (by rw [e]; rfl) (by rw [e]; rfl) ho hn hd (k _ rfl)
/-- in a constructor: a final object or array -/
theorem J_putFR (q : Nat) (hp : pc + 3 = q) {o z jj dd : Int} {idx ci j : Nat} {ty : FieldType} (hty : (∃ cn, ty = .object cn) ∨ ∃ t, ty = .array t) (hL : FL M.1.cls idx ci j true ty) (hcl : isC ci M.1.cls ∧ M.1.name = "<init>") (hjj : (j : Int) = jj) (hk : fk ci j = dd) (hdd : 3 ≤ dd) (hz : 0 ≤ z ∧ z < 5000) (ho : Ob ci o) (hn : o.toNat < n) (hd : decode M.2.1 pc = .ok (.putfield idx, 3)) (k : ∀ h1, h1 = hu h o jj z → JG w false M d n1 n q lv st h1 K) : JG w false M d n1 n pc lv (vR z :: vR o :: st) h K := by
  subst hjj
  obtain ⟨a, ha⟩ := wad_some w hz
  have e : tv w (vR z) = .ref a := ha
  obtain ⟨⟨T, N, hc⟩, hnm⟩ := hcl
  exact J_putF q hp hL ⟨⟨_, T, N, hc, rfl⟩, hnm⟩ (by unfold fvl; rw [if_neg (by rw [hk]; omega), if_neg (by rw [hk]; omega), if_neg (by rw [hk]; omega), if_neg (by decide), hu_self]) (by rw [e]; rcases hty with ⟨cn, rfl⟩ | ⟨t, rfl⟩ <;> rfl) (by rw [e]; rcases hty with ⟨cn, rfl⟩ | ⟨t, rfl⟩ <;> rfl) ho hn hd (k _ rfl)
theorem J_iastH (q : Nat) (hp : pc + 1 = q) {o i z : Int} {len : Nat} (ho : Ar 0 len o) (hn : o.toNat < n) (hi : 0 ≤ i ∧ i < len) (hz : True) (hd : decode M.2.1 pc = .ok (.iastore, 1)) (k : ∀ h1, h1 = hu h o i z → JG w fz M d n1 n q lv st h1 K) : JG w fz M d n1 n pc lv (vI z :: vI i :: vR o :: st) h K := J_iast q hp ho hn hi hz hd (k _ rfl)
theorem J_lastH (q : Nat) (hp : pc + 1 = q) {o i z : Int} {len : Nat} (ho : Ar 1 len o) (hn : o.toNat < n) (hi : 0 ≤ i ∧ i < len) (hz : True) (hd : decode M.2.1 pc = .ok (.lastore, 1)) (k : ∀ h1, h1 = hu h o i z → JG w fz M d n1 n q lv st h1 K) : JG w fz M d n1 n pc lv (vL z :: vI i :: vR o :: st) h K := J_last q hp ho hn hi hz hd (k _ rfl)
theorem J_bastH (q : Nat) (hp : pc + 1 = q) {o i z : Int} {len : Nat} (ho : Ar 2 len o) (hn : o.toNat < n) (hi : 0 ≤ i ∧ i < len) (hz : -128 ≤ z ∧ z < 128) (hd : decode M.2.1 pc = .ok (.bastore, 1)) (k : ∀ h1, h1 = hu h o i z → JG w fz M d n1 n q lv st h1 K) : JG w fz M d n1 n pc lv (vI z :: vI i :: vR o :: st) h K := J_bast q hp ho hn hi hz hd (k _ rfl)
theorem J_castH (q : Nat) (hp : pc + 1 = q) {o i z : Int} {len : Nat} (ho : Ar 3 len o) (hn : o.toNat < n) (hi : 0 ≤ i ∧ i < len) (hz : 0 ≤ z ∧ z < 65536) (hd : decode M.2.1 pc = .ok (.castore, 1)) (k : ∀ h1, h1 = hu h o i z → JG w false M d n1 n q lv st h1 K) : JG w false M d n1 n pc lv (vI z :: vI i :: vR o :: st) h K := J_cast q hp ho hn hi hz hd (k _ rfl)
theorem J_copyH (q : Nat) (hp : pc + 3 = q) {a b sp dp cn : Int} {la lb idx : Nat} (hlk : inW (.methodLink M.1.cls idx arraycopyName)) (ha : Ar 0 la a) (hb : Ar 0 lb b) (h1 : 0 ≤ sp ∧ 0 ≤ dp ∧ 0 ≤ cn ∧ sp + cn ≤ la ∧ dp + cn ≤ lb) (hst : isLs st = 0) (hd0 : 1 ≤ d) (hd : decode M.2.1 pc = .ok (.invokestatic idx, 3)) (k : ∀ h1, h1 = hcpy h a sp b dp cn → JG w true M d n1 NT q lv st h1 K) : JG w true M d n1 NT pc lv (vI cn :: vI dp :: vR b :: vI sp :: vR a :: st) h K := J_copy q hp hlk ac_nat ac_st ac_ini ha hb h1 hst hd0 hd (k _ rfl)
theorem J_maskE (q : Nat) (hp : pc + 1 = q) {x z mm : Int} (k0 : Nat) (hk : k0 ≤ 31) (hz : z = 2 ^ k0 - 1) (hm : (2 : Int) ^ k0 = mm) (hd : decode M.2.1 pc = .ok (.iand, 1)) (k : JG w fz M d n1 n q lv (vI (x % mm) :: st) h K) : JG w fz M d n1 n pc lv (vI z :: vI x :: st) h K := by
  subst hm
  exact J_mask q hp k0 hk hz hd k
theorem J_ishrE (q : Nat) (hp : pc + 1 = q) {x y v : Int} (hx : inR x) (hy : 0 ≤ y ∧ y < 32) (hv : x / 2 ^ y.toNat = v) (hd : decode M.2.1 pc = .ok (.ishr, 1)) (k : JG w fz M d n1 n q lv (vI v :: st) h K) : JG w fz M d n1 n pc lv (vI y :: vI x :: st) h K := by
  subst hv
  exact J_ishr q hp hx hy hd k
theorem J_maxE (q : Nat) (hp : pc + 3 = q) {x y : Int} {idx : Nat} (hlk : inW (.methodLink M.1.cls idx Lib.Math.max.name)) (hx : inR x) (hy : inR y) (hcs : catS st ≤ 8) (hd0 : 1 ≤ d) (hd : decode M.2.1 pc = .ok (.invokestatic idx, 3)) (k : JG w fz M d n n q lv (vI (max x y) :: st) h K) : JG w fz M d n n pc lv (vI y :: vI x :: st) h K := J_mmax q hp hlk mm_max_st mm_ini mm_max_co hx hy hcs hd0 hd k
theorem J_minE (q : Nat) (hp : pc + 3 = q) {x y : Int} {idx : Nat} (hlk : inW (.methodLink M.1.cls idx Lib.Math.min.name)) (hx : inR x) (hy : inR y) (hcs : catS st ≤ 8) (hd0 : 1 ≤ d) (hd : decode M.2.1 pc = .ok (.invokestatic idx, 3)) (k : JG w fz M d n n q lv (vI (min x y) :: st) h K) : JG w fz M d n n pc lv (vI y :: vI x :: st) h K := J_mmin q hp hlk mm_min_st mm_ini mm_min_co hx hy hcs hd0 hd k
theorem J_objI (q : Nat) (hp : pc + 3 = q) {o : Int} {idx : Nat} (hlk : inW (.methodLink M.1.cls idx objectInit)) (ho : 0 ≤ o ∧ o.toNat < NT) (hst : isLs st = 0) (hd0 : 1 ≤ d) (hd : decode M.2.1 pc = .ok (.invokespecial idx, 3)) (k : JG w fz M d n1 n q lv st h K) : JG w fz M d n1 n pc lv (vR o :: st) h K := J_objInit q hp hlk obi_in obi_co (Or.inr ho) hst hd0 hd k
theorem inR_b {z : Int} (h : z = 0 ∨ z = 1) : inR z := by rcases h with rfl | rfl <;> exact ⟨by decide, by decide⟩
end ROWS5
theorem ob_0 : Ob 11 0 := ⟨by decide, rfl⟩
theorem ob_1 : Ob 10 1 := ⟨by decide, rfl⟩
theorem ar_2 : Ar 2 1600 2 := ⟨by decide, rfl⟩
theorem ob_3 : Ob 1 3 := ⟨by decide, rfl⟩
theorem ar_4 : Ar 0 1600 4 := ⟨by decide, rfl⟩
theorem ob_5 : Ob 2 5 := ⟨by decide, rfl⟩
theorem ob_6 : Ob 7 6 := ⟨by decide, rfl⟩
theorem ob_7 : Ob 4 7 := ⟨by decide, rfl⟩
theorem ar_8 : Ar 0 5 8 := ⟨by decide, rfl⟩
theorem ob_9 : Ob 4 9 := ⟨by decide, rfl⟩
theorem ar_10 : Ar 0 5 10 := ⟨by decide, rfl⟩
theorem ob_11 : Ob 4 11 := ⟨by decide, rfl⟩
theorem ar_12 : Ar 0 10 12 := ⟨by decide, rfl⟩
theorem ar_13 : Ar 0 8 13 := ⟨by decide, rfl⟩
theorem ar_14 : Ar 0 10 14 := ⟨by decide, rfl⟩
theorem ar_15 : Ar 0 10 15 := ⟨by decide, rfl⟩
theorem ar_16 : Ar 0 10 16 := ⟨by decide, rfl⟩
theorem ar_17 : Ar 0 10 17 := ⟨by decide, rfl⟩
theorem ar_18 : Ar 0 10 18 := ⟨by decide, rfl⟩
theorem ob_19 : Ob 1 19 := ⟨by decide, rfl⟩
theorem ar_20 : Ar 0 1600 20 := ⟨by decide, rfl⟩
theorem ob_21 : Ob 1 21 := ⟨by decide, rfl⟩
theorem ar_22 : Ar 0 1600 22 := ⟨by decide, rfl⟩
theorem ob_23 : Ob 7 23 := ⟨by decide, rfl⟩
theorem ob_24 : Ob 4 24 := ⟨by decide, rfl⟩
theorem ar_25 : Ar 0 5 25 := ⟨by decide, rfl⟩
theorem ob_26 : Ob 4 26 := ⟨by decide, rfl⟩
theorem ar_27 : Ar 0 5 27 := ⟨by decide, rfl⟩
theorem ob_28 : Ob 4 28 := ⟨by decide, rfl⟩
theorem ar_29 : Ar 0 10 29 := ⟨by decide, rfl⟩
theorem ar_30 : Ar 0 8 30 := ⟨by decide, rfl⟩
theorem ar_31 : Ar 0 10 31 := ⟨by decide, rfl⟩
theorem ar_32 : Ar 0 10 32 := ⟨by decide, rfl⟩
theorem ar_33 : Ar 0 10 33 := ⟨by decide, rfl⟩
theorem ar_34 : Ar 0 10 34 := ⟨by decide, rfl⟩
theorem ar_35 : Ar 0 10 35 := ⟨by decide, rfl⟩
theorem ob_36 : Ob 1 36 := ⟨by decide, rfl⟩
theorem ar_37 : Ar 0 1600 37 := ⟨by decide, rfl⟩
theorem ob_38 : Ob 1 38 := ⟨by decide, rfl⟩
theorem ar_39 : Ar 0 1600 39 := ⟨by decide, rfl⟩
theorem ob_40 : Ob 9 40 := ⟨by decide, rfl⟩
theorem ar_41 : Ar 0 8 41 := ⟨by decide, rfl⟩
theorem ar_42 : Ar 0 80 42 := ⟨by decide, rfl⟩
theorem ar_43 : Ar 0 10 43 := ⟨by decide, rfl⟩
theorem ar_44 : Ar 0 10 44 := ⟨by decide, rfl⟩
theorem ob_45 : Ob 9 45 := ⟨by decide, rfl⟩
theorem ar_46 : Ar 0 8 46 := ⟨by decide, rfl⟩
theorem ar_47 : Ar 0 80 47 := ⟨by decide, rfl⟩
theorem ar_48 : Ar 0 10 48 := ⟨by decide, rfl⟩
theorem ar_49 : Ar 0 10 49 := ⟨by decide, rfl⟩
theorem ob_50 : Ob 5 50 := ⟨by decide, rfl⟩
theorem ar_51 : Ar 0 2180 51 := ⟨by decide, rfl⟩
theorem ob_52 : Ob 6 52 := ⟨by decide, rfl⟩
theorem ar_53 : Ar 0 64 53 := ⟨by decide, rfl⟩
theorem ar_54 : Ar 0 9 54 := ⟨by decide, rfl⟩
theorem ar_55 : Ar 0 8 55 := ⟨by decide, rfl⟩
theorem ar_56 : Ar 0 10 56 := ⟨by decide, rfl⟩
theorem ar_57 : Ar 0 8 57 := ⟨by decide, rfl⟩
theorem ar_58 : Ar 0 201 58 := ⟨by decide, rfl⟩
theorem ar_59 : Ar 0 6 59 := ⟨by decide, rfl⟩
theorem ob_60 : Ob 8 60 := ⟨by decide, rfl⟩
theorem ob_61 : Ob 0 61 := ⟨by decide, rfl⟩
theorem ar_62 : Ar 0 8 62 := ⟨by decide, rfl⟩
theorem ar_63 : Ar 0 10 63 := ⟨by decide, rfl⟩
theorem ar_64 : Ar 0 80 64 := ⟨by decide, rfl⟩
theorem ar_65 : Ar 0 80 65 := ⟨by decide, rfl⟩
theorem ob_66 : Ob 3 66 := ⟨by decide, rfl⟩
theorem ar_67 : Ar 0 8 67 := ⟨by decide, rfl⟩
theorem ob_68 : Ob 12 68 := ⟨by decide, rfl⟩
theorem ar_69 : Ar 0 1600 69 := ⟨by decide, rfl⟩
theorem ar_70 : Ar 0 6 70 := ⟨by decide, rfl⟩
theorem ar_71 : Ar 3 5 71 := ⟨by decide, rfl⟩
theorem ar_72 : Ar 3 5 72 := ⟨by decide, rfl⟩
theorem ar_73 : Ar 3 2 73 := ⟨by decide, rfl⟩
theorem ar_74 : Ar 3 5 74 := ⟨by decide, rfl⟩
theorem ar_75 : Ar 3 6 75 := ⟨by decide, rfl⟩
theorem ar_76 : Ar 3 4 76 := ⟨by decide, rfl⟩
theorem ar_77 : Ar 3 2 77 := ⟨by decide, rfl⟩
theorem ar_78 : Ar 3 5 78 := ⟨by decide, rfl⟩
theorem ar_79 : Ar 3 4 79 := ⟨by decide, rfl⟩
theorem ar_80 : Ar 3 3 80 := ⟨by decide, rfl⟩
theorem ar_81 : Ar 3 6 81 := ⟨by decide, rfl⟩
theorem ar_82 : Ar 3 5 82 := ⟨by decide, rfl⟩
theorem ar_83 : Ar 3 5 83 := ⟨by decide, rfl⟩
theorem ar_84 : Ar 3 3 84 := ⟨by decide, rfl⟩
theorem ar_85 : Ar 3 5 85 := ⟨by decide, rfl⟩
theorem ar_86 : Ar 3 4 86 := ⟨by decide, rfl⟩
theorem ar_87 : Ar 3 4 87 := ⟨by decide, rfl⟩
theorem ar_88 : Ar 3 6 88 := ⟨by decide, rfl⟩
theorem ar_89 : Ar 3 4 89 := ⟨by decide, rfl⟩
theorem ar_90 : Ar 3 5 90 := ⟨by decide, rfl⟩
theorem ar_91 : Ar 3 3 91 := ⟨by decide, rfl⟩
theorem ar_92 : Ar 3 3 92 := ⟨by decide, rfl⟩
theorem ar_93 : Ar 0 6 93 := ⟨by decide, rfl⟩
theorem ar_94 : Ar 1 60 94 := ⟨by decide, rfl⟩
theorem ar_95 : Ar 0 16 95 := ⟨by decide, rfl⟩
theorem ar_96 : Ar 0 100 96 := ⟨by decide, rfl⟩
theorem ar_97 : Ar 0 6 97 := ⟨by decide, rfl⟩
theorem ar_98 : Ar 0 4 98 := ⟨by decide, rfl⟩
theorem ar_99 : Ar 0 4 99 := ⟨by decide, rfl⟩
theorem ar_100 : Ar 0 3200 100 := ⟨by decide, rfl⟩
theorem ar_101 : Ar 0 1700 101 := ⟨by decide, rfl⟩
theorem ar_102 : Ar 1 1700 102 := ⟨by decide, rfl⟩
theorem ar_103 : Ar 0 7 103 := ⟨by decide, rfl⟩
theorem ar_104 : Ar 0 109 104 := ⟨by decide, rfl⟩
theorem ar_105 : Ar 0 8 105 := ⟨by decide, rfl⟩
theorem ar_106 : Ar 0 10 106 := ⟨by decide, rfl⟩
theorem ar_107 : Ar 0 10 107 := ⟨by decide, rfl⟩
theorem ar_108 : Ar 0 10 108 := ⟨by decide, rfl⟩
theorem ar_109 : Ar 0 80 109 := ⟨by decide, rfl⟩
theorem ar_110 : Ar 0 80 110 := ⟨by decide, rfl⟩
theorem ar_111 : Ar 0 10 111 := ⟨by decide, rfl⟩
theorem ar_112 : Ar 0 2180 112 := ⟨by decide, rfl⟩
theorem ar_113 : Ar 0 8 113 := ⟨by decide, rfl⟩
theorem ar_114 : Ar 0 109 114 := ⟨by decide, rfl⟩
theorem ar_115 : Ar 0 8 115 := ⟨by decide, rfl⟩
theorem ar_116 : Ar 3 5 116 := ⟨by decide, rfl⟩
theorem ar_117 : Ar 3 4 117 := ⟨by decide, rfl⟩
theorem ar_118 : Ar 3 5 118 := ⟨by decide, rfl⟩
theorem ar_119 : Ar 3 5 119 := ⟨by decide, rfl⟩
theorem ar_120 : Ar 3 4 120 := ⟨by decide, rfl⟩
theorem ar_121 : Ar 3 5 121 := ⟨by decide, rfl⟩
theorem ar_122 : Ar 3 3 122 := ⟨by decide, rfl⟩
theorem ar_123 : Ar 3 3 123 := ⟨by decide, rfl⟩
theorem ar_124 : Ar 3 2 124 := ⟨by decide, rfl⟩
theorem ar_125 : Ar 3 3 125 := ⟨by decide, rfl⟩
theorem ar_126 : Ar 3 3 126 := ⟨by decide, rfl⟩
theorem ar_127 : Ar 3 3 127 := ⟨by decide, rfl⟩
theorem ar_128 : Ar 3 5 128 := ⟨by decide, rfl⟩
theorem ar_129 : Ar 3 5 129 := ⟨by decide, rfl⟩
theorem ar_130 : Ar 3 3 130 := ⟨by decide, rfl⟩
theorem ar_131 : Ar 3 4 131 := ⟨by decide, rfl⟩
theorem ar_132 : Ar 3 5 132 := ⟨by decide, rfl⟩
theorem ar_133 : Ar 0 1700 133 := ⟨by decide, rfl⟩
theorem ar_134 : Ar 0 1700 134 := ⟨by decide, rfl⟩
theorem ar_135 : Ar 1 1700 135 := ⟨by decide, rfl⟩
theorem ar_136 : Ar 0 201 136 := ⟨by decide, rfl⟩
theorem ob_step {ci : Nat} {o dd : Int} {e : Nat ⊕ (Nat × Nat)} (h : Ob ci o) (hd : 0 ≤ dd) (ht : ∀ k, k < tt.length → tt[k]? = some (.inl ci) → tt[k + dd.toNat]? = some e) : 0 ≤ o + dd ∧ tt[(o + dd).toNat]? = some e := by
  refine ⟨by have := h.1; omega, ?_⟩
  have e1 : (o + dd).toNat = o.toNat + dd.toNat := by have := h.1; omega
  rw [e1]
  exact ht _ (Ob.lt h) h.2
theorem of_1_0 {o : Int} (h : Ob 1 o) : Ar 0 1600 (o + 1) := ob_step h (by decide) (by decide +kernel)
theorem of_7_0 {o : Int} (h : Ob 7 o) : Ob 4 (o + 1) := ob_step h (by decide) (by decide +kernel)
theorem of_7_1 {o : Int} (h : Ob 7 o) : Ob 4 (o + 3) := ob_step h (by decide) (by decide +kernel)
theorem of_7_2 {o : Int} (h : Ob 7 o) : Ob 4 (o + 5) := ob_step h (by decide) (by decide +kernel)
theorem of_7_3 {o : Int} (h : Ob 7 o) : Ar 0 8 (o + 7) := ob_step h (by decide) (by decide +kernel)
theorem of_7_4 {o : Int} (h : Ob 7 o) : Ar 0 10 (o + 8) := ob_step h (by decide) (by decide +kernel)
theorem of_7_5 {o : Int} (h : Ob 7 o) : Ar 0 10 (o + 9) := ob_step h (by decide) (by decide +kernel)
theorem of_7_6 {o : Int} (h : Ob 7 o) : Ar 0 10 (o + 10) := ob_step h (by decide) (by decide +kernel)
theorem of_7_7 {o : Int} (h : Ob 7 o) : Ar 0 10 (o + 11) := ob_step h (by decide) (by decide +kernel)
theorem of_7_8 {o : Int} (h : Ob 7 o) : Ar 0 10 (o + 12) := ob_step h (by decide) (by decide +kernel)
theorem of_7_9 {o : Int} (h : Ob 7 o) : Ob 1 (o + 13) := ob_step h (by decide) (by decide +kernel)
theorem of_7_10 {o : Int} (h : Ob 7 o) : Ob 1 (o + 15) := ob_step h (by decide) (by decide +kernel)
theorem of_9_0 {o : Int} (h : Ob 9 o) : Ar 0 8 (o + 1) := ob_step h (by decide) (by decide +kernel)
theorem of_9_1 {o : Int} (h : Ob 9 o) : Ar 0 80 (o + 2) := ob_step h (by decide) (by decide +kernel)
theorem of_9_2 {o : Int} (h : Ob 9 o) : Ar 0 10 (o + 3) := ob_step h (by decide) (by decide +kernel)
theorem of_9_3 {o : Int} (h : Ob 9 o) : Ar 0 10 (o + 4) := ob_step h (by decide) (by decide +kernel)
