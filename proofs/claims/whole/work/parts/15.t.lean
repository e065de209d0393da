def C_X7_clear (w : Wd) (o : Int) (h : Hp) (K : Int → Hp → Prop) : Prop := CGm w true m_X7_clear 1 NT NT [vR o] h K
def L_X7_clear_26 (w : Wd) (o v1 : Int) (h : Hp) (K : Int → Hp → Prop) : Prop := JG w true m_X7_clear 1 NT NT 26 [(0, vR o), (1, vI v1)] [] h K
def L_X7_clear_50 (w : Wd) (o v1 : Int) (h : Hp) (K : Int → Hp → Prop) : Prop := JG w true m_X7_clear 1 NT NT 50 [(0, vR o), (1, vI v1)] [] h K
theorem c_X7_clear {w : Wd} {o : Int} (ho : Ob 7 o) {h : Hp} {K : Int → Hp → Prop} (T : ∀ h1 : Hp, h1 = hu h (o + 1) 1 0 → ∀ h3 : Hp, h3 = hu h1 (o + 3) 1 0 → ∀ h5 : Hp, h5 = hu h3 (o + 5) 1 0 → L_X7_clear_26 w o 0 h5 K) : C_X7_clear w o h K := by
  refine CGm_of2 (by decide) (by decide) trivial (Nat.le_of_ble_eq_true rfl) ?_
  refine J_aload_n 1 rfl 0 0 rfl (Ob.rng ho) (D_X7_clear_0.at 0 rfl) ?_
  refine J_getF (ov := (o + 1)) (dd := 1001) 4 rfl fl_7_14 rfl (by decide) rfl ho (Ob.lt ho) (D_X7_clear_0.at 1 rfl) ?_
  refine J_iconst 5 rfl (D_X7_clear_0.at 2 rfl) ?_
  refine J_putI 8 rfl fl_7_58 rfl rfl (of_7_0 ho) (Ob.lt (of_7_0 ho)) (D_X7_clear_0.at 3 rfl) (fun h1 e2 => ?_)
  replace T := T h1 e2
  refine J_aload_n 9 rfl 0 0 rfl (Ob.rng ho) (D_X7_clear_0.at 4 rfl) ?_
  refine J_getF (ov := (o + 3)) (dd := 1003) 12 rfl fl_7_20 rfl (by decide) rfl ho (Ob.lt ho) (D_X7_clear_0.at 5 rfl) ?_
  refine J_iconst 13 rfl (D_X7_clear_0.at 6 rfl) ?_
  refine J_putI 16 rfl fl_7_58 rfl rfl (of_7_1 ho) (Ob.lt (of_7_1 ho)) (D_X7_clear_0.at 7 rfl) (fun h3 e4 => ?_)
  replace T := T h3 e4
  refine J_aload_n 17 rfl 0 0 rfl (Ob.rng ho) (D_X7_clear_0.at 8 rfl) ?_
  refine J_getF (ov := (o + 5)) (dd := 1005) 20 rfl fl_7_23 rfl (by decide) rfl ho (Ob.lt ho) (D_X7_clear_0.at 9 rfl) ?_
  refine J_iconst 21 rfl (D_X7_clear_0.at 10 rfl) ?_
  refine J_putI 24 rfl fl_7_58 rfl rfl (of_7_2 ho) (Ob.lt (of_7_2 ho)) (D_X7_clear_0.at 11 rfl) (fun h5 e6 => ?_)
  replace T := T h5 e6
  refine J_iconst 25 rfl (D_X7_clear_0.at 12 rfl) ?_
  refine J_istore_n (lv' := [(1, vI 0), (0, vR o)]) 26 rfl 1 (by decide) rfl (D_X7_clear_0.at 13 rfl) ?_
  exact J_sub (lv' := [(0, vR o), (1, vI 0)]) [1, 0] rfl T
theorem l_X7_clear_26 {w : Wd} {o v1 : Int} (ho : Ob 7 o) {h : Hp} {K : Int → Hp → Prop} (T : (inR v1) ∧ (((v1 ≥ 8) → (L_X7_clear_50 w o 0 h K)) ∧ (¬ (v1 ≥ 8) → ((0 ≤ v1 ∧ v1 < 8) ∧ (∀ h9 : Hp, h9 = hu h (o + 7) v1 0 → L_X7_clear_26 w o (v1 + 1) h9 K))))) : L_X7_clear_26 w o v1 h K := by
  unfold L_X7_clear_26
  refine J_iload_n 27 rfl 1 1 rfl (D_X7_clear_0.at 14 rfl) ?_
  refine J_aload_n 28 rfl 0 0 rfl (Ob.rng ho) (D_X7_clear_0.at 15 rfl) ?_
  refine J_getF (ov := (o + 7)) (dd := 1007) 31 rfl fl_7_26 rfl (by decide) rfl ho (Ob.lt ho) (D_X7_clear_0.at 16 rfl) ?_
  refine J_alenE (v := 8) 32 rfl rfl (by decide) (of_7_3 ho) (Ar.lt (of_7_3 ho)) (D_X7_clear_0.at 17 rfl) ?_
  obtain ⟨s7, T⟩ := T
  refine J_icmp_ge 35 rfl 48 s7 ⟨by decide, by decide⟩ (D_X7_clear_0.at 18 rfl) (by decide) (fun c11 => ?_) (fun c11 => ?_)
  · replace T := T.1 c11
    refine J_iconst 49 rfl (D_X7_clear_0.at 26 rfl) ?_
    refine J_istore_n (lv' := [(1, vI 0), (0, vR o)]) 50 rfl 1 (by decide) rfl (D_X7_clear_0.at 27 rfl) ?_
    exact J_sub (lv' := [(0, vR o), (1, vI 0)]) [1, 0] rfl T
  replace T := T.2 c11
  refine J_aload_n 36 rfl 0 0 rfl (Ob.rng ho) (D_X7_clear_0.at 19 rfl) ?_
  refine J_getF (ov := (o + 7)) (dd := 1007) 39 rfl fl_7_26 rfl (by decide) rfl ho (Ob.lt ho) (D_X7_clear_0.at 20 rfl) ?_
  refine J_iload_n 40 rfl 1 1 rfl (D_X7_clear_0.at 21 rfl) ?_
  refine J_iconst 41 rfl (D_X7_clear_0.at 22 rfl) ?_
  obtain ⟨s8, T⟩ := T
  refine J_iastH 42 rfl (of_7_3 ho) (Ar.lt (of_7_3 ho)) s8 trivial (D_X7_clear_0.at 23 rfl) (fun h9 e10 => ?_)
  replace T := T h9 e10
  refine J_iinc (v := (v1 + 1)) (lv' := [(1, vI (v1 + 1)), (0, vR o)]) 45 rfl 1 1 1 rfl rfl (by decide) rfl (D_X7_clear_0.at 24 rfl) ?_
  refine J_goto 26 (D_X7_clear_0.at 25 rfl) (by decide) ?_
  exact J_sub (lv' := [(0, vR o), (1, vI (v1 + 1))]) [1, 0] rfl T
theorem l_X7_clear_50 {w : Wd} {o v1 : Int} (ho : Ob 7 o) {h : Hp} {K : Int → Hp → Prop} (T : (inR v1) ∧ (((v1 ≥ 10) → (∀ h13 : Hp, h13 = hu h (o + 13) 1 0 → ∀ h15 : Hp, h15 = hu h13 (o + 15) 1 0 → ∀ h17 : Hp, h17 = hu h15 o 11 0 → ∀ h19 : Hp, h19 = hu h17 o 12 0 → ∀ h21 : Hp, h21 = hu h19 o 13 10 → ∀ h23 : Hp, h23 = hu h21 o 14 20 → ∀ h25 : Hp, h25 = hu h23 o 15 0 → K 0 h25)) ∧ (¬ (v1 ≥ 10) → ((0 ≤ v1 ∧ v1 < 10) ∧ (∀ h28 : Hp, h28 = hu h (o + 11) v1 0 → L_X7_clear_50 w o (v1 + 1) h28 K))))) : L_X7_clear_50 w o v1 h K := by
  unfold L_X7_clear_50
  refine J_iload_n 51 rfl 1 1 rfl (D_X7_clear_0.at 28 rfl) ?_
  refine J_aload_n 52 rfl 0 0 rfl (Ob.rng ho) (D_X7_clear_0.at 29 rfl) ?_
  refine J_getF (ov := (o + 11)) (dd := 1011) 55 rfl fl_7_39 rfl (by decide) rfl ho (Ob.lt ho) (D_X7_clear_0.at 30 rfl) ?_
  refine J_alenE (v := 10) 56 rfl rfl (by decide) (of_7_7 ho) (Ar.lt (of_7_7 ho)) (D_X7_clear_0.at 31 rfl) ?_
  obtain ⟨s12, T⟩ := T
  refine J_icmp_ge 59 rfl 72 s12 ⟨by decide, by decide⟩ (D_X7_clear_0.at 32 rfl) (by decide) (fun c30 => ?_) (fun c30 => ?_)
  · replace T := T.1 c30
    refine J_aload_n 73 rfl 0 0 rfl (Ob.rng ho) (D_X7_clear_0.at 40 rfl) ?_
    refine J_getF (ov := (o + 13)) (dd := 1013) 76 rfl fl_7_48 rfl (by decide) rfl ho (Ob.lt ho) (D_X7_clear_0.at 41 rfl) ?_
    refine J_iconst 77 rfl (D_X7_clear_0.at 42 rfl) ?_
    refine J_putI 80 rfl fl_7_62 rfl rfl (of_7_9 ho) (Ob.lt (of_7_9 ho)) (D_X7_clear_0.at 43 rfl) (fun h13 e14 => ?_)
    replace T := T h13 e14
    refine J_aload_n 81 rfl 0 0 rfl (Ob.rng ho) (D_X7_clear_0.at 44 rfl) ?_
    refine J_getF (ov := (o + 15)) (dd := 1015) 84 rfl fl_7_52 rfl (by decide) rfl ho (Ob.lt ho) (D_X7_clear_0.at 45 rfl) ?_
    refine J_iconst 85 rfl (D_X7_clear_0.at 46 rfl) ?_
    refine J_putI 88 rfl fl_7_62 rfl rfl (of_7_10 ho) (Ob.lt (of_7_10 ho)) (D_X7_clear_0.at 47 rfl) (fun h15 e16 => ?_)
    replace T := T h15 e16
    refine J_aload_n 89 rfl 0 0 rfl (Ob.rng ho) (D_X7_clear_1.at 0 rfl) ?_
    refine J_iconst 90 rfl (D_X7_clear_1.at 1 rfl) ?_
    refine J_putI 93 rfl fl_7_65 rfl rfl ho (Ob.lt ho) (D_X7_clear_1.at 2 rfl) (fun h17 e18 => ?_)
    replace T := T h17 e18
    refine J_aload_n 94 rfl 0 0 rfl (Ob.rng ho) (D_X7_clear_1.at 3 rfl) ?_
    refine J_iconst 95 rfl (D_X7_clear_1.at 4 rfl) ?_
    refine J_putI 98 rfl fl_7_68 rfl rfl ho (Ob.lt ho) (D_X7_clear_1.at 5 rfl) (fun h19 e20 => ?_)
    replace T := T h19 e20
    refine J_aload_n 99 rfl 0 0 rfl (Ob.rng ho) (D_X7_clear_1.at 6 rfl) ?_
    refine J_bipush 101 rfl ⟨by decide, by decide⟩ (D_X7_clear_1.at 7 rfl) ?_
    refine J_putI 104 rfl fl_7_71 rfl rfl ho (Ob.lt ho) (D_X7_clear_1.at 8 rfl) (fun h21 e22 => ?_)
    replace T := T h21 e22
    refine J_aload_n 105 rfl 0 0 rfl (Ob.rng ho) (D_X7_clear_1.at 9 rfl) ?_
    refine J_bipush 107 rfl ⟨by decide, by decide⟩ (D_X7_clear_1.at 10 rfl) ?_
    refine J_putI 110 rfl fl_7_74 rfl rfl ho (Ob.lt ho) (D_X7_clear_1.at 11 rfl) (fun h23 e24 => ?_)
    replace T := T h23 e24
    refine J_aload_n 111 rfl 0 0 rfl (Ob.rng ho) (D_X7_clear_1.at 12 rfl) ?_
    refine J_iconst 112 rfl (D_X7_clear_1.at 13 rfl) ?_
    refine J_putI 115 rfl fl_7_77 rfl rfl ho (Ob.lt ho) (D_X7_clear_1.at 14 rfl) (fun h25 e26 => ?_)
    replace T := T h25 e26
    exact J_vret rfl (D_X7_clear_1.at 15 rfl) T
  replace T := T.2 c30
  refine J_aload_n 60 rfl 0 0 rfl (Ob.rng ho) (D_X7_clear_0.at 33 rfl) ?_
  refine J_getF (ov := (o + 11)) (dd := 1011) 63 rfl fl_7_39 rfl (by decide) rfl ho (Ob.lt ho) (D_X7_clear_0.at 34 rfl) ?_
  refine J_iload_n 64 rfl 1 1 rfl (D_X7_clear_0.at 35 rfl) ?_
  refine J_iconst 65 rfl (D_X7_clear_0.at 36 rfl) ?_
  obtain ⟨s27, T⟩ := T
  refine J_iastH 66 rfl (of_7_7 ho) (Ar.lt (of_7_7 ho)) s27 trivial (D_X7_clear_0.at 37 rfl) (fun h28 e29 => ?_)
  replace T := T h28 e29
  refine J_iinc (v := (v1 + 1)) (lv' := [(1, vI (v1 + 1)), (0, vR o)]) 69 rfl 1 1 1 rfl rfl (by decide) rfl (D_X7_clear_0.at 38 rfl) ?_
  refine J_goto 50 (D_X7_clear_0.at 39 rfl) (by decide) ?_
  exact J_sub (lv' := [(0, vR o), (1, vI (v1 + 1))]) [1, 0] rfl T
def C_X7_hasReach (w : Wd) (o a1 : Int) (h : Hp) (K : Int → Hp → Prop) : Prop := CGm w true m_X7_hasReach 1 NT NT [vR o, vI a1] h K
theorem c_X7_hasReach {w : Wd} {o a1 : Int} (ho : Ob 7 o) {h : Hp} {K : Int → Hp → Prop} (T : (inR a1) ∧ (((a1 < 0) → (K 0 h)) ∧ (¬ (a1 < 0) → ((inR a1) ∧ ((inR (h o 12)) ∧ (((a1 ≥ (h o 12)) → (K 0 h)) ∧ (¬ (a1 ≥ (h o 12)) → ((inR a1) ∧ (((a1 ≥ 8) → (K 0 h)) ∧ (¬ (a1 ≥ 8) → (K 1 h))))))))))) : C_X7_hasReach w o a1 h K := by
  refine CGm_of2 (by decide) (by decide) trivial (Nat.le_of_ble_eq_true rfl) ?_
  refine J_iload_n 1 rfl 1 1 rfl (D_X7_hasReach_0.at 0 rfl) ?_
  obtain ⟨s1, T⟩ := T
  refine J_if_lt 4 rfl 22 s1 (D_X7_hasReach_0.at 1 rfl) (by decide) (fun c7 => ?_) (fun c7 => ?_)
  · replace T := T.1 c7
    refine J_iconst 23 rfl (D_X7_hasReach_0.at 11 rfl) ?_
    exact J_zret rfl (Or.inl rfl) (D_X7_hasReach_0.at 12 rfl) T
  replace T := T.2 c7
  refine J_iload_n 5 rfl 1 1 rfl (D_X7_hasReach_0.at 2 rfl) ?_
  refine J_aload_n 6 rfl 0 0 rfl (Ob.rng ho) (D_X7_hasReach_0.at 3 rfl) ?_
  refine J_getI (z := (h o 12)) 9 rfl fl_7_68 rfl ho (Ob.lt ho) (D_X7_hasReach_0.at 4 rfl) rfl ?_
  obtain ⟨s2, T⟩ := T
  obtain ⟨s3, T⟩ := T
  refine J_icmp_ge 12 rfl 22 s2 s3 (D_X7_hasReach_0.at 5 rfl) (by decide) (fun c6 => ?_) (fun c6 => ?_)
  · replace T := T.1 c6
    refine J_iconst 23 rfl (D_X7_hasReach_0.at 11 rfl) ?_
    exact J_zret rfl (Or.inl rfl) (D_X7_hasReach_0.at 12 rfl) T
  replace T := T.2 c6
  refine J_iload_n 13 rfl 1 1 rfl (D_X7_hasReach_0.at 6 rfl) ?_
  refine J_bipush 15 rfl ⟨by decide, by decide⟩ (D_X7_hasReach_0.at 7 rfl) ?_
  obtain ⟨s4, T⟩ := T
  refine J_icmp_ge 18 rfl 22 s4 ⟨by decide, by decide⟩ (D_X7_hasReach_0.at 8 rfl) (by decide) (fun c5 => ?_) (fun c5 => ?_)
  · replace T := T.1 c5
    refine J_iconst 23 rfl (D_X7_hasReach_0.at 11 rfl) ?_
    exact J_zret rfl (Or.inl rfl) (D_X7_hasReach_0.at 12 rfl) T
  replace T := T.2 c5
  refine J_iconst 19 rfl (D_X7_hasReach_0.at 9 rfl) ?_
  refine J_goto 23 (D_X7_hasReach_0.at 10 rfl) (by decide) ?_
  exact J_zret rfl (Or.inr rfl) (D_X7_hasReach_0.at 12 rfl) T
def C_X4_isFull (w : Wd) (o : Int) (h : Hp) (K : Int → Hp → Prop) : Prop := CGm w true m_X4_isFull 1 NT NT [vR o] h K
theorem c_X4_isFull {w : Wd} {o : Int} (ho : Ob 4 o) {nA : Nat} (hA : Ar 0 nA (o + 1)) {h : Hp} {K : Int → Hp → Prop} (T : (inR (h o 1)) ∧ ((((h o 1) < (Int.ofNat nA)) → (K 0 h)) ∧ (¬ ((h o 1) < (Int.ofNat nA)) → (K 1 h)))) : C_X4_isFull w o h K := by
  refine CGm_of2 (by decide) (by decide) trivial (Nat.le_of_ble_eq_true rfl) ?_
  refine J_aload_n 1 rfl 0 0 rfl (Ob.rng ho) (D_X4_isFull_0.at 0 rfl) ?_
  refine J_getI (z := (h o 1)) 4 rfl fl_4_21 rfl ho (Ob.lt ho) (D_X4_isFull_0.at 1 rfl) rfl ?_
  refine J_aload_n 5 rfl 0 0 rfl (Ob.rng ho) (D_X4_isFull_0.at 2 rfl) ?_
  refine J_getF (ov := (o + 1)) (dd := 1001) 8 rfl fl_4_15 rfl (by decide) rfl ho (Ob.lt ho) (D_X4_isFull_0.at 3 rfl) ?_
  refine J_alenE (v := (Int.ofNat nA)) 9 rfl rfl (by decide) hA (Ar.lt hA) (D_X4_isFull_0.at 4 rfl) ?_
  obtain ⟨s1, T⟩ := T
  refine J_icmp_lt 12 rfl 16 s1 (Ar.lrng hA) (D_X4_isFull_0.at 5 rfl) (by decide) (fun c2 => ?_) (fun c2 => ?_)
  · replace T := T.1 c2
    refine J_iconst 17 rfl (D_X4_isFull_0.at 8 rfl) ?_
    exact J_zret rfl (Or.inl rfl) (D_X4_isFull_0.at 9 rfl) T
  replace T := T.2 c2
  refine J_iconst 13 rfl (D_X4_isFull_0.at 6 rfl) ?_
  refine J_goto 17 (D_X4_isFull_0.at 7 rfl) (by decide) ?_
  exact J_zret rfl (Or.inr rfl) (D_X4_isFull_0.at 9 rfl) T
def C_X4_indexOf (w : Wd) (o a1 : Int) (h : Hp) (K : Int → Hp → Prop) : Prop := CGm w true m_X4_indexOf 1 NT NT [vR o, vI a1] h K
def L_X4_indexOf_2 (w : Wd) (o v1 v2 : Int) (h : Hp) (K : Int → Hp → Prop) : Prop := JG w true m_X4_indexOf 1 NT NT 2 [(0, vR o), (1, vI v1), (2, vI v2)] [] h K
theorem c_X4_indexOf {w : Wd} {o a1 : Int} (ho : Ob 4 o) {nA : Nat} (hA : Ar 0 nA (o + 1)) {h : Hp} {K : Int → Hp → Prop} (T : L_X4_indexOf_2 w o a1 0 h K) : C_X4_indexOf w o a1 h K := by
  refine CGm_of2 (by decide) (by decide) trivial (Nat.le_of_ble_eq_true rfl) ?_
  refine J_iconst 1 rfl (D_X4_indexOf_0.at 0 rfl) ?_
  refine J_istore_n (lv' := [(2, vI 0), (0, vR o), (1, vI a1)]) 2 rfl 2 (by decide) rfl (D_X4_indexOf_0.at 1 rfl) ?_
  exact J_sub (lv' := [(0, vR o), (1, vI a1), (2, vI 0)]) [1, 2, 0] rfl T
theorem l_X4_indexOf_2 {w : Wd} {o v1 v2 : Int} (ho : Ob 4 o) {nA : Nat} (hA : Ar 0 nA (o + 1)) {h : Hp} {K : Int → Hp → Prop} (T : (inR v2) ∧ ((inR (h o 1)) ∧ (((v2 ≥ (h o 1)) → (K (-1) h)) ∧ (¬ (v2 ≥ (h o 1)) → ((inR v2) ∧ (((v2 ≥ (Int.ofNat nA)) → (K (-1) h)) ∧ (¬ (v2 ≥ (Int.ofNat nA)) → ((0 ≤ v2 ∧ v2 < nA) ∧ ((inR (h (o + 1) v2)) ∧ ((inR v1) ∧ ((((h (o + 1) v2) ≠ v1) → (L_X4_indexOf_2 w o v1 (v2 + 1) h K)) ∧ (¬ ((h (o + 1) v2) ≠ v1) → (K v2 h))))))))))))) : L_X4_indexOf_2 w o v1 v2 h K := by
  unfold L_X4_indexOf_2
  refine J_iload_n 3 rfl 2 2 rfl (D_X4_indexOf_0.at 2 rfl) ?_
  refine J_aload_n 4 rfl 0 0 rfl (Ob.rng ho) (D_X4_indexOf_0.at 3 rfl) ?_
  refine J_getI (z := (h o 1)) 7 rfl fl_4_21 rfl ho (Ob.lt ho) (D_X4_indexOf_0.at 4 rfl) rfl ?_
  obtain ⟨s1, T⟩ := T
  obtain ⟨s2, T⟩ := T
  refine J_icmp_ge 10 rfl 37 s1 s2 (D_X4_indexOf_0.at 5 rfl) (by decide) (fun c9 => ?_) (fun c9 => ?_)
  · replace T := T.1 c9
    refine J_iconst 38 rfl (D_X4_indexOf_0.at 21 rfl) ?_
    exact J_iret rfl (D_X4_indexOf_0.at 22 rfl) T
  replace T := T.2 c9
  refine J_iload_n 11 rfl 2 2 rfl (D_X4_indexOf_0.at 6 rfl) ?_
  refine J_aload_n 12 rfl 0 0 rfl (Ob.rng ho) (D_X4_indexOf_0.at 7 rfl) ?_
  refine J_getF (ov := (o + 1)) (dd := 1001) 15 rfl fl_4_15 rfl (by decide) rfl ho (Ob.lt ho) (D_X4_indexOf_0.at 8 rfl) ?_
  refine J_alenE (v := (Int.ofNat nA)) 16 rfl rfl (by decide) hA (Ar.lt hA) (D_X4_indexOf_0.at 9 rfl) ?_
  obtain ⟨s3, T⟩ := T
  refine J_icmp_ge 19 rfl 37 s3 (Ar.lrng hA) (D_X4_indexOf_0.at 10 rfl) (by decide) (fun c8 => ?_) (fun c8 => ?_)
  · replace T := T.1 c8
    refine J_iconst 38 rfl (D_X4_indexOf_0.at 21 rfl) ?_
    exact J_iret rfl (D_X4_indexOf_0.at 22 rfl) T
  replace T := T.2 c8
  refine J_aload_n 20 rfl 0 0 rfl (Ob.rng ho) (D_X4_indexOf_0.at 11 rfl) ?_
  refine J_getF (ov := (o + 1)) (dd := 1001) 23 rfl fl_4_15 rfl (by decide) rfl ho (Ob.lt ho) (D_X4_indexOf_0.at 12 rfl) ?_
  refine J_iload_n 24 rfl 2 2 rfl (D_X4_indexOf_0.at 13 rfl) ?_
  obtain ⟨s4, T⟩ := T
  refine J_iald 25 rfl hA (Ar.lt hA) s4 (D_X4_indexOf_0.at 14 rfl) ?_
  refine J_iload_n 26 rfl 1 1 rfl (D_X4_indexOf_0.at 15 rfl) ?_
  obtain ⟨s5, T⟩ := T
  obtain ⟨s6, T⟩ := T
  refine J_icmp_ne 29 rfl 31 s5 s6 (D_X4_indexOf_0.at 16 rfl) (by decide) (fun c7 => ?_) (fun c7 => ?_)
  · replace T := T.1 c7
    refine J_iinc (v := (v2 + 1)) (lv' := [(2, vI (v2 + 1)), (0, vR o), (1, vI v1)]) 34 rfl 2 2 1 rfl rfl (by decide) rfl (D_X4_indexOf_0.at 19 rfl) ?_
    refine J_goto 2 (D_X4_indexOf_0.at 20 rfl) (by decide) ?_
    exact J_sub (lv' := [(0, vR o), (1, vI v1), (2, vI (v2 + 1))]) [1, 2, 0] rfl T
  replace T := T.2 c7
  refine J_iload_n 30 rfl 2 2 rfl (D_X4_indexOf_0.at 17 rfl) ?_
  exact J_iret rfl (D_X4_indexOf_0.at 18 rfl) T
def C_X1_isTold (w : Wd) (o : Int) (h : Hp) (K : Int → Hp → Prop) : Prop := CGm w true m_X1_isTold 1 NT NT [vR o] h K
theorem c_X1_isTold {w : Wd} {o : Int} (ho : Ob 1 o) {h : Hp} {K : Int → Hp → Prop} (T : (inR (h o 1)) ∧ ((((h o 1) ≤ 0) → (K 0 h)) ∧ (¬ ((h o 1) ≤ 0) → (K 1 h)))) : C_X1_isTold w o h K := by
  refine CGm_of2 (by decide) (by decide) trivial (Nat.le_of_ble_eq_true rfl) ?_
  refine J_aload_n 1 rfl 0 0 rfl (Ob.rng ho) (D_X1_isTold_0.at 0 rfl) ?_
  refine J_getI (z := (h o 1)) 4 rfl fl_1_15 rfl ho (Ob.lt ho) (D_X1_isTold_0.at 1 rfl) rfl ?_
  obtain ⟨s1, T⟩ := T
  refine J_if_le 7 rfl 11 s1 (D_X1_isTold_0.at 2 rfl) (by decide) (fun c2 => ?_) (fun c2 => ?_)
  · replace T := T.1 c2
    refine J_iconst 12 rfl (D_X1_isTold_0.at 5 rfl) ?_
    exact J_zret rfl (Or.inl rfl) (D_X1_isTold_0.at 6 rfl) T
  replace T := T.2 c2
  refine J_iconst 8 rfl (D_X1_isTold_0.at 3 rfl) ?_
  refine J_goto 12 (D_X1_isTold_0.at 4 rfl) (by decide) ?_
  exact J_zret rfl (Or.inr rfl) (D_X1_isTold_0.at 6 rfl) T
def C_X1_put (w : Wd) (o a1 : Int) (h : Hp) (K : Int → Hp → Prop) : Prop := CGm w true m_X1_put 1 NT NT [vR o, vI a1] h K
theorem c_X1_put {w : Wd} {o a1 : Int} (ho : Ob 1 o) {h : Hp} {K : Int → Hp → Prop} (T : (inR (h o 1)) ∧ ((((h o 1) ≥ 1600) → (K 0 h)) ∧ (¬ ((h o 1) ≥ 1600) → ((0 ≤ (h o 1) ∧ (h o 1) < 1600) ∧ (∀ h3 : Hp, h3 = hu h (o + 1) (h o 1) a1 → ∀ h5 : Hp, h5 = hu h3 o 1 ((h3 o 1) + 1) → K 0 h5))))) : C_X1_put w o a1 h K := by
  refine CGm_of2 (by decide) (by decide) trivial (Nat.le_of_ble_eq_true rfl) ?_
  refine J_aload_n 1 rfl 0 0 rfl (Ob.rng ho) (D_X1_put_0.at 0 rfl) ?_
  refine J_getI (z := (h o 1)) 4 rfl fl_1_15 rfl ho (Ob.lt ho) (D_X1_put_0.at 1 rfl) rfl ?_
  refine J_aload_n 5 rfl 0 0 rfl (Ob.rng ho) (D_X1_put_0.at 2 rfl) ?_
  refine J_getF (ov := (o + 1)) (dd := 1001) 8 rfl fl_1_9 rfl (by decide) rfl ho (Ob.lt ho) (D_X1_put_0.at 3 rfl) ?_
  refine J_alenE (v := 1600) 9 rfl rfl (by decide) (of_1_0 ho) (Ar.lt (of_1_0 ho)) (D_X1_put_0.at 4 rfl) ?_
  obtain ⟨s1, T⟩ := T
  refine J_icmp_ge 12 rfl 32 s1 ⟨by decide, by decide⟩ (D_X1_put_0.at 5 rfl) (by decide) (fun c7 => ?_) (fun c7 => ?_)
  · replace T := T.1 c7
    exact J_vret rfl (D_X1_put_0.at 18 rfl) T
  replace T := T.2 c7
  refine J_aload_n 13 rfl 0 0 rfl (Ob.rng ho) (D_X1_put_0.at 6 rfl) ?_
  refine J_getF (ov := (o + 1)) (dd := 1001) 16 rfl fl_1_9 rfl (by decide) rfl ho (Ob.lt ho) (D_X1_put_0.at 7 rfl) ?_
  refine J_aload_n 17 rfl 0 0 rfl (Ob.rng ho) (D_X1_put_0.at 8 rfl) ?_
  refine J_getI (z := (h o 1)) 20 rfl fl_1_15 rfl ho (Ob.lt ho) (D_X1_put_0.at 9 rfl) rfl ?_
  refine J_iload_n 21 rfl 1 1 rfl (D_X1_put_0.at 10 rfl) ?_
  obtain ⟨s2, T⟩ := T
  refine J_iastH 22 rfl (of_1_0 ho) (Ar.lt (of_1_0 ho)) s2 trivial (D_X1_put_0.at 11 rfl) (fun h3 e4 => ?_)
  replace T := T h3 e4
  refine J_aload_n 23 rfl 0 0 rfl (Ob.rng ho) (D_X1_put_0.at 12 rfl) ?_
  refine J_dup 24 rfl rfl (D_X1_put_0.at 13 rfl) ?_
  refine J_getI (z := (h3 o 1)) 27 rfl fl_1_15 rfl ho (Ob.lt ho) (D_X1_put_0.at 14 rfl) rfl ?_
  refine J_iconst 28 rfl (D_X1_put_0.at 15 rfl) ?_
  refine J_iadd 29 rfl (D_X1_put_0.at 16 rfl) ?_
  refine J_putI 32 rfl fl_1_15 rfl rfl ho (Ob.lt ho) (D_X1_put_0.at 17 rfl) (fun h5 e6 => ?_)
  replace T := T h5 e6
  exact J_vret rfl (D_X1_put_0.at 18 rfl) T
def C_X9_clear (w : Wd) (o a1 : Int) (h : Hp) (K : Int → Hp → Prop) : Prop := CGm w true m_X9_clear 1 NT NT [vR o, vR a1] h K
def L_X9_clear_7 (w : Wd) (o v1 v2 : Int) (h : Hp) (K : Int → Hp → Prop) : Prop := JG w true m_X9_clear 1 NT NT 7 [(0, vR o), (1, vR v1), (2, vI v2)] [] h K
def L_X9_clear_31 (w : Wd) (o v1 v2 : Int) (h : Hp) (K : Int → Hp → Prop) : Prop := JG w true m_X9_clear 1 NT NT 31 [(0, vR o), (1, vR v1), (2, vI v2)] [] h K
def L_X9_clear_55 (w : Wd) (o v1 v2 : Int) (h : Hp) (K : Int → Hp → Prop) : Prop := JG w true m_X9_clear 1 NT NT 55 [(0, vR o), (1, vR v1), (2, vI v2)] [] h K
theorem c_X9_clear {w : Wd} {o a1 : Int} (ho : Ob 9 o) (ha1 : Ob 7 a1) {h : Hp} {K : Int → Hp → Prop} (T : ∀ h1 : Hp, h1 = hu h o 4 0 → L_X9_clear_7 w o a1 0 h1 K) : C_X9_clear w o a1 h K := by
  refine CGm_of2 (by decide) (by decide) trivial (Nat.le_of_ble_eq_true rfl) ?_
  refine J_aload_n 1 rfl 0 0 rfl (Ob.rng ho) (D_X9_clear_0.at 0 rfl) ?_
  refine J_iconst 2 rfl (D_X9_clear_0.at 1 rfl) ?_
  refine J_putI 5 rfl fl_9_24 rfl rfl ho (Ob.lt ho) (D_X9_clear_0.at 2 rfl) (fun h1 e2 => ?_)
  replace T := T h1 e2
  refine J_iconst 6 rfl (D_X9_clear_0.at 3 rfl) ?_
  refine J_istore_n (lv' := [(2, vI 0), (0, vR o), (1, vR a1)]) 7 rfl 2 (by decide) rfl (D_X9_clear_0.at 4 rfl) ?_
  exact J_sub (lv' := [(0, vR o), (1, vR a1), (2, vI 0)]) [1, 2, 0] rfl T
theorem l_X9_clear_7 {w : Wd} {o v1 v2 : Int} (ho : Ob 9 o) (hv1 : Ob 7 v1) {h : Hp} {K : Int → Hp → Prop} (T : (inR v2) ∧ (((v2 ≥ 8) → (L_X9_clear_31 w o v1 0 h K)) ∧ (¬ (v2 ≥ 8) → ((0 ≤ v2 ∧ v2 < 8) ∧ (∀ h5 : Hp, h5 = hu h (o + 1) v2 0 → L_X9_clear_7 w o v1 (v2 + 1) h5 K))))) : L_X9_clear_7 w o v1 v2 h K := by
  unfold L_X9_clear_7
  refine J_iload_n 8 rfl 2 2 rfl (D_X9_clear_0.at 5 rfl) ?_
  refine J_aload_n 9 rfl 0 0 rfl (Ob.rng ho) (D_X9_clear_0.at 6 rfl) ?_
  refine J_getF (ov := (o + 1)) (dd := 1001) 12 rfl fl_9_9 rfl (by decide) rfl ho (Ob.lt ho) (D_X9_clear_0.at 7 rfl) ?_
  refine J_alenE (v := 8) 13 rfl rfl (by decide) (of_9_0 ho) (Ar.lt (of_9_0 ho)) (D_X9_clear_0.at 8 rfl) ?_
  obtain ⟨s3, T⟩ := T
  refine J_icmp_ge 16 rfl 29 s3 ⟨by decide, by decide⟩ (D_X9_clear_0.at 9 rfl) (by decide) (fun c7 => ?_) (fun c7 => ?_)
  · replace T := T.1 c7
    refine J_iconst 30 rfl (D_X9_clear_0.at 17 rfl) ?_
    refine J_istore_n (lv' := [(2, vI 0), (0, vR o), (1, vR v1)]) 31 rfl 2 (by decide) rfl (D_X9_clear_0.at 18 rfl) ?_
    exact J_sub (lv' := [(0, vR o), (1, vR v1), (2, vI 0)]) [1, 2, 0] rfl T
  replace T := T.2 c7
  refine J_aload_n 17 rfl 0 0 rfl (Ob.rng ho) (D_X9_clear_0.at 10 rfl) ?_
  refine J_getF (ov := (o + 1)) (dd := 1001) 20 rfl fl_9_9 rfl (by decide) rfl ho (Ob.lt ho) (D_X9_clear_0.at 11 rfl) ?_
  refine J_iload_n 21 rfl 2 2 rfl (D_X9_clear_0.at 12 rfl) ?_
  refine J_iconst 22 rfl (D_X9_clear_0.at 13 rfl) ?_
  obtain ⟨s4, T⟩ := T
  refine J_iastH 23 rfl (of_9_0 ho) (Ar.lt (of_9_0 ho)) s4 trivial (D_X9_clear_0.at 14 rfl) (fun h5 e6 => ?_)
  replace T := T h5 e6
  refine J_iinc (v := (v2 + 1)) (lv' := [(2, vI (v2 + 1)), (0, vR o), (1, vR v1)]) 26 rfl 2 2 1 rfl rfl (by decide) rfl (D_X9_clear_0.at 15 rfl) ?_
  refine J_goto 7 (D_X9_clear_0.at 16 rfl) (by decide) ?_
  exact J_sub (lv' := [(0, vR o), (1, vR v1), (2, vI (v2 + 1))]) [1, 2, 0] rfl T
theorem l_X9_clear_31 {w : Wd} {o v1 v2 : Int} (ho : Ob 9 o) (hv1 : Ob 7 v1) {h : Hp} {K : Int → Hp → Prop} (T : (inR v2) ∧ (((v2 ≥ 80) → (L_X9_clear_55 w o v1 0 h K)) ∧ (¬ (v2 ≥ 80) → ((0 ≤ v2 ∧ v2 < 80) ∧ (∀ h10 : Hp, h10 = hu h (o + 2) v2 0 → L_X9_clear_31 w o v1 (v2 + 1) h10 K))))) : L_X9_clear_31 w o v1 v2 h K := by
  unfold L_X9_clear_31
  refine J_iload_n 32 rfl 2 2 rfl (D_X9_clear_0.at 19 rfl) ?_
  refine J_aload_n 33 rfl 0 0 rfl (Ob.rng ho) (D_X9_clear_0.at 20 rfl) ?_
  refine J_getF (ov := (o + 2)) (dd := 1002) 36 rfl fl_9_15 rfl (by decide) rfl ho (Ob.lt ho) (D_X9_clear_0.at 21 rfl) ?_
  refine J_alenE (v := 80) 37 rfl rfl (by decide) (of_9_1 ho) (Ar.lt (of_9_1 ho)) (D_X9_clear_0.at 22 rfl) ?_
  obtain ⟨s8, T⟩ := T
  refine J_icmp_ge 40 rfl 53 s8 ⟨by decide, by decide⟩ (D_X9_clear_0.at 23 rfl) (by decide) (fun c12 => ?_) (fun c12 => ?_)
  · replace T := T.1 c12
    refine J_iconst 54 rfl (D_X9_clear_0.at 31 rfl) ?_
    refine J_istore_n (lv' := [(2, vI 0), (0, vR o), (1, vR v1)]) 55 rfl 2 (by decide) rfl (D_X9_clear_0.at 32 rfl) ?_
    exact J_sub (lv' := [(0, vR o), (1, vR v1), (2, vI 0)]) [1, 2, 0] rfl T
  replace T := T.2 c12
  refine J_aload_n 41 rfl 0 0 rfl (Ob.rng ho) (D_X9_clear_0.at 24 rfl) ?_
  refine J_getF (ov := (o + 2)) (dd := 1002) 44 rfl fl_9_15 rfl (by decide) rfl ho (Ob.lt ho) (D_X9_clear_0.at 25 rfl) ?_
  refine J_iload_n 45 rfl 2 2 rfl (D_X9_clear_0.at 26 rfl) ?_
  refine J_iconst 46 rfl (D_X9_clear_0.at 27 rfl) ?_
  obtain ⟨s9, T⟩ := T
  refine J_iastH 47 rfl (of_9_1 ho) (Ar.lt (of_9_1 ho)) s9 trivial (D_X9_clear_0.at 28 rfl) (fun h10 e11 => ?_)
  replace T := T h10 e11
  refine J_iinc (v := (v2 + 1)) (lv' := [(2, vI (v2 + 1)), (0, vR o), (1, vR v1)]) 50 rfl 2 2 1 rfl rfl (by decide) rfl (D_X9_clear_0.at 29 rfl) ?_
  refine J_goto 31 (D_X9_clear_0.at 30 rfl) (by decide) ?_
  exact J_sub (lv' := [(0, vR o), (1, vR v1), (2, vI (v2 + 1))]) [1, 2, 0] rfl T
theorem l_X9_clear_55 {w : Wd} {o v1 v2 : Int} (ho : Ob 9 o) (hv1 : Ob 7 v1) {h : Hp} {K : Int → Hp → Prop} (T : (inR v2) ∧ (((v2 ≥ 10) → (K 0 h)) ∧ (¬ (v2 ≥ 10) → ((0 ≤ v2 ∧ v2 < 10) ∧ ((0 ≤ v2 ∧ v2 < 10) ∧ (∀ h16 : Hp, h16 = hu h (o + 3) v2 (h (v1 + 11) v2) → (0 ≤ v2 ∧ v2 < 10) ∧ (∀ h19 : Hp, h19 = hu h16 (o + 4) v2 0 → L_X9_clear_55 w o v1 (v2 + 1) h19 K))))))) : L_X9_clear_55 w o v1 v2 h K := by
  unfold L_X9_clear_55
  refine J_iload_n 56 rfl 2 2 rfl (D_X9_clear_0.at 33 rfl) ?_
  refine J_bipush 58 rfl ⟨by decide, by decide⟩ (D_X9_clear_0.at 34 rfl) ?_
  obtain ⟨s13, T⟩ := T
  refine J_icmp_ge 61 rfl 86 s13 ⟨by decide, by decide⟩ (D_X9_clear_0.at 35 rfl) (by decide) (fun c21 => ?_) (fun c21 => ?_)
  · replace T := T.1 c21
    exact J_vret rfl (D_X9_clear_1.at 3 rfl) T
  replace T := T.2 c21
  refine J_aload_n 62 rfl 0 0 rfl (Ob.rng ho) (D_X9_clear_0.at 36 rfl) ?_
  refine J_getF (ov := (o + 3)) (dd := 1003) 65 rfl fl_9_18 rfl (by decide) rfl ho (Ob.lt ho) (D_X9_clear_0.at 37 rfl) ?_
  refine J_iload_n 66 rfl 2 2 rfl (D_X9_clear_0.at 38 rfl) ?_
  refine J_aload_n 67 rfl 1 1 rfl (Ob.rng hv1) (D_X9_clear_0.at 39 rfl) ?_
  refine J_getF (ov := (v1 + 11)) (dd := 1011) 70 rfl fl_9_28 rfl (by decide) rfl hv1 (Ob.lt hv1) (D_X9_clear_0.at 40 rfl) ?_
  refine J_iload_n 71 rfl 2 2 rfl (D_X9_clear_0.at 41 rfl) ?_
  obtain ⟨s14, T⟩ := T
  refine J_iald 72 rfl (of_7_7 hv1) (Ar.lt (of_7_7 hv1)) s14 (D_X9_clear_0.at 42 rfl) ?_
  obtain ⟨s15, T⟩ := T
  refine J_iastH 73 rfl (of_9_2 ho) (Ar.lt (of_9_2 ho)) s15 trivial (D_X9_clear_0.at 43 rfl) (fun h16 e17 => ?_)
  replace T := T h16 e17
  refine J_aload_n 74 rfl 0 0 rfl (Ob.rng ho) (D_X9_clear_0.at 44 rfl) ?_
  refine J_getF (ov := (o + 4)) (dd := 1004) 77 rfl fl_9_21 rfl (by decide) rfl ho (Ob.lt ho) (D_X9_clear_0.at 45 rfl) ?_
  refine J_iload_n 78 rfl 2 2 rfl (D_X9_clear_0.at 46 rfl) ?_
  refine J_iconst 79 rfl (D_X9_clear_0.at 47 rfl) ?_
  obtain ⟨s18, T⟩ := T
  refine J_iastH 80 rfl (of_9_3 ho) (Ar.lt (of_9_3 ho)) s18 trivial (D_X9_clear_1.at 0 rfl) (fun h19 e20 => ?_)
  replace T := T h19 e20
  refine J_iinc (v := (v2 + 1)) (lv' := [(2, vI (v2 + 1)), (0, vR o), (1, vR v1)]) 83 rfl 2 2 1 rfl rfl (by decide) rfl (D_X9_clear_1.at 1 rfl) ?_
  refine J_goto 55 (D_X9_clear_1.at 2 rfl) (by decide) ?_
  exact J_sub (lv' := [(0, vR o), (1, vR v1), (2, vI (v2 + 1))]) [1, 2, 0] rfl T
def C_X4_letterOf (w : Wd) (o a1 a2 : Int) (h : Hp) (K : Int → Hp → Prop) : Prop := CGm w true m_X4_letterOf 1 NT NT [vR o, vI a1, vI a2] h K
theorem c_X4_letterOf {w : Wd} {o a1 a2 : Int} (ho : Ob 4 o) {nA : Nat} (hA : Ar 0 nA (o + 1)) {h : Hp} {K : Int → Hp → Prop} (T : (inR a1) ∧ (((a1 < 0) → (K (-1) h)) ∧ (¬ (a1 < 0) → ((inR a1) ∧ ((inR (h o 1)) ∧ (((a1 ≥ (h o 1)) → (K (-1) h)) ∧ (¬ (a1 ≥ (h o 1)) → ((inR a1) ∧ (((a1 ≥ (Int.ofNat nA)) → (K (-1) h)) ∧ (¬ (a1 ≥ (Int.ofNat nA)) → ((inR a2) ∧ (((a2 < 0) → (K (-1) h)) ∧ (¬ (a2 < 0) → ((inR a2) ∧ (((a2 < 6) → ((0 ≤ a1 ∧ a1 < nA) ∧ ((inR (h (o + 1) a1)) ∧ ((0 ≤ (5 * (5 - a2)) ∧ (5 * (5 - a2)) < 32) ∧ (K (((h (o + 1) a1) / 2 ^ (Int.toNat (5 * (5 - a2)))) % 32) h))))) ∧ (¬ (a2 < 6) → (K (-1) h))))))))))))))))) : C_X4_letterOf w o a1 a2 h K := by
  refine CGm_of2 (by decide) (by decide) trivial (Nat.le_of_ble_eq_true rfl) ?_
  refine J_iload_n 1 rfl 1 1 rfl (D_X4_letterOf_0.at 0 rfl) ?_
  obtain ⟨s1, T⟩ := T
  refine J_if_lt 4 rfl 31 s1 (D_X4_letterOf_0.at 1 rfl) (by decide) (fun c14 => ?_) (fun c14 => ?_)
  · replace T := T.1 c14
    refine J_iconst 32 rfl (D_X4_letterOf_0.at 16 rfl) ?_
    exact J_iret rfl (D_X4_letterOf_0.at 17 rfl) T
  replace T := T.2 c14
  refine J_iload_n 5 rfl 1 1 rfl (D_X4_letterOf_0.at 2 rfl) ?_
  refine J_aload_n 6 rfl 0 0 rfl (Ob.rng ho) (D_X4_letterOf_0.at 3 rfl) ?_
  refine J_getI (z := (h o 1)) 9 rfl fl_4_21 rfl ho (Ob.lt ho) (D_X4_letterOf_0.at 4 rfl) rfl ?_
  obtain ⟨s2, T⟩ := T
  obtain ⟨s3, T⟩ := T
  refine J_icmp_ge 12 rfl 31 s2 s3 (D_X4_letterOf_0.at 5 rfl) (by decide) (fun c13 => ?_) (fun c13 => ?_)
  · replace T := T.1 c13
    refine J_iconst 32 rfl (D_X4_letterOf_0.at 16 rfl) ?_
    exact J_iret rfl (D_X4_letterOf_0.at 17 rfl) T
  replace T := T.2 c13
  refine J_iload_n 13 rfl 1 1 rfl (D_X4_letterOf_0.at 6 rfl) ?_
  refine J_aload_n 14 rfl 0 0 rfl (Ob.rng ho) (D_X4_letterOf_0.at 7 rfl) ?_
  refine J_getF (ov := (o + 1)) (dd := 1001) 17 rfl fl_4_15 rfl (by decide) rfl ho (Ob.lt ho) (D_X4_letterOf_0.at 8 rfl) ?_
  refine J_alenE (v := (Int.ofNat nA)) 18 rfl rfl (by decide) hA (Ar.lt hA) (D_X4_letterOf_0.at 9 rfl) ?_
  obtain ⟨s4, T⟩ := T
  refine J_icmp_ge 21 rfl 31 s4 (Ar.lrng hA) (D_X4_letterOf_0.at 10 rfl) (by decide) (fun c12 => ?_) (fun c12 => ?_)
  · replace T := T.1 c12
    refine J_iconst 32 rfl (D_X4_letterOf_0.at 16 rfl) ?_
    exact J_iret rfl (D_X4_letterOf_0.at 17 rfl) T
  replace T := T.2 c12
  refine J_iload_n 22 rfl 2 2 rfl (D_X4_letterOf_0.at 11 rfl) ?_
  obtain ⟨s5, T⟩ := T
  refine J_if_lt 25 rfl 31 s5 (D_X4_letterOf_0.at 12 rfl) (by decide) (fun c11 => ?_) (fun c11 => ?_)
  · replace T := T.1 c11
    refine J_iconst 32 rfl (D_X4_letterOf_0.at 16 rfl) ?_
    exact J_iret rfl (D_X4_letterOf_0.at 17 rfl) T
  replace T := T.2 c11
  refine J_iload_n 26 rfl 2 2 rfl (D_X4_letterOf_0.at 13 rfl) ?_
  refine J_bipush 28 rfl ⟨by decide, by decide⟩ (D_X4_letterOf_0.at 14 rfl) ?_
  obtain ⟨s6, T⟩ := T
  refine J_icmp_lt 31 rfl 33 s6 ⟨by decide, by decide⟩ (D_X4_letterOf_0.at 15 rfl) (by decide) (fun c10 => ?_) (fun c10 => ?_)
  · replace T := T.1 c10
    refine J_aload_n 34 rfl 0 0 rfl (Ob.rng ho) (D_X4_letterOf_0.at 18 rfl) ?_
    refine J_getF (ov := (o + 1)) (dd := 1001) 37 rfl fl_4_15 rfl (by decide) rfl ho (Ob.lt ho) (D_X4_letterOf_0.at 19 rfl) ?_
    refine J_iload_n 38 rfl 1 1 rfl (D_X4_letterOf_0.at 20 rfl) ?_
    obtain ⟨s7, T⟩ := T
    refine J_iald 39 rfl hA (Ar.lt hA) s7 (D_X4_letterOf_0.at 21 rfl) ?_
    refine J_iconst 40 rfl (D_X4_letterOf_0.at 22 rfl) ?_
    refine J_iconst 41 rfl (D_X4_letterOf_0.at 23 rfl) ?_
    refine J_iload_n 42 rfl 2 2 rfl (D_X4_letterOf_0.at 24 rfl) ?_
    refine J_isub 43 rfl (D_X4_letterOf_0.at 25 rfl) ?_
    refine J_imul 44 rfl (D_X4_letterOf_0.at 26 rfl) ?_
    obtain ⟨s8, T⟩ := T
    obtain ⟨s9, T⟩ := T
    refine J_ishrE (v := ((h (o + 1) a1) / 2 ^ (Int.toNat (5 * (5 - a2))))) 45 rfl s8 s9 rfl (D_X4_letterOf_0.at 27 rfl) ?_
    refine J_bipush 47 rfl ⟨by decide, by decide⟩ (D_X4_letterOf_0.at 28 rfl) ?_
    refine J_maskE (mm := 32) 48 rfl 5 (by decide) rfl rfl (D_X4_letterOf_0.at 29 rfl) ?_
    exact J_iret rfl (D_X4_letterOf_0.at 30 rfl) T
  replace T := T.2 c10
  refine J_iconst 32 rfl (D_X4_letterOf_0.at 16 rfl) ?_
  exact J_iret rfl (D_X4_letterOf_0.at 17 rfl) T
def C_X9_payInterest (w : Wd) (o a1 : Int) (h : Hp) (K : Int → Hp → Prop) : Prop := CGm w true m_X9_payInterest 1 NT NT [vR o, vI a1] h K
def L_X9_payInterest_2 (w : Wd) (o v1 v2 : Int) (h : Hp) (K : Int → Hp → Prop) : Prop := JG w true m_X9_payInterest 1 NT NT 2 [(0, vR o), (1, vI v1), (2, vI v2)] [] h K
theorem c_X9_payInterest {w : Wd} {o a1 : Int} (ho : Ob 9 o) {h : Hp} {K : Int → Hp → Prop} (T : L_X9_payInterest_2 w o a1 0 h K) : C_X9_payInterest w o a1 h K := by
  refine CGm_of2 (by decide) (by decide) trivial (Nat.le_of_ble_eq_true rfl) ?_
  refine J_iconst 1 rfl (D_X9_payInterest_0.at 0 rfl) ?_
  refine J_istore_n (lv' := [(2, vI 0), (0, vR o), (1, vI a1)]) 2 rfl 2 (by decide) rfl (D_X9_payInterest_0.at 1 rfl) ?_
  exact J_sub (lv' := [(0, vR o), (1, vI a1), (2, vI 0)]) [1, 2, 0] rfl T
theorem l_X9_payInterest_2 {w : Wd} {o v1 v2 : Int} (ho : Ob 9 o) {h : Hp} {K : Int → Hp → Prop} (T : (inR v2) ∧ (((v2 ≥ 80) → (K 0 h)) ∧ (¬ (v2 ≥ 80) → ((0 ≤ v2 ∧ v2 < 80) ∧ ((0 ≤ ((h (o + 2) v2) * v1) ∧ ((h (o + 2) v2) * v1) < 2147483648) ∧ ((0 ≤ v2 ∧ v2 < 80) ∧ ((0 ≤ v2 ∧ v2 < 80) ∧ (∀ h6 : Hp, h6 = hu h (o + 2) v2 ((h (o + 2) v2) - (((h (o + 2) v2) * v1) / 100)) → (0 ≤ v2 ∧ v2 < 2147483648) ∧ ((0 ≤ (v2 % 10) ∧ (v2 % 10) < 10) ∧ ((0 ≤ (v2 % 10) ∧ (v2 % 10) < 10) ∧ (∀ h11 : Hp, h11 = hu h6 (o + 4) (v2 % 10) ((h6 (o + 4) (v2 % 10)) + (((h (o + 2) v2) * v1) / 100)) → L_X9_payInterest_2 w o v1 (v2 + 1) h11 K))))))))))) : L_X9_payInterest_2 w o v1 v2 h K := by
  unfold L_X9_payInterest_2
  refine J_iload_n 3 rfl 2 2 rfl (D_X9_payInterest_0.at 2 rfl) ?_
  refine J_aload_n 4 rfl 0 0 rfl (Ob.rng ho) (D_X9_payInterest_0.at 3 rfl) ?_
  refine J_getF (ov := (o + 2)) (dd := 1002) 7 rfl fl_9_15 rfl (by decide) rfl ho (Ob.lt ho) (D_X9_payInterest_0.at 4 rfl) ?_
  refine J_alenE (v := 80) 8 rfl rfl (by decide) (of_9_1 ho) (Ar.lt (of_9_1 ho)) (D_X9_payInterest_0.at 5 rfl) ?_
  obtain ⟨s1, T⟩ := T
  refine J_icmp_ge 11 rfl 52 s1 ⟨by decide, by decide⟩ (D_X9_payInterest_0.at 6 rfl) (by decide) (fun c13 => ?_) (fun c13 => ?_)
  · replace T := T.1 c13
    exact J_vret rfl (D_X9_payInterest_0.at 36 rfl) T
  replace T := T.2 c13
  refine J_aload_n 12 rfl 0 0 rfl (Ob.rng ho) (D_X9_payInterest_0.at 7 rfl) ?_
  refine J_getF (ov := (o + 2)) (dd := 1002) 15 rfl fl_9_15 rfl (by decide) rfl ho (Ob.lt ho) (D_X9_payInterest_0.at 8 rfl) ?_
  refine J_iload_n 16 rfl 2 2 rfl (D_X9_payInterest_0.at 9 rfl) ?_
  obtain ⟨s2, T⟩ := T
  refine J_iald 17 rfl (of_9_1 ho) (Ar.lt (of_9_1 ho)) s2 (D_X9_payInterest_0.at 10 rfl) ?_
  refine J_iload_n 18 rfl 1 1 rfl (D_X9_payInterest_0.at 11 rfl) ?_
  refine J_imul 19 rfl (D_X9_payInterest_0.at 12 rfl) ?_
  refine J_bipush 21 rfl ⟨by decide, by decide⟩ (D_X9_payInterest_0.at 13 rfl) ?_
  obtain ⟨s3, T⟩ := T
  refine J_idiv 22 rfl s3 ⟨by decide, by decide⟩ (D_X9_payInterest_0.at 14 rfl) ?_
  refine J_istore_n (lv' := [(3, vI (((h (o + 2) v2) * v1) / 100)), (0, vR o), (1, vI v1), (2, vI v2)]) 23 rfl 3 (by decide) rfl (D_X9_payInterest_0.at 15 rfl) ?_
  refine J_aload_n 24 rfl 0 1 rfl (Ob.rng ho) (D_X9_payInterest_0.at 16 rfl) ?_
  refine J_getF (ov := (o + 2)) (dd := 1002) 27 rfl fl_9_15 rfl (by decide) rfl ho (Ob.lt ho) (D_X9_payInterest_0.at 17 rfl) ?_
  refine J_iload_n 28 rfl 2 3 rfl (D_X9_payInterest_0.at 18 rfl) ?_
  refine J_dup2 29 rfl rfl rfl (D_X9_payInterest_0.at 19 rfl) ?_
  obtain ⟨s4, T⟩ := T
  refine J_iald 30 rfl (of_9_1 ho) (Ar.lt (of_9_1 ho)) s4 (D_X9_payInterest_0.at 20 rfl) ?_
  refine J_iload_n 31 rfl 3 0 rfl (D_X9_payInterest_0.at 21 rfl) ?_
  refine J_isub 32 rfl (D_X9_payInterest_0.at 22 rfl) ?_
  obtain ⟨s5, T⟩ := T
  refine J_iastH 33 rfl (of_9_1 ho) (Ar.lt (of_9_1 ho)) s5 trivial (D_X9_payInterest_0.at 23 rfl) (fun h6 e7 => ?_)
  replace T := T h6 e7
  refine J_aload_n 34 rfl 0 1 rfl (Ob.rng ho) (D_X9_payInterest_0.at 24 rfl) ?_
  refine J_getF (ov := (o + 4)) (dd := 1004) 37 rfl fl_9_21 rfl (by decide) rfl ho (Ob.lt ho) (D_X9_payInterest_0.at 25 rfl) ?_
  refine J_iload_n 38 rfl 2 3 rfl (D_X9_payInterest_0.at 26 rfl) ?_
  refine J_bipush 40 rfl ⟨by decide, by decide⟩ (D_X9_payInterest_0.at 27 rfl) ?_
  obtain ⟨s8, T⟩ := T
  refine J_irem 41 rfl s8 ⟨by decide, by decide⟩ (D_X9_payInterest_0.at 28 rfl) ?_
  refine J_dup2 42 rfl rfl rfl (D_X9_payInterest_0.at 29 rfl) ?_
  obtain ⟨s9, T⟩ := T
  refine J_iald 43 rfl (of_9_3 ho) (Ar.lt (of_9_3 ho)) s9 (D_X9_payInterest_0.at 30 rfl) ?_
  refine J_iload_n 44 rfl 3 0 rfl (D_X9_payInterest_0.at 31 rfl) ?_
  refine J_iadd 45 rfl (D_X9_payInterest_0.at 32 rfl) ?_
  obtain ⟨s10, T⟩ := T
  refine J_iastH 46 rfl (of_9_3 ho) (Ar.lt (of_9_3 ho)) s10 trivial (D_X9_payInterest_0.at 33 rfl) (fun h11 e12 => ?_)
  replace T := T h11 e12
  refine J_iinc (v := (v2 + 1)) (lv' := [(2, vI (v2 + 1)), (3, vI (((h (o + 2) v2) * v1) / 100)), (0, vR o), (1, vI v1)]) 49 rfl 2 3 1 rfl rfl (by decide) rfl (D_X9_payInterest_0.at 34 rfl) ?_
  refine J_goto 2 (D_X9_payInterest_0.at 35 rfl) (by decide) ?_
  exact J_sub (lv' := [(0, vR o), (1, vI v1), (2, vI (v2 + 1))]) [2, 3, 0] rfl T
def C_X9_copy (w : Wd) (o a1 : Int) (h : Hp) (K : Int → Hp → Prop) : Prop := CGm w true m_X9_copy 1 NT NT [vR o, vR a1] h K
theorem c_X9_copy {w : Wd} {o a1 : Int} (ho : Ob 9 o) (ha1 : Ob 9 a1) {h : Hp} {K : Int → Hp → Prop} (T : ∀ h1 : Hp, h1 = hu h o 4 (h a1 4) → ∀ h3 : Hp, h3 = hcpy h1 (a1 + 1) 0 (o + 1) 0 8 → ∀ h5 : Hp, h5 = hcpy h3 (a1 + 2) 0 (o + 2) 0 80 → ∀ h7 : Hp, h7 = hcpy h5 (a1 + 3) 0 (o + 3) 0 10 → ∀ h9 : Hp, h9 = hcpy h7 (a1 + 4) 0 (o + 4) 0 10 → K 0 h9) : C_X9_copy w o a1 h K := by
  refine CGm_of2 (by decide) (by decide) trivial (Nat.le_of_ble_eq_true rfl) ?_
  refine J_aload_n 1 rfl 0 0 rfl (Ob.rng ho) (D_X9_copy_0.at 0 rfl) ?_
  refine J_aload_n 2 rfl 1 1 rfl (Ob.rng ha1) (D_X9_copy_0.at 1 rfl) ?_
  refine J_getI (z := (h a1 4)) 5 rfl fl_9_24 rfl ha1 (Ob.lt ha1) (D_X9_copy_0.at 2 rfl) rfl ?_
  refine J_putI 8 rfl fl_9_24 rfl rfl ho (Ob.lt ho) (D_X9_copy_0.at 3 rfl) (fun h1 e2 => ?_)
  replace T := T h1 e2
  refine J_aload_n 9 rfl 1 1 rfl (Ob.rng ha1) (D_X9_copy_0.at 4 rfl) ?_
  refine J_getF (ov := (a1 + 1)) (dd := 1001) 12 rfl fl_9_9 rfl (by decide) rfl ha1 (Ob.lt ha1) (D_X9_copy_0.at 5 rfl) ?_
  refine J_iconst 13 rfl (D_X9_copy_0.at 6 rfl) ?_
  refine J_aload_n 14 rfl 0 0 rfl (Ob.rng ho) (D_X9_copy_0.at 7 rfl) ?_
  refine J_getF (ov := (o + 1)) (dd := 1001) 17 rfl fl_9_9 rfl (by decide) rfl ho (Ob.lt ho) (D_X9_copy_0.at 8 rfl) ?_
  refine J_iconst 18 rfl (D_X9_copy_0.at 9 rfl) ?_
  refine J_bipush 20 rfl ⟨by decide, by decide⟩ (D_X9_copy_0.at 10 rfl) ?_
  refine J_copyH 23 rfl ml_9_33 (of_9_0 ha1) (of_9_0 ho) ⟨by decide, by decide, by decide, by decide, by decide⟩ rfl (by decide) (D_X9_copy_0.at 11 rfl) (fun h3 e4 => ?_)
  replace T := T h3 e4
  refine J_aload_n 24 rfl 1 1 rfl (Ob.rng ha1) (D_X9_copy_0.at 12 rfl) ?_
  refine J_getF (ov := (a1 + 2)) (dd := 1002) 27 rfl fl_9_15 rfl (by decide) rfl ha1 (Ob.lt ha1) (D_X9_copy_0.at 13 rfl) ?_
  refine J_iconst 28 rfl (D_X9_copy_0.at 14 rfl) ?_
  refine J_aload_n 29 rfl 0 0 rfl (Ob.rng ho) (D_X9_copy_0.at 15 rfl) ?_
  refine J_getF (ov := (o + 2)) (dd := 1002) 32 rfl fl_9_15 rfl (by decide) rfl ho (Ob.lt ho) (D_X9_copy_0.at 16 rfl) ?_
  refine J_iconst 33 rfl (D_X9_copy_0.at 17 rfl) ?_
  refine J_bipush 35 rfl ⟨by decide, by decide⟩ (D_X9_copy_0.at 18 rfl) ?_
  refine J_copyH 38 rfl ml_9_33 (of_9_1 ha1) (of_9_1 ho) ⟨by decide, by decide, by decide, by decide, by decide⟩ rfl (by decide) (D_X9_copy_0.at 19 rfl) (fun h5 e6 => ?_)
  replace T := T h5 e6
  refine J_aload_n 39 rfl 1 1 rfl (Ob.rng ha1) (D_X9_copy_0.at 20 rfl) ?_
  refine J_getF (ov := (a1 + 3)) (dd := 1003) 42 rfl fl_9_18 rfl (by decide) rfl ha1 (Ob.lt ha1) (D_X9_copy_0.at 21 rfl) ?_
  refine J_iconst 43 rfl (D_X9_copy_0.at 22 rfl) ?_
  refine J_aload_n 44 rfl 0 0 rfl (Ob.rng ho) (D_X9_copy_0.at 23 rfl) ?_
  refine J_getF (ov := (o + 3)) (dd := 1003) 47 rfl fl_9_18 rfl (by decide) rfl ho (Ob.lt ho) (D_X9_copy_0.at 24 rfl) ?_
  refine J_iconst 48 rfl (D_X9_copy_0.at 25 rfl) ?_
  refine J_bipush 50 rfl ⟨by decide, by decide⟩ (D_X9_copy_0.at 26 rfl) ?_
  refine J_copyH 53 rfl ml_9_33 (of_9_2 ha1) (of_9_2 ho) ⟨by decide, by decide, by decide, by decide, by decide⟩ rfl (by decide) (D_X9_copy_0.at 27 rfl) (fun h7 e8 => ?_)
  replace T := T h7 e8
  refine J_aload_n 54 rfl 1 1 rfl (Ob.rng ha1) (D_X9_copy_0.at 28 rfl) ?_
  refine J_getF (ov := (a1 + 4)) (dd := 1004) 57 rfl fl_9_21 rfl (by decide) rfl ha1 (Ob.lt ha1) (D_X9_copy_0.at 29 rfl) ?_
  refine J_iconst 58 rfl (D_X9_copy_0.at 30 rfl) ?_
  refine J_aload_n 59 rfl 0 0 rfl (Ob.rng ho) (D_X9_copy_0.at 31 rfl) ?_
  refine J_getF (ov := (o + 4)) (dd := 1004) 62 rfl fl_9_21 rfl (by decide) rfl ho (Ob.lt ho) (D_X9_copy_0.at 32 rfl) ?_
  refine J_iconst 63 rfl (D_X9_copy_0.at 33 rfl) ?_
  refine J_bipush 65 rfl ⟨by decide, by decide⟩ (D_X9_copy_0.at 34 rfl) ?_
  refine J_copyH 68 rfl ml_9_33 (of_9_3 ha1) (of_9_3 ho) ⟨by decide, by decide, by decide, by decide, by decide⟩ rfl (by decide) (D_X9_copy_0.at 35 rfl) (fun h9 e10 => ?_)
  replace T := T h9 e10
  exact J_vret rfl (D_X9_copy_0.at 36 rfl) T
def C_X7_isNamed (w : Wd) (o a1 : Int) (h : Hp) (K : Int → Hp → Prop) : Prop := CGm w true m_X7_isNamed 2 NT NT [vR o, vI a1] h K
theorem c_X7_isNamed {w : Wd} {o a1 : Int} (ho : Ob 7 o) {h : Hp} {K : Int → Hp → Prop} (T : C_X4_indexOf w (o + 1) a1 h (fun r1 h2 => (inR r1) ∧ (((r1 ≠ (-1)) → (K 1 h2)) ∧ (¬ (r1 ≠ (-1)) → (C_X4_indexOf w (o + 3) a1 h2 (fun r5 h6 => (inR r5) ∧ (((r5 ≠ (-1)) → (K 1 h6)) ∧ (¬ (r5 ≠ (-1)) → (C_X4_indexOf w (o + 5) a1 h6 (fun r9 h10 => (inR r9) ∧ (((r9 = (-1)) → (K 0 h10)) ∧ (¬ (r9 = (-1)) → (K 1 h10))))))))))))) : C_X7_isNamed w o a1 h K := by
  refine CGm_of2 (by decide) (by decide) trivial (Nat.le_of_ble_eq_true rfl) ?_
  refine J_aload_n 1 rfl 0 0 rfl (Ob.rng ho) (D_X7_isNamed_0.at 0 rfl) ?_
  refine J_getF (ov := (o + 1)) (dd := 1001) 4 rfl fl_7_14 rfl (by decide) rfl ho (Ob.lt ho) (D_X7_isNamed_0.at 1 rfl) ?_
  refine J_iload_n 5 rfl 1 1 rfl (D_X7_isNamed_0.at 2 rfl) ?_
  refine J_callV (d' := 1) (sr := fun z => [vI z]) (as := [vI a1]) (st := []) (o := (o + 1)) 8 rfl ok_X4_indexOf im_X4_indexOf se_X4_indexOf ml_7_80 isC_4 (of_7_0 ho) (Ob.lt (of_7_0 ho)) rfl (by decide) ⟨Nat.le_refl _, Nat.le_refl _⟩ (Nat.le_of_ble_eq_true rfl) (D_X7_isNamed_0.at 3 rfl) (fun _ => rfl) T (fun r1 h2 T b3 => ?_)
  refine J_iconst 9 rfl (D_X7_isNamed_0.at 4 rfl) ?_
  obtain ⟨s4, T⟩ := T
  refine J_icmp_ne 12 rfl 36 s4 ⟨by decide, by decide⟩ (D_X7_isNamed_0.at 5 rfl) (by decide) (fun c15 => ?_) (fun c15 => ?_)
  · replace T := T.1 c15
    refine J_iconst 37 rfl (D_X7_isNamed_0.at 18 rfl) ?_
    refine J_goto 41 (D_X7_isNamed_0.at 19 rfl) (by decide) ?_
    exact J_zret rfl (Or.inr rfl) (D_X7_isNamed_0.at 21 rfl) T
  replace T := T.2 c15
  refine J_aload_n 13 rfl 0 0 rfl (Ob.rng ho) (D_X7_isNamed_0.at 6 rfl) ?_
  refine J_getF (ov := (o + 3)) (dd := 1003) 16 rfl fl_7_20 rfl (by decide) rfl ho (Ob.lt ho) (D_X7_isNamed_0.at 7 rfl) ?_
  refine J_iload_n 17 rfl 1 1 rfl (D_X7_isNamed_0.at 8 rfl) ?_
  refine J_callV (d' := 1) (sr := fun z => [vI z]) (as := [vI a1]) (st := []) (o := (o + 3)) 20 rfl ok_X4_indexOf im_X4_indexOf se_X4_indexOf ml_7_80 isC_4 (of_7_1 ho) (Ob.lt (of_7_1 ho)) rfl (by decide) ⟨Nat.le_refl _, Nat.le_refl _⟩ (Nat.le_of_ble_eq_true rfl) (D_X7_isNamed_0.at 9 rfl) (fun _ => rfl) T (fun r5 h6 T b7 => ?_)
  refine J_iconst 21 rfl (D_X7_isNamed_0.at 10 rfl) ?_
  obtain ⟨s8, T⟩ := T
  refine J_icmp_ne 24 rfl 36 s8 ⟨by decide, by decide⟩ (D_X7_isNamed_0.at 11 rfl) (by decide) (fun c14 => ?_) (fun c14 => ?_)
  · replace T := T.1 c14
    refine J_iconst 37 rfl (D_X7_isNamed_0.at 18 rfl) ?_
    refine J_goto 41 (D_X7_isNamed_0.at 19 rfl) (by decide) ?_
    exact J_zret rfl (Or.inr rfl) (D_X7_isNamed_0.at 21 rfl) T
  replace T := T.2 c14
  refine J_aload_n 25 rfl 0 0 rfl (Ob.rng ho) (D_X7_isNamed_0.at 12 rfl) ?_
  refine J_getF (ov := (o + 5)) (dd := 1005) 28 rfl fl_7_23 rfl (by decide) rfl ho (Ob.lt ho) (D_X7_isNamed_0.at 13 rfl) ?_
  refine J_iload_n 29 rfl 1 1 rfl (D_X7_isNamed_0.at 14 rfl) ?_
  refine J_callV (d' := 1) (sr := fun z => [vI z]) (as := [vI a1]) (st := []) (o := (o + 5)) 32 rfl ok_X4_indexOf im_X4_indexOf se_X4_indexOf ml_7_80 isC_4 (of_7_2 ho) (Ob.lt (of_7_2 ho)) rfl (by decide) ⟨Nat.le_refl _, Nat.le_refl _⟩ (Nat.le_of_ble_eq_true rfl) (D_X7_isNamed_0.at 15 rfl) (fun _ => rfl) T (fun r9 h10 T b11 => ?_)
  refine J_iconst 33 rfl (D_X7_isNamed_0.at 16 rfl) ?_
  obtain ⟨s12, T⟩ := T
  refine J_icmp_eq 36 rfl 40 s12 ⟨by decide, by decide⟩ (D_X7_isNamed_0.at 17 rfl) (by decide) (fun c13 => ?_) (fun c13 => ?_)
  · replace T := T.1 c13
    refine J_iconst 41 rfl (D_X7_isNamed_0.at 20 rfl) ?_
    exact J_zret rfl (Or.inl rfl) (D_X7_isNamed_0.at 21 rfl) T
  replace T := T.2 c13
  refine J_iconst 37 rfl (D_X7_isNamed_0.at 18 rfl) ?_
  refine J_goto 41 (D_X7_isNamed_0.at 19 rfl) (by decide) ?_
  exact J_zret rfl (Or.inr rfl) (D_X7_isNamed_0.at 21 rfl) T
def C_X4_add (w : Wd) (o a1 : Int) (h : Hp) (K : Int → Hp → Prop) : Prop := CGm w true m_X4_add 2 NT NT [vR o, vI a1] h K
theorem c_X4_add {w : Wd} {o a1 : Int} (ho : Ob 4 o) {nA : Nat} (hA : Ar 0 nA (o + 1)) {h : Hp} {K : Int → Hp → Prop} (T : C_X4_isFull w o h (fun r1 h2 => (r1 = 0 ∨ r1 = 1) → ((r1 ≠ 0) → (K 0 h2)) ∧ (¬ (r1 ≠ 0) → ((0 ≤ (h2 o 1) ∧ (h2 o 1) < nA) ∧ (∀ h5 : Hp, h5 = hu h2 (o + 1) (h2 o 1) a1 → ∀ h7 : Hp, h7 = hu h5 o 1 ((h5 o 1) + 1) → K 0 h7))))) : C_X4_add w o a1 h K := by
  refine CGm_of2 (by decide) (by decide) trivial (Nat.le_of_ble_eq_true rfl) ?_
  refine J_aload_n 1 rfl 0 0 rfl (Ob.rng ho) (D_X4_add_0.at 0 rfl) ?_
  refine J_callV (d' := 1) (sr := fun z => [vI z]) (as := []) (st := []) (o := o) 4 rfl ok_X4_isFull im_X4_isFull se_X4_isFull ml_4_25 isC_4 ho (Ob.lt ho) rfl (by decide) ⟨Nat.le_refl _, Nat.le_refl _⟩ (Nat.le_of_ble_eq_true rfl) (D_X4_add_0.at 1 rfl) (fun _ => rfl) T (fun r1 h2 T b3 => ?_)
  replace T := T b3
  refine J_if_ne 7 rfl 27 (inR_b b3) (D_X4_add_0.at 2 rfl) (by decide) (fun c9 => ?_) (fun c9 => ?_)
  · replace T := T.1 c9
    exact J_vret rfl (D_X4_add_0.at 15 rfl) T
  replace T := T.2 c9
  refine J_aload_n 8 rfl 0 0 rfl (Ob.rng ho) (D_X4_add_0.at 3 rfl) ?_
  refine J_getF (ov := (o + 1)) (dd := 1001) 11 rfl fl_4_15 rfl (by decide) rfl ho (Ob.lt ho) (D_X4_add_0.at 4 rfl) ?_
  refine J_aload_n 12 rfl 0 0 rfl (Ob.rng ho) (D_X4_add_0.at 5 rfl) ?_
  refine J_getI (z := (h2 o 1)) 15 rfl fl_4_21 rfl ho (Ob.lt ho) (D_X4_add_0.at 6 rfl) rfl ?_
  refine J_iload_n 16 rfl 1 1 rfl (D_X4_add_0.at 7 rfl) ?_
  obtain ⟨s4, T⟩ := T
  refine J_iastH 17 rfl hA (Ar.lt hA) s4 trivial (D_X4_add_0.at 8 rfl) (fun h5 e6 => ?_)
  replace T := T h5 e6
  refine J_aload_n 18 rfl 0 0 rfl (Ob.rng ho) (D_X4_add_0.at 9 rfl) ?_
  refine J_dup 19 rfl rfl (D_X4_add_0.at 10 rfl) ?_
  refine J_getI (z := (h5 o 1)) 22 rfl fl_4_21 rfl ho (Ob.lt ho) (D_X4_add_0.at 11 rfl) rfl ?_
  refine J_iconst 23 rfl (D_X4_add_0.at 12 rfl) ?_
  refine J_iadd 24 rfl (D_X4_add_0.at 13 rfl) ?_
  refine J_putI 27 rfl fl_4_21 rfl rfl ho (Ob.lt ho) (D_X4_add_0.at 14 rfl) (fun h7 e8 => ?_)
  replace T := T h7 e8
  exact J_vret rfl (D_X4_add_0.at 15 rfl) T
def C_X9_lyingOf (w : Wd) (o a1 : Int) (h : Hp) (K : Int → Hp → Prop) : Prop := CGm w true m_X9_lyingOf 2 NT NT [vR o, vI a1] h K
def L_X9_lyingOf_4 (w : Wd) (o v1 v2 v3 : Int) (h : Hp) (K : Int → Hp → Prop) : Prop := JG w true m_X9_lyingOf 2 NT NT 4 [(0, vR o), (1, vI v1), (2, vI v2), (3, vI v3)] [] h K
theorem c_X9_lyingOf {w : Wd} {o a1 : Int} (ho : Ob 9 o) {h : Hp} {K : Int → Hp → Prop} (T : L_X9_lyingOf_4 w o a1 0 0 h K) : C_X9_lyingOf w o a1 h K := by
  refine CGm_of2 (by decide) (by decide) trivial (Nat.le_of_ble_eq_true rfl) ?_
  refine J_iconst 1 rfl (D_X9_lyingOf_0.at 0 rfl) ?_
  refine J_istore_n (lv' := [(2, vI 0), (0, vR o), (1, vI a1)]) 2 rfl 2 (by decide) rfl (D_X9_lyingOf_0.at 1 rfl) ?_
  refine J_iconst 3 rfl (D_X9_lyingOf_0.at 2 rfl) ?_
  refine J_istore_n (lv' := [(3, vI 0), (2, vI 0), (0, vR o), (1, vI a1)]) 4 rfl 3 (by decide) rfl (D_X9_lyingOf_0.at 3 rfl) ?_
  exact J_sub (lv' := [(0, vR o), (1, vI a1), (2, vI 0), (3, vI 0)]) [2, 3, 1, 0] rfl T
theorem l_X9_lyingOf_4 {w : Wd} {o v1 v2 v3 : Int} (ho : Ob 9 o) {h : Hp} {K : Int → Hp → Prop} (T : (inR v3) ∧ (((v3 ≥ 8) → (K v2 h)) ∧ (¬ (v3 ≥ 8) → ((0 ≤ ((v3 * 10) + v1) ∧ ((v3 * 10) + v1) < 80) ∧ (L_X9_lyingOf_4 w o v1 (v2 + (h (o + 2) ((v3 * 10) + v1))) (v3 + 1) h K))))) : L_X9_lyingOf_4 w o v1 v2 v3 h K := by
  unfold L_X9_lyingOf_4
  refine J_iload_n 5 rfl 3 3 rfl (D_X9_lyingOf_0.at 4 rfl) ?_
  refine J_bipush 7 rfl ⟨by decide, by decide⟩ (D_X9_lyingOf_0.at 5 rfl) ?_
  obtain ⟨s1, T⟩ := T
  refine J_icmp_ge 10 rfl 29 s1 ⟨by decide, by decide⟩ (D_X9_lyingOf_0.at 6 rfl) (by decide) (fun c3 => ?_) (fun c3 => ?_)
  · replace T := T.1 c3
    refine J_iload_n 30 rfl 2 2 rfl (D_X9_lyingOf_0.at 18 rfl) ?_
    exact J_iret rfl (D_X9_lyingOf_0.at 19 rfl) T
  replace T := T.2 c3
  refine J_iload_n 11 rfl 2 2 rfl (D_X9_lyingOf_0.at 7 rfl) ?_
  refine J_aload_n 12 rfl 0 0 rfl (Ob.rng ho) (D_X9_lyingOf_0.at 8 rfl) ?_
  refine J_getF (ov := (o + 2)) (dd := 1002) 15 rfl fl_9_15 rfl (by decide) rfl ho (Ob.lt ho) (D_X9_lyingOf_0.at 9 rfl) ?_
  refine J_iload_n 16 rfl 3 3 rfl (D_X9_lyingOf_0.at 10 rfl) ?_
  refine J_iload_n 17 rfl 1 1 rfl (D_X9_lyingOf_0.at 11 rfl) ?_
  refine J_callSN (d' := 1) (K1 := fun z h0 => rok (some .int) z → JG w true m_X9_lyingOf 2 NT NT 20 [(0, vR o), (1, vI v1), (2, vI v2), (3, vI v3)] [vI z, vR (o + 2), vI v2] h0 _) (sr := fun z => [vI z, vR (o + 2), vI v2]) (as := [vI v3, vI v1]) (st := [vR (o + 2), vI v2]) 20 rfl ok_X11_cell sm_X11_cell ml_9_39 rfl (by decide) ⟨Nat.le_refl _, Nat.le_refl _⟩ (Nat.le_of_ble_eq_true rfl) (D_X9_lyingOf_0.at 12 rfl) (fun _ => rfl) (CGm_of2 (by decide) (by decide) trivial (Nat.le_of_ble_eq_true rfl) ?_) (fun _ _ kq hb => kq hb)
  refine J_iload_n 1 rfl 0 0 rfl (D_X11_cell_0.at 0 rfl) ?_
  refine J_bipush 3 rfl ⟨by decide, by decide⟩ (D_X11_cell_0.at 1 rfl) ?_
  refine J_imul 4 rfl (D_X11_cell_0.at 2 rfl) ?_
  refine J_iload_n 5 rfl 1 1 rfl (D_X11_cell_0.at 3 rfl) ?_
  refine J_iadd 6 rfl (D_X11_cell_0.at 4 rfl) ?_
  refine J_iret rfl (D_X11_cell_0.at 5 rfl) (fun _ => ?_)
  obtain ⟨s2, T⟩ := T
  refine J_iald 21 rfl (of_9_1 ho) (Ar.lt (of_9_1 ho)) s2 (D_X9_lyingOf_0.at 13 rfl) ?_
  refine J_iadd 22 rfl (D_X9_lyingOf_0.at 14 rfl) ?_
  refine J_istore_n (lv' := [(2, vI (v2 + (h (o + 2) ((v3 * 10) + v1)))), (0, vR o), (1, vI v1), (3, vI v3)]) 23 rfl 2 (by decide) rfl (D_X9_lyingOf_0.at 15 rfl) ?_
  refine J_iinc (v := (v3 + 1)) (lv' := [(3, vI (v3 + 1)), (2, vI (v2 + (h (o + 2) ((v3 * 10) + v1)))), (0, vR o), (1, vI v1)]) 26 rfl 3 3 1 rfl rfl (by decide) rfl (D_X9_lyingOf_0.at 16 rfl) ?_
  refine J_goto 4 (D_X9_lyingOf_0.at 17 rfl) (by decide) ?_
  exact J_sub (lv' := [(0, vR o), (1, vI v1), (2, vI (v2 + (h (o + 2) ((v3 * 10) + v1)))), (3, vI (v3 + 1))]) [2, 3, 1, 0] rfl T
def C_X9_lyingIn (w : Wd) (o a1 : Int) (h : Hp) (K : Int → Hp → Prop) : Prop := CGm w true m_X9_lyingIn 2 NT NT [vR o, vI a1] h K
def L_X9_lyingIn_4 (w : Wd) (o v1 v2 v3 : Int) (h : Hp) (K : Int → Hp → Prop) : Prop := JG w true m_X9_lyingIn 2 NT NT 4 [(0, vR o), (1, vI v1), (2, vI v2), (3, vI v3)] [] h K
theorem c_X9_lyingIn {w : Wd} {o a1 : Int} (ho : Ob 9 o) {h : Hp} {K : Int → Hp → Prop} (T : L_X9_lyingIn_4 w o a1 0 0 h K) : C_X9_lyingIn w o a1 h K := by
  refine CGm_of2 (by decide) (by decide) trivial (Nat.le_of_ble_eq_true rfl) ?_
  refine J_iconst 1 rfl (D_X9_lyingIn_0.at 0 rfl) ?_
  refine J_istore_n (lv' := [(2, vI 0), (0, vR o), (1, vI a1)]) 2 rfl 2 (by decide) rfl (D_X9_lyingIn_0.at 1 rfl) ?_
  refine J_iconst 3 rfl (D_X9_lyingIn_0.at 2 rfl) ?_
  refine J_istore_n (lv' := [(3, vI 0), (2, vI 0), (0, vR o), (1, vI a1)]) 4 rfl 3 (by decide) rfl (D_X9_lyingIn_0.at 3 rfl) ?_
  exact J_sub (lv' := [(0, vR o), (1, vI a1), (2, vI 0), (3, vI 0)]) [2, 3, 1, 0] rfl T
theorem l_X9_lyingIn_4 {w : Wd} {o v1 v2 v3 : Int} (ho : Ob 9 o) {h : Hp} {K : Int → Hp → Prop} (T : (inR v3) ∧ (((v3 ≥ 10) → (K v2 h)) ∧ (¬ (v3 ≥ 10) → ((0 ≤ ((v1 * 10) + v3) ∧ ((v1 * 10) + v3) < 80) ∧ (L_X9_lyingIn_4 w o v1 (v2 + (h (o + 2) ((v1 * 10) + v3))) (v3 + 1) h K))))) : L_X9_lyingIn_4 w o v1 v2 v3 h K := by
  unfold L_X9_lyingIn_4
  refine J_iload_n 5 rfl 3 3 rfl (D_X9_lyingIn_0.at 4 rfl) ?_
  refine J_bipush 7 rfl ⟨by decide, by decide⟩ (D_X9_lyingIn_0.at 5 rfl) ?_
  obtain ⟨s1, T⟩ := T
  refine J_icmp_ge 10 rfl 29 s1 ⟨by decide, by decide⟩ (D_X9_lyingIn_0.at 6 rfl) (by decide) (fun c3 => ?_) (fun c3 => ?_)
  · replace T := T.1 c3
    refine J_iload_n 30 rfl 2 2 rfl (D_X9_lyingIn_0.at 18 rfl) ?_
    exact J_iret rfl (D_X9_lyingIn_0.at 19 rfl) T
  replace T := T.2 c3
  refine J_iload_n 11 rfl 2 2 rfl (D_X9_lyingIn_0.at 7 rfl) ?_
  refine J_aload_n 12 rfl 0 0 rfl (Ob.rng ho) (D_X9_lyingIn_0.at 8 rfl) ?_
  refine J_getF (ov := (o + 2)) (dd := 1002) 15 rfl fl_9_15 rfl (by decide) rfl ho (Ob.lt ho) (D_X9_lyingIn_0.at 9 rfl) ?_
  refine J_iload_n 16 rfl 1 1 rfl (D_X9_lyingIn_0.at 10 rfl) ?_
  refine J_iload_n 17 rfl 3 3 rfl (D_X9_lyingIn_0.at 11 rfl) ?_
  refine J_callSN (d' := 1) (K1 := fun z h0 => rok (some .int) z → JG w true m_X9_lyingIn 2 NT NT 20 [(0, vR o), (1, vI v1), (2, vI v2), (3, vI v3)] [vI z, vR (o + 2), vI v2] h0 _) (sr := fun z => [vI z, vR (o + 2), vI v2]) (as := [vI v1, vI v3]) (st := [vR (o + 2), vI v2]) 20 rfl ok_X11_cell sm_X11_cell ml_9_39 rfl (by decide) ⟨Nat.le_refl _, Nat.le_refl _⟩ (Nat.le_of_ble_eq_true rfl) (D_X9_lyingIn_0.at 12 rfl) (fun _ => rfl) (CGm_of2 (by decide) (by decide) trivial (Nat.le_of_ble_eq_true rfl) ?_) (fun _ _ kq hb => kq hb)
  refine J_iload_n 1 rfl 0 0 rfl (D_X11_cell_0.at 0 rfl) ?_
  refine J_bipush 3 rfl ⟨by decide, by decide⟩ (D_X11_cell_0.at 1 rfl) ?_
  refine J_imul 4 rfl (D_X11_cell_0.at 2 rfl) ?_
  refine J_iload_n 5 rfl 1 1 rfl (D_X11_cell_0.at 3 rfl) ?_
  refine J_iadd 6 rfl (D_X11_cell_0.at 4 rfl) ?_
  refine J_iret rfl (D_X11_cell_0.at 5 rfl) (fun _ => ?_)
  obtain ⟨s2, T⟩ := T
  refine J_iald 21 rfl (of_9_1 ho) (Ar.lt (of_9_1 ho)) s2 (D_X9_lyingIn_0.at 13 rfl) ?_
  refine J_iadd 22 rfl (D_X9_lyingIn_0.at 14 rfl) ?_
  refine J_istore_n (lv' := [(2, vI (v2 + (h (o + 2) ((v1 * 10) + v3)))), (0, vR o), (1, vI v1), (3, vI v3)]) 23 rfl 2 (by decide) rfl (D_X9_lyingIn_0.at 15 rfl) ?_
  refine J_iinc (v := (v3 + 1)) (lv' := [(3, vI (v3 + 1)), (2, vI (v2 + (h (o + 2) ((v1 * 10) + v3)))), (0, vR o), (1, vI v1)]) 26 rfl 3 3 1 rfl rfl (by decide) rfl (D_X9_lyingIn_0.at 16 rfl) ?_
  refine J_goto 4 (D_X9_lyingIn_0.at 17 rfl) (by decide) ?_
  exact J_sub (lv' := [(0, vR o), (1, vI v1), (2, vI (v2 + (h (o + 2) ((v1 * 10) + v3)))), (3, vI (v3 + 1))]) [2, 3, 1, 0] rfl T
def C_X9_owned (w : Wd) (o a1 a2 a3 : Int) (h : Hp) (K : Int → Hp → Prop) : Prop := CGm w true m_X9_owned 2 NT NT [vR o, vR a1, vI a2, vI a3] h K
def L_X9_owned_6 (w : Wd) (o v1 v2 v3 v4 v5 : Int) (h : Hp) (K : Int → Hp → Prop) : Prop := JG w true m_X9_owned 2 NT NT 6 [(0, vR o), (1, vR v1), (2, vI v2), (3, vI v3), (4, vI v4), (5, vI v5)] [] h K
theorem c_X9_owned {w : Wd} {o a1 a2 a3 : Int} (ho : Ob 9 o) (ha1 : Ob 7 a1) {h : Hp} {K : Int → Hp → Prop} (T : L_X9_owned_6 w o a1 a2 a3 0 0 h K) : C_X9_owned w o a1 a2 a3 h K := by
  refine CGm_of2 (by decide) (by decide) trivial (Nat.le_of_ble_eq_true rfl) ?_
  refine J_iconst 1 rfl (D_X9_owned_0.at 0 rfl) ?_
  refine J_istore (lv' := [(4, vI 0), (0, vR o), (1, vR a1), (2, vI a2), (3, vI a3)]) 3 rfl 4 (by decide) rfl (D_X9_owned_0.at 1 rfl) ?_
  refine J_iconst 4 rfl (D_X9_owned_0.at 2 rfl) ?_
  refine J_istore (lv' := [(5, vI 0), (4, vI 0), (0, vR o), (1, vR a1), (2, vI a2), (3, vI a3)]) 6 rfl 5 (by decide) rfl (D_X9_owned_0.at 3 rfl) ?_
  exact J_sub (lv' := [(0, vR o), (1, vR a1), (2, vI a2), (3, vI a3), (4, vI 0), (5, vI 0)]) [2, 3, 4, 5, 1, 0] rfl T
theorem l_X9_owned_6 {w : Wd} {o v1 v2 v3 v4 v5 : Int} (ho : Ob 9 o) (hv1 : Ob 7 v1) {h : Hp} {K : Int → Hp → Prop} (T : (inR v5) ∧ ((inR (h (v1 + 5) 1)) ∧ (((v5 ≥ (h (v1 + 5) 1)) → (K v4 h)) ∧ (¬ (v5 ≥ (h (v1 + 5) 1)) → ((0 ≤ v5 ∧ v5 < 10) ∧ ((inR (h (v1 + 8) v5)) ∧ ((inR v3) ∧ ((((h (v1 + 8) v5) ≠ v3) → (L_X9_owned_6 w o v1 v2 v3 (v4 + 0) (v5 + 1) h K)) ∧ (¬ ((h (v1 + 8) v5) ≠ v3) → ((0 ≤ ((v2 * 10) + v5) ∧ ((v2 * 10) + v5) < 80) ∧ (L_X9_owned_6 w o v1 v2 v3 (v4 + (h (o + 2) ((v2 * 10) + v5))) (v5 + 1) h K))))))))))) : L_X9_owned_6 w o v1 v2 v3 v4 v5 h K := by
  unfold L_X9_owned_6
  refine J_iload 8 rfl 5 5 rfl (D_X9_owned_0.at 4 rfl) ?_
  refine J_aload_n 9 rfl 1 1 rfl (Ob.rng hv1) (D_X9_owned_0.at 5 rfl) ?_
  refine J_getF (ov := (v1 + 5)) (dd := 1005) 12 rfl fl_9_43 rfl (by decide) rfl hv1 (Ob.lt hv1) (D_X9_owned_0.at 6 rfl) ?_
  refine J_getI (z := (h (v1 + 5) 1)) 15 rfl fl_9_47 rfl (of_7_2 hv1) (Ob.lt (of_7_2 hv1)) (D_X9_owned_0.at 7 rfl) rfl ?_
  obtain ⟨s1, T⟩ := T
  obtain ⟨s2, T⟩ := T
  refine J_icmp_ge 18 rfl 55 s1 s2 (D_X9_owned_0.at 8 rfl) (by decide) (fun c8 => ?_) (fun c8 => ?_)
  · replace T := T.1 c8
    refine J_iload 57 rfl 4 4 rfl (D_X9_owned_0.at 28 rfl) ?_
    exact J_iret rfl (D_X9_owned_0.at 29 rfl) T
  replace T := T.2 c8
  refine J_iload 20 rfl 4 4 rfl (D_X9_owned_0.at 9 rfl) ?_
  refine J_aload_n 21 rfl 1 1 rfl (Ob.rng hv1) (D_X9_owned_0.at 10 rfl) ?_
  refine J_getF (ov := (v1 + 8)) (dd := 1008) 24 rfl fl_9_52 rfl (by decide) rfl hv1 (Ob.lt hv1) (D_X9_owned_0.at 11 rfl) ?_
  refine J_iload 26 rfl 5 5 rfl (D_X9_owned_0.at 12 rfl) ?_
  obtain ⟨s3, T⟩ := T
  refine J_iald 27 rfl (of_7_4 hv1) (Ar.lt (of_7_4 hv1)) s3 (D_X9_owned_0.at 13 rfl) ?_
  refine J_iload_n 28 rfl 3 3 rfl (D_X9_owned_0.at 14 rfl) ?_
  obtain ⟨s4, T⟩ := T
  obtain ⟨s5, T⟩ := T
  refine J_icmp_ne 31 rfl 45 s4 s5 (D_X9_owned_0.at 15 rfl) (by decide) (fun c7 => ?_) (fun c7 => ?_)
  · replace T := T.1 c7
    refine J_iconst 46 rfl (D_X9_owned_0.at 23 rfl) ?_
    refine J_iadd 47 rfl (D_X9_owned_0.at 24 rfl) ?_
    refine J_istore (lv' := [(4, vI (v4 + 0)), (0, vR o), (1, vR v1), (2, vI v2), (3, vI v3), (5, vI v5)]) 49 rfl 4 (by decide) rfl (D_X9_owned_0.at 25 rfl) ?_
    refine J_iinc (v := (v5 + 1)) (lv' := [(5, vI (v5 + 1)), (4, vI (v4 + 0)), (0, vR o), (1, vR v1), (2, vI v2), (3, vI v3)]) 52 rfl 5 5 1 rfl rfl (by decide) rfl (D_X9_owned_0.at 26 rfl) ?_
    refine J_goto 6 (D_X9_owned_0.at 27 rfl) (by decide) ?_
    exact J_sub (lv' := [(0, vR o), (1, vR v1), (2, vI v2), (3, vI v3), (4, vI (v4 + 0)), (5, vI (v5 + 1))]) [2, 3, 4, 5, 1, 0] rfl T
  replace T := T.2 c7
  refine J_aload_n 32 rfl 0 0 rfl (Ob.rng ho) (D_X9_owned_0.at 16 rfl) ?_
  refine J_getF (ov := (o + 2)) (dd := 1002) 35 rfl fl_9_15 rfl (by decide) rfl ho (Ob.lt ho) (D_X9_owned_0.at 17 rfl) ?_
  refine J_iload_n 36 rfl 2 2 rfl (D_X9_owned_0.at 18 rfl) ?_
  refine J_iload 38 rfl 5 5 rfl (D_X9_owned_0.at 19 rfl) ?_
  refine J_callSN (d' := 1) (K1 := fun z h0 => rok (some .int) z → JG w true m_X9_owned 2 NT NT 41 [(0, vR o), (1, vR v1), (2, vI v2), (3, vI v3), (4, vI v4), (5, vI v5)] [vI z, vR (o + 2), vI v4] h0 _) (sr := fun z => [vI z, vR (o + 2), vI v4]) (as := [vI v2, vI v5]) (st := [vR (o + 2), vI v4]) 41 rfl ok_X11_cell sm_X11_cell ml_9_39 rfl (by decide) ⟨Nat.le_refl _, Nat.le_refl _⟩ (Nat.le_of_ble_eq_true rfl) (D_X9_owned_0.at 20 rfl) (fun _ => rfl) (CGm_of2 (by decide) (by decide) trivial (Nat.le_of_ble_eq_true rfl) ?_) (fun _ _ kq hb => kq hb)
  refine J_iload_n 1 rfl 0 0 rfl (D_X11_cell_0.at 0 rfl) ?_
  refine J_bipush 3 rfl ⟨by decide, by decide⟩ (D_X11_cell_0.at 1 rfl) ?_
  refine J_imul 4 rfl (D_X11_cell_0.at 2 rfl) ?_
  refine J_iload_n 5 rfl 1 1 rfl (D_X11_cell_0.at 3 rfl) ?_
  refine J_iadd 6 rfl (D_X11_cell_0.at 4 rfl) ?_
  refine J_iret rfl (D_X11_cell_0.at 5 rfl) (fun _ => ?_)
  obtain ⟨s6, T⟩ := T
  refine J_iald 42 rfl (of_9_1 ho) (Ar.lt (of_9_1 ho)) s6 (D_X9_owned_0.at 21 rfl) ?_
  refine J_goto 46 (D_X9_owned_0.at 22 rfl) (by decide) ?_
  refine J_iadd 47 rfl (D_X9_owned_0.at 24 rfl) ?_
  refine J_istore (lv' := [(4, vI (v4 + (h (o + 2) ((v2 * 10) + v5)))), (0, vR o), (1, vR v1), (2, vI v2), (3, vI v3), (5, vI v5)]) 49 rfl 4 (by decide) rfl (D_X9_owned_0.at 25 rfl) ?_
  refine J_iinc (v := (v5 + 1)) (lv' := [(5, vI (v5 + 1)), (4, vI (v4 + (h (o + 2) ((v2 * 10) + v5)))), (0, vR o), (1, vR v1), (2, vI v2), (3, vI v3)]) 52 rfl 5 5 1 rfl rfl (by decide) rfl (D_X9_owned_0.at 26 rfl) ?_
  refine J_goto 6 (D_X9_owned_0.at 27 rfl) (by decide) ?_
  exact J_sub (lv' := [(0, vR o), (1, vR v1), (2, vI v2), (3, vI v3), (4, vI (v4 + (h (o + 2) ((v2 * 10) + v5)))), (5, vI (v5 + 1))]) [2, 3, 4, 5, 1, 0] rfl T
def C_X9_coloured (w : Wd) (o a1 a2 a3 : Int) (h : Hp) (K : Int → Hp → Prop) : Prop := CGm w true m_X9_coloured 2 NT NT [vR o, vR a1, vI a2, vI a3] h K
def L_X9_coloured_6 (w : Wd) (o v1 v2 v3 v4 v5 : Int) (h : Hp) (K : Int → Hp → Prop) : Prop := JG w true m_X9_coloured 2 NT NT 6 [(0, vR o), (1, vR v1), (2, vI v2), (3, vI v3), (4, vI v4), (5, vI v5)] [] h K
theorem c_X9_coloured {w : Wd} {o a1 a2 a3 : Int} (ho : Ob 9 o) (ha1 : Ob 7 a1) {h : Hp} {K : Int → Hp → Prop} (T : L_X9_coloured_6 w o a1 a2 a3 0 0 h K) : C_X9_coloured w o a1 a2 a3 h K := by
  refine CGm_of2 (by decide) (by decide) trivial (Nat.le_of_ble_eq_true rfl) ?_
  refine J_iconst 1 rfl (D_X9_coloured_0.at 0 rfl) ?_
  refine J_istore (lv' := [(4, vI 0), (0, vR o), (1, vR a1), (2, vI a2), (3, vI a3)]) 3 rfl 4 (by decide) rfl (D_X9_coloured_0.at 1 rfl) ?_
  refine J_iconst 4 rfl (D_X9_coloured_0.at 2 rfl) ?_
  refine J_istore (lv' := [(5, vI 0), (4, vI 0), (0, vR o), (1, vR a1), (2, vI a2), (3, vI a3)]) 6 rfl 5 (by decide) rfl (D_X9_coloured_0.at 3 rfl) ?_
  exact J_sub (lv' := [(0, vR o), (1, vR a1), (2, vI a2), (3, vI a3), (4, vI 0), (5, vI 0)]) [2, 3, 4, 5, 1, 0] rfl T
theorem l_X9_coloured_6 {w : Wd} {o v1 v2 v3 v4 v5 : Int} (ho : Ob 9 o) (hv1 : Ob 7 v1) {h : Hp} {K : Int → Hp → Prop} (T : (inR v5) ∧ ((inR (h (v1 + 5) 1)) ∧ (((v5 ≥ (h (v1 + 5) 1)) → (K v4 h)) ∧ (¬ (v5 ≥ (h (v1 + 5) 1)) → ((0 ≤ v5 ∧ v5 < 10) ∧ ((inR (h (v1 + 9) v5)) ∧ ((inR v3) ∧ ((((h (v1 + 9) v5) ≠ v3) → (L_X9_coloured_6 w o v1 v2 v3 (v4 + 0) (v5 + 1) h K)) ∧ (¬ ((h (v1 + 9) v5) ≠ v3) → ((0 ≤ ((v2 * 10) + v5) ∧ ((v2 * 10) + v5) < 80) ∧ (L_X9_coloured_6 w o v1 v2 v3 (v4 + (h (o + 2) ((v2 * 10) + v5))) (v5 + 1) h K))))))))))) : L_X9_coloured_6 w o v1 v2 v3 v4 v5 h K := by
  unfold L_X9_coloured_6
  refine J_iload 8 rfl 5 5 rfl (D_X9_coloured_0.at 4 rfl) ?_
  refine J_aload_n 9 rfl 1 1 rfl (Ob.rng hv1) (D_X9_coloured_0.at 5 rfl) ?_
  refine J_getF (ov := (v1 + 5)) (dd := 1005) 12 rfl fl_9_43 rfl (by decide) rfl hv1 (Ob.lt hv1) (D_X9_coloured_0.at 6 rfl) ?_
  refine J_getI (z := (h (v1 + 5) 1)) 15 rfl fl_9_47 rfl (of_7_2 hv1) (Ob.lt (of_7_2 hv1)) (D_X9_coloured_0.at 7 rfl) rfl ?_
  obtain ⟨s1, T⟩ := T
  obtain ⟨s2, T⟩ := T
  refine J_icmp_ge 18 rfl 55 s1 s2 (D_X9_coloured_0.at 8 rfl) (by decide) (fun c8 => ?_) (fun c8 => ?_)
  · replace T := T.1 c8
    refine J_iload 57 rfl 4 4 rfl (D_X9_coloured_0.at 28 rfl) ?_
    exact J_iret rfl (D_X9_coloured_0.at 29 rfl) T
  replace T := T.2 c8
  refine J_iload 20 rfl 4 4 rfl (D_X9_coloured_0.at 9 rfl) ?_
  refine J_aload_n 21 rfl 1 1 rfl (Ob.rng hv1) (D_X9_coloured_0.at 10 rfl) ?_
  refine J_getF (ov := (v1 + 9)) (dd := 1009) 24 rfl fl_9_55 rfl (by decide) rfl hv1 (Ob.lt hv1) (D_X9_coloured_0.at 11 rfl) ?_
  refine J_iload 26 rfl 5 5 rfl (D_X9_coloured_0.at 12 rfl) ?_
  obtain ⟨s3, T⟩ := T
  refine J_iald 27 rfl (of_7_5 hv1) (Ar.lt (of_7_5 hv1)) s3 (D_X9_coloured_0.at 13 rfl) ?_
  refine J_iload_n 28 rfl 3 3 rfl (D_X9_coloured_0.at 14 rfl) ?_
  obtain ⟨s4, T⟩ := T
  obtain ⟨s5, T⟩ := T
  refine J_icmp_ne 31 rfl 45 s4 s5 (D_X9_coloured_0.at 15 rfl) (by decide) (fun c7 => ?_) (fun c7 => ?_)
  · replace T := T.1 c7
    refine J_iconst 46 rfl (D_X9_coloured_0.at 23 rfl) ?_
    refine J_iadd 47 rfl (D_X9_coloured_0.at 24 rfl) ?_
    refine J_istore (lv' := [(4, vI (v4 + 0)), (0, vR o), (1, vR v1), (2, vI v2), (3, vI v3), (5, vI v5)]) 49 rfl 4 (by decide) rfl (D_X9_coloured_0.at 25 rfl) ?_
    refine J_iinc (v := (v5 + 1)) (lv' := [(5, vI (v5 + 1)), (4, vI (v4 + 0)), (0, vR o), (1, vR v1), (2, vI v2), (3, vI v3)]) 52 rfl 5 5 1 rfl rfl (by decide) rfl (D_X9_coloured_0.at 26 rfl) ?_
    refine J_goto 6 (D_X9_coloured_0.at 27 rfl) (by decide) ?_
    exact J_sub (lv' := [(0, vR o), (1, vR v1), (2, vI v2), (3, vI v3), (4, vI (v4 + 0)), (5, vI (v5 + 1))]) [2, 3, 4, 5, 1, 0] rfl T
  replace T := T.2 c7
  refine J_aload_n 32 rfl 0 0 rfl (Ob.rng ho) (D_X9_coloured_0.at 16 rfl) ?_
  refine J_getF (ov := (o + 2)) (dd := 1002) 35 rfl fl_9_15 rfl (by decide) rfl ho (Ob.lt ho) (D_X9_coloured_0.at 17 rfl) ?_
  refine J_iload_n 36 rfl 2 2 rfl (D_X9_coloured_0.at 18 rfl) ?_
  refine J_iload 38 rfl 5 5 rfl (D_X9_coloured_0.at 19 rfl) ?_
  refine J_callSN (d' := 1) (K1 := fun z h0 => rok (some .int) z → JG w true m_X9_coloured 2 NT NT 41 [(0, vR o), (1, vR v1), (2, vI v2), (3, vI v3), (4, vI v4), (5, vI v5)] [vI z, vR (o + 2), vI v4] h0 _) (sr := fun z => [vI z, vR (o + 2), vI v4]) (as := [vI v2, vI v5]) (st := [vR (o + 2), vI v4]) 41 rfl ok_X11_cell sm_X11_cell ml_9_39 rfl (by decide) ⟨Nat.le_refl _, Nat.le_refl _⟩ (Nat.le_of_ble_eq_true rfl) (D_X9_coloured_0.at 20 rfl) (fun _ => rfl) (CGm_of2 (by decide) (by decide) trivial (Nat.le_of_ble_eq_true rfl) ?_) (fun _ _ kq hb => kq hb)
  refine J_iload_n 1 rfl 0 0 rfl (D_X11_cell_0.at 0 rfl) ?_
  refine J_bipush 3 rfl ⟨by decide, by decide⟩ (D_X11_cell_0.at 1 rfl) ?_
  refine J_imul 4 rfl (D_X11_cell_0.at 2 rfl) ?_
  refine J_iload_n 5 rfl 1 1 rfl (D_X11_cell_0.at 3 rfl) ?_
  refine J_iadd 6 rfl (D_X11_cell_0.at 4 rfl) ?_
  refine J_iret rfl (D_X11_cell_0.at 5 rfl) (fun _ => ?_)
  obtain ⟨s6, T⟩ := T
  refine J_iald 42 rfl (of_9_1 ho) (Ar.lt (of_9_1 ho)) s6 (D_X9_coloured_0.at 21 rfl) ?_
  refine J_goto 46 (D_X9_coloured_0.at 22 rfl) (by decide) ?_
  refine J_iadd 47 rfl (D_X9_coloured_0.at 24 rfl) ?_
  refine J_istore (lv' := [(4, vI (v4 + (h (o + 2) ((v2 * 10) + v5)))), (0, vR o), (1, vR v1), (2, vI v2), (3, vI v3), (5, vI v5)]) 49 rfl 4 (by decide) rfl (D_X9_coloured_0.at 25 rfl) ?_
  refine J_iinc (v := (v5 + 1)) (lv' := [(5, vI (v5 + 1)), (4, vI (v4 + (h (o + 2) ((v2 * 10) + v5)))), (0, vR o), (1, vR v1), (2, vI v2), (3, vI v3)]) 52 rfl 5 5 1 rfl rfl (by decide) rfl (D_X9_coloured_0.at 26 rfl) ?_
  refine J_goto 6 (D_X9_coloured_0.at 27 rfl) (by decide) ?_
  exact J_sub (lv' := [(0, vR o), (1, vR v1), (2, vI v2), (3, vI v3), (4, vI (v4 + (h (o + 2) ((v2 * 10) + v5)))), (5, vI (v5 + 1))]) [2, 3, 4, 5, 1, 0] rfl T
