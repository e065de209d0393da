def C_X2_begin (w : Wd) (a1 a2 : Int) (h : Hp) (K : Int → Hp → Prop) : Prop := CGm w true m_X2_begin 1 NT NT [vR 5, vR a1, vI a2] h K
def C_X2_goOut (w : Wd) (h : Hp) (K : Int → Hp → Prop) : Prop := CGm w true m_X2_goOut 1 NT NT [vR 5] h K
def C_X8_isRoom (w : Wd) (a1 : Int) (h : Hp) (K : Int → Hp → Prop) : Prop := CGm w true m_X8_isRoom 2 NT NT [vR 60, vI a1] h K
def C_X2_put (w : Wd) (a1 : Int) (h : Hp) (K : Int → Hp → Prop) : Prop := CGm w true m_X2_put 2 NT NT [vR 5, vI a1] h K
def C_X2_goIn (w : Wd) (h : Hp) (K : Int → Hp → Prop) : Prop := CGm w true m_X2_goIn 2 NT NT [vR 5] h K
def C_X2_riverPart (w : Wd) (h : Hp) (K : Int → Hp → Prop) : Prop := CGm w true m_X2_riverPart 8 NT NT [vR 5] h K
def C_X2_kind (w : Wd) (h : Hp) (K : Int → Hp → Prop) : Prop := CGm w true m_X2_kind 8 NT NT [vR 5] h K
def C_X8_reaches (w : Wd) (h : Hp) (K : Int → Hp → Prop) : Prop := CGm w true m_X8_reaches 9 NT NT [vR 60] h K
def C_X8_slope (w : Wd) (h : Hp) (K : Int → Hp → Prop) : Prop := CGm w true m_X8_slope 9 NT NT [vR 60] h K
def C_X8_given (w : Wd) (a1 : Int) (h : Hp) (K : Int → Hp → Prop) : Prop := CGm w true m_X8_given 9 NT NT [vR 60, vR a1] h K
def C_X8_asked (w : Wd) (a1 : Int) (h : Hp) (K : Int → Hp → Prop) : Prop := CGm w true m_X8_asked 9 NT NT [vR 60, vR a1] h K
def C_X8_bankTold (w : Wd) (h : Hp) (K : Int → Hp → Prop) : Prop := CGm w true m_X8_bankTold 10 NT NT [vR 60] h K
def L_X8_bankTold_104 (w : Wd) (v1 : Int) (h : Hp) (K : Int → Hp → Prop) : Prop := JG w true m_X8_bankTold 10 NT NT 104 [(0, vR 60), (1, vI v1)] [] h K
def L_X8_bankTold_152 (w : Wd) (v1 : Int) (h : Hp) (K : Int → Hp → Prop) : Prop := JG w true m_X8_bankTold 10 NT NT 152 [(0, vR 60), (1, vI v1)] [] h K
def L_X8_bankTold_193 (w : Wd) (v1 : Int) (h : Hp) (K : Int → Hp → Prop) : Prop := JG w true m_X8_bankTold 10 NT NT 193 [(0, vR 60), (1, vI v1)] [] h K
def L_X8_bankTold_234 (w : Wd) (h : Hp) (K : Int → Hp → Prop) : Prop := JG w true m_X8_bankTold 10 NT NT 234 [(0, vR 60)] [] h K
def C_X2_sum (w : Wd) (e : Nat) (h : Hp) (K : Int → Hp → Prop) : Prop := CGm w true m_X2_sum (e + 1) NT NT [vR 5] h K
def L_X2_sum_7 (w : Wd) (e : Nat) (v1 v2 : Int) (h : Hp) (K : Int → Hp → Prop) : Prop := JG w true m_X2_sum (e + 1) NT NT 7 [(0, vR 5), (1, vI v1), (2, vI v2)] [] h K
def C_X2_product (w : Wd) (e : Nat) (h : Hp) (K : Int → Hp → Prop) : Prop := CGm w true m_X2_product (e + 1) NT NT [vR 5] h K
def L_X2_product_7 (w : Wd) (e : Nat) (v1 v2 : Int) (h : Hp) (K : Int → Hp → Prop) : Prop := JG w true m_X2_product (e + 1) NT NT 7 [(0, vR 5), (1, vI v1), (2, vI v2)] [] h K
def C_X2_part (w : Wd) (e : Nat) (h : Hp) (K : Int → Hp → Prop) : Prop := CGm w true m_X2_part (e + 1) NT NT [vR 5] h K
def C_X2_pair (w : Wd) (e : Nat) (h : Hp) (K : Int → Hp → Prop) : Prop := CGm w true m_X2_pair (e + 1) NT NT [vR 5] h K
def C_X2_askedPart (w : Wd) (e : Nat) (h : Hp) (K : Int → Hp → Prop) : Prop := CGm w true m_X2_askedPart (e + 1) NT NT [vR 5] h K
def C_X2_test (w : Wd) (e : Nat) (h : Hp) (K : Int → Hp → Prop) : Prop := CGm w true m_X2_test (e + 1) NT NT [vR 5] h K
def L_X2_test_7 (w : Wd) (e : Nat) (v1 v2 : Int) (h : Hp) (K : Int → Hp → Prop) : Prop := JG w true m_X2_test (e + 1) NT NT 7 [(0, vR 5), (1, vI v1), (2, vI v2)] [] h K
def C_X2_both (w : Wd) (e : Nat) (h : Hp) (K : Int → Hp → Prop) : Prop := CGm w true m_X2_both (e + 1) NT NT [vR 5] h K
def L_X2_both_7 (w : Wd) (e : Nat) (v1 v2 : Int) (h : Hp) (K : Int → Hp → Prop) : Prop := JG w true m_X2_both (e + 1) NT NT 7 [(0, vR 5), (1, vI v1), (2, vI v2)] [] h K
def C_X2_fact (w : Wd) (e : Nat) (h : Hp) (K : Int → Hp → Prop) : Prop := CGm w true m_X2_fact (e + 1) NT NT [vR 5] h K
def C_X2_comparison (w : Wd) (e : Nat) (h : Hp) (K : Int → Hp → Prop) : Prop := CGm w true m_X2_comparison (e + 1) NT NT [vR 5] h K
def C_X2_sumInto (w : Wd) (a1 : Int) (h : Hp) (K : Int → Hp → Prop) : Prop := CGm w true m_X2_sumInto 61 NT NT [vR 5, vR a1] h K
def C_X2_question (w : Wd) (h : Hp) (K : Int → Hp → Prop) : Prop := CGm w true m_X2_question 61 NT NT [vR 5] h K
def C_X8_statement (w : Wd) (h : Hp) (K : Int → Hp → Prop) : Prop := CGm w true m_X8_statement 62 NT NT [vR 60] h K
def L_X8_statement_419 (w : Wd) (h : Hp) (K : Int → Hp → Prop) : Prop := JG w true m_X8_statement 62 NT NT 419 [(0, vR 60)] [] h K
def L_X8_statement_313 (w : Wd) (h : Hp) (K : Int → Hp → Prop) : Prop := JG w true m_X8_statement 62 NT NT 313 [] [] h K
def L_X8_statement_253 (w : Wd) (h : Hp) (K : Int → Hp → Prop) : Prop := JG w true m_X8_statement 62 NT NT 253 [] [] h K
def L_X8_statement_193 (w : Wd) (h : Hp) (K : Int → Hp → Prop) : Prop := JG w true m_X8_statement 62 NT NT 193 [] [] h K
def L_X8_statement_129 (w : Wd) (h : Hp) (K : Int → Hp → Prop) : Prop := JG w true m_X8_statement 62 NT NT 129 [] [] h K
def L_X8_statement_72 (w : Wd) (h : Hp) (K : Int → Hp → Prop) : Prop := JG w true m_X8_statement 62 NT NT 72 [] [] h K
def C_X8_read (w : Wd) (a1 : Int) (h : Hp) (K : Int → Hp → Prop) : Prop := CGm w true m_X8_read 63 NT NT [vR 60, vR a1] h K
def L_X8_read_14 (w : Wd) (v2 : Int) (h : Hp) (K : Int → Hp → Prop) : Prop := JG w true m_X8_read 63 NT NT 14 [(0, vR 60), (2, vI v2)] [] h K
theorem c_X2_begin {w : Wd} {a1 a2 : Int} (ha1 : Ob 1 a1) (ha2 : a2 = 0 ∨ a2 = 1) {h : Hp} {K : Int → Hp → Prop} (T : ∀ h1 : Hp, h1 = hu h 5 2 a1 → (Ob 1 (h1 5 2)) ∧ (∀ h4 : Hp, h4 = hu h1 (h1 5 2) 1 0 → ∀ h6 : Hp, h6 = hu h4 5 3 0 → ∀ h8 : Hp, h8 = hu h6 5 4 a2 → K 0 h8)) : C_X2_begin w a1 a2 h K := by
  refine CGm_of2 (by decide) (by decide) trivial (Nat.le_of_ble_eq_true rfl) ?_
  refine J_aload_n 1 rfl 0 0 rfl ⟨by decide, by decide⟩ (D_X2_begin_0.at 0 rfl) ?_
  refine J_aload_n 2 rfl 1 1 rfl (Ob.rng ha1) (D_X2_begin_0.at 1 rfl) ?_
  refine J_putR 5 rfl fl_2_19 rfl rfl (Ob.rng ha1) ob_5 (Ob.lt ob_5) (D_X2_begin_0.at 2 rfl) (fun h1 e2 => ?_)
  replace T := T h1 e2
  refine J_aload_n 6 rfl 0 0 rfl ⟨by decide, by decide⟩ (D_X2_begin_0.at 3 rfl) ?_
  obtain ⟨s3, T⟩ := T
  refine J_getR (z := (h1 5 2)) 9 rfl fl_2_19 rfl ob_5 (Ob.lt ob_5) (D_X2_begin_0.at 4 rfl) rfl ?_
  refine J_iconst 10 rfl (D_X2_begin_0.at 5 rfl) ?_
  refine J_putI 13 rfl fl_2_45 rfl rfl s3 (Ob.lt s3) (D_X2_begin_0.at 6 rfl) (fun h4 e5 => ?_)
  replace T := T h4 e5
  refine J_aload_n 14 rfl 0 0 rfl ⟨by decide, by decide⟩ (D_X2_begin_0.at 7 rfl) ?_
  refine J_iconst 15 rfl (D_X2_begin_0.at 8 rfl) ?_
  refine J_putI 18 rfl fl_2_51 rfl rfl ob_5 (Ob.lt ob_5) (D_X2_begin_0.at 9 rfl) (fun h6 e7 => ?_)
  replace T := T h6 e7
  refine J_aload_n 19 rfl 0 0 rfl ⟨by decide, by decide⟩ (D_X2_begin_0.at 10 rfl) ?_
  refine J_iload_n 20 rfl 2 2 rfl (D_X2_begin_0.at 11 rfl) ?_
  refine J_putZ 23 rfl fl_2_54 rfl rfl ha2 ob_5 (Ob.lt ob_5) (D_X2_begin_0.at 12 rfl) (fun h8 e9 => ?_)
  replace T := T h8 e9
  exact J_vret rfl (D_X2_begin_0.at 13 rfl) T
theorem c_X2_goOut {w : Wd} {h : Hp} {K : Int → Hp → Prop} (T : ∀ h1 : Hp, h1 = hu h 5 3 ((h 5 3) - 1) → K 1 h1) : C_X2_goOut w h K := by
  refine CGm_of2 (by decide) (by decide) trivial (Nat.le_of_ble_eq_true rfl) ?_
  refine J_aload_n 1 rfl 0 0 rfl ⟨by decide, by decide⟩ (D_X2_goOut_0.at 0 rfl) ?_
  refine J_dup 2 rfl rfl (D_X2_goOut_0.at 1 rfl) ?_
  refine J_getI (z := (h 5 3)) 5 rfl fl_2_51 rfl ob_5 (Ob.lt ob_5) (D_X2_goOut_0.at 2 rfl) rfl ?_
  refine J_iconst 6 rfl (D_X2_goOut_0.at 3 rfl) ?_
  refine J_isub 7 rfl (D_X2_goOut_0.at 4 rfl) ?_
  refine J_putI 10 rfl fl_2_51 rfl rfl ob_5 (Ob.lt ob_5) (D_X2_goOut_0.at 5 rfl) (fun h1 e2 => ?_)
  replace T := T h1 e2
  refine J_iconst 11 rfl (D_X2_goOut_0.at 6 rfl) ?_
  exact J_zret rfl (Or.inr rfl) (D_X2_goOut_0.at 7 rfl) T
theorem c_X8_isRoom {w : Wd} {a1 : Int} (ha1 : a1 = 0 ∨ a1 = 1) {h : Hp} {K : Int → Hp → Prop} (T : ((a1 ≠ 0) → (K 1 h)) ∧ (¬ (a1 ≠ 0) → (C_X10_fail w 5 (h 1 3) h (fun r1 h2 => (r1 = 0 ∨ r1 = 1) → ((r1 = 0) → (K 0 h2)) ∧ (¬ (r1 = 0) → (K 1 h2)))))) : C_X8_isRoom w a1 h K := by
  refine CGm_of2 (by decide) (by decide) trivial (Nat.le_of_ble_eq_true rfl) ?_
  refine J_iload_n 1 rfl 1 1 rfl (D_X8_isRoom_0.at 0 rfl) ?_
  refine J_if_ne 4 rfl 22 (inR_b ha1) (D_X8_isRoom_0.at 1 rfl) (by decide) (fun c5 => ?_) (fun c5 => ?_)
  · replace T := T.1 c5
    refine J_iconst 23 rfl (D_X8_isRoom_0.at 10 rfl) ?_
    refine J_goto 27 (D_X8_isRoom_0.at 11 rfl) (by decide) ?_
    exact J_zret rfl (Or.inr rfl) (D_X8_isRoom_0.at 13 rfl) T
  replace T := T.2 c5
  refine J_aload_n 5 rfl 0 0 rfl ⟨by decide, by decide⟩ (D_X8_isRoom_0.at 2 rfl) ?_
  refine J_getF (ov := 1) (dd := 941) 8 rfl fl_8_9 rfl (by decide) rfl ob_60 (Ob.lt ob_60) (D_X8_isRoom_0.at 3 rfl) ?_
  refine J_iconst 9 rfl (D_X8_isRoom_0.at 4 rfl) ?_
  refine J_aload_n 10 rfl 0 0 rfl ⟨by decide, by decide⟩ (D_X8_isRoom_0.at 5 rfl) ?_
  refine J_getF (ov := 1) (dd := 941) 13 rfl fl_8_9 rfl (by decide) rfl ob_60 (Ob.lt ob_60) (D_X8_isRoom_0.at 6 rfl) ?_
  refine J_getI (z := (h 1 3)) 16 rfl fl_8_149 rfl ob_1 (Ob.lt ob_1) (D_X8_isRoom_0.at 7 rfl) rfl ?_
  refine J_callV (d' := 1) (sr := fun z => [vI z]) (as := [vI 5, vI (h 1 3)]) (st := []) (o := 1) 19 rfl ok_X10_fail im_X10_fail se_X10_fail ml_8_38 isC_10 ob_1 (Ob.lt ob_1) rfl (by decide) ⟨Nat.le_refl _, Nat.le_refl _⟩ (Nat.le_of_ble_eq_true rfl) (D_X8_isRoom_0.at 8 rfl) (fun _ => rfl) T (fun r1 h2 T b3 => ?_)
  replace T := T b3
  refine J_if_eq 22 rfl 26 (inR_b b3) (D_X8_isRoom_0.at 9 rfl) (by decide) (fun c4 => ?_) (fun c4 => ?_)
  · replace T := T.1 c4
    refine J_iconst 27 rfl (D_X8_isRoom_0.at 12 rfl) ?_
    exact J_zret rfl (Or.inl rfl) (D_X8_isRoom_0.at 13 rfl) T
  replace T := T.2 c4
  refine J_iconst 23 rfl (D_X8_isRoom_0.at 10 rfl) ?_
  refine J_goto 27 (D_X8_isRoom_0.at 11 rfl) (by decide) ?_
  exact J_zret rfl (Or.inr rfl) (D_X8_isRoom_0.at 13 rfl) T
theorem c_X2_put {w : Wd} {a1 : Int} {h : Hp} {K : Int → Hp → Prop} (T : (inR (h 1 4)) ∧ ((((h 1 4) = 0) → ((Ob 1 (h 5 2)) ∧ (C_X1_put w (h 5 2) a1 h (fun _ h4 => K 1 h4)))) ∧ (¬ ((h 1 4) = 0) → (K 0 h)))) : C_X2_put w a1 h K := by
  refine CGm_of2 (by decide) (by decide) trivial (Nat.le_of_ble_eq_true rfl) ?_
  refine J_aload_n 1 rfl 0 0 rfl ⟨by decide, by decide⟩ (D_X2_put_0.at 0 rfl) ?_
  refine J_getF (ov := 1) (dd := 996) 4 rfl fl_2_9 rfl (by decide) rfl ob_5 (Ob.lt ob_5) (D_X2_put_0.at 1 rfl) ?_
  refine J_getI (z := (h 1 4)) 7 rfl fl_2_163 rfl ob_1 (Ob.lt ob_1) (D_X2_put_0.at 2 rfl) rfl ?_
  obtain ⟨s1, T⟩ := T
  refine J_if_eq 10 rfl 12 s1 (D_X2_put_0.at 3 rfl) (by decide) (fun c6 => ?_) (fun c6 => ?_)
  · replace T := T.1 c6
    refine J_aload_n 13 rfl 0 0 rfl ⟨by decide, by decide⟩ (D_X2_put_0.at 6 rfl) ?_
    obtain ⟨s2, T⟩ := T
    refine J_getR (z := (h 5 2)) 16 rfl fl_2_19 rfl ob_5 (Ob.lt ob_5) (D_X2_put_0.at 7 rfl) rfl ?_
    refine J_iload_n 17 rfl 1 1 rfl (D_X2_put_0.at 8 rfl) ?_
    refine J_callV (d' := 1) (sr := fun z => []) (as := [vI a1]) (st := []) (o := (h 5 2)) 20 rfl ok_X1_put im_X1_put se_X1_put ml_2_166 isC_1 s2 (Ob.lt s2) rfl (by decide) ⟨Nat.le_refl _, Nat.le_refl _⟩ (Nat.le_of_ble_eq_true rfl) (D_X2_put_0.at 9 rfl) (fun _ => rfl) T (fun r3 h4 T b5 => ?_)
    refine J_iconst 21 rfl (D_X2_put_0.at 10 rfl) ?_
    exact J_zret rfl (Or.inr rfl) (D_X2_put_0.at 11 rfl) T
  replace T := T.2 c6
  refine J_iconst 11 rfl (D_X2_put_0.at 4 rfl) ?_
  exact J_zret rfl (Or.inl rfl) (D_X2_put_0.at 5 rfl) T
theorem c_X2_goIn {w : Wd} {h : Hp} {K : Int → Hp → Prop} (T : (inR (h 5 3)) ∧ ((((h 5 3) < 6) → (∀ h2 : Hp, h2 = hu h 5 3 ((h 5 3) + 1) → K 1 h2)) ∧ (¬ ((h 5 3) < 6) → (C_X10_fail w 4 (h 1 3) h (fun r4 h5 => (r4 = 0 ∨ r4 = 1) → K r4 h5))))) : C_X2_goIn w h K := by
  refine CGm_of2 (by decide) (by decide) trivial (Nat.le_of_ble_eq_true rfl) ?_
  refine J_aload_n 1 rfl 0 0 rfl ⟨by decide, by decide⟩ (D_X2_goIn_0.at 0 rfl) ?_
  refine J_getI (z := (h 5 3)) 4 rfl fl_2_51 rfl ob_5 (Ob.lt ob_5) (D_X2_goIn_0.at 1 rfl) rfl ?_
  refine J_bipush 6 rfl ⟨by decide, by decide⟩ (D_X2_goIn_0.at 2 rfl) ?_
  obtain ⟨s1, T⟩ := T
  refine J_icmp_lt 9 rfl 25 s1 ⟨by decide, by decide⟩ (D_X2_goIn_0.at 3 rfl) (by decide) (fun c7 => ?_) (fun c7 => ?_)
  · replace T := T.1 c7
    refine J_aload_n 26 rfl 0 0 rfl ⟨by decide, by decide⟩ (D_X2_goIn_0.at 12 rfl) ?_
    refine J_dup 27 rfl rfl (D_X2_goIn_0.at 13 rfl) ?_
    refine J_getI (z := (h 5 3)) 30 rfl fl_2_51 rfl ob_5 (Ob.lt ob_5) (D_X2_goIn_0.at 14 rfl) rfl ?_
    refine J_iconst 31 rfl (D_X2_goIn_0.at 15 rfl) ?_
    refine J_iadd 32 rfl (D_X2_goIn_0.at 16 rfl) ?_
    refine J_putI 35 rfl fl_2_51 rfl rfl ob_5 (Ob.lt ob_5) (D_X2_goIn_0.at 17 rfl) (fun h2 e3 => ?_)
    replace T := T h2 e3
    refine J_iconst 36 rfl (D_X2_goIn_0.at 18 rfl) ?_
    exact J_zret rfl (Or.inr rfl) (D_X2_goIn_0.at 19 rfl) T
  replace T := T.2 c7
  refine J_aload_n 10 rfl 0 0 rfl ⟨by decide, by decide⟩ (D_X2_goIn_0.at 4 rfl) ?_
  refine J_getF (ov := 1) (dd := 996) 13 rfl fl_2_9 rfl (by decide) rfl ob_5 (Ob.lt ob_5) (D_X2_goIn_0.at 5 rfl) ?_
  refine J_iconst 14 rfl (D_X2_goIn_0.at 6 rfl) ?_
  refine J_aload_n 15 rfl 0 0 rfl ⟨by decide, by decide⟩ (D_X2_goIn_0.at 7 rfl) ?_
  refine J_getF (ov := 1) (dd := 996) 18 rfl fl_2_9 rfl (by decide) rfl ob_5 (Ob.lt ob_5) (D_X2_goIn_0.at 8 rfl) ?_
  refine J_getI (z := (h 1 3)) 21 rfl fl_2_156 rfl ob_1 (Ob.lt ob_1) (D_X2_goIn_0.at 9 rfl) rfl ?_
  refine J_callV (d' := 1) (sr := fun z => [vI z]) (as := [vI 4, vI (h 1 3)]) (st := []) (o := 1) 24 rfl ok_X10_fail im_X10_fail se_X10_fail ml_2_159 isC_10 ob_1 (Ob.lt ob_1) rfl (by decide) ⟨Nat.le_refl _, Nat.le_refl _⟩ (Nat.le_of_ble_eq_true rfl) (D_X2_goIn_0.at 10 rfl) (fun _ => rfl) T (fun r4 h5 T b6 => ?_)
  replace T := T b6
  exact J_zret rfl b6 (D_X2_goIn_0.at 11 rfl) T
theorem c_X2_riverPart {w : Wd} {h : Hp} {K : Int → Hp → Prop} (T : C_X10_word w 1017 h (fun r1 h2 => (r1 = 0 ∨ r1 = 1) → ((r1 = 0) → (C_X10_word w 1009 h2 (fun r4 h5 => (r4 = 0 ∨ r4 = 1) → ((r4 = 0) → (C_X10_word w 1018 h5 (fun r7 h8 => (r7 = 0 ∨ r7 = 1) → ((r7 = 0) → (C_X10_word w 1019 h8 (fun r10 h11 => (r10 = 0 ∨ r10 = 1) → ((r10 = 0) → (C_X10_word w 1020 h11 (fun r13 h14 => (r13 = 0 ∨ r13 = 1) → ((r13 = 0) → (C_X10_word w 1021 h14 (fun r16 h17 => (r16 = 0 ∨ r16 = 1) → ((r16 = 0) → (C_X10_failHere w h17 (fun r19 h20 => (r19 = 0 ∨ r19 = 1) → K r19 h20))) ∧ (¬ (r16 = 0) → (C_X2_put w (-26) h17 (fun r22 h23 => (r22 = 0 ∨ r22 = 1) → K r22 h23)))))) ∧ (¬ (r13 = 0) → (C_X2_put w (-25) h14 (fun r26 h27 => (r26 = 0 ∨ r26 = 1) → K r26 h27)))))) ∧ (¬ (r10 = 0) → (C_X2_put w (-24) h11 (fun r30 h31 => (r30 = 0 ∨ r30 = 1) → K r30 h31)))))) ∧ (¬ (r7 = 0) → (C_X2_put w (-23) h8 (fun r34 h35 => (r34 = 0 ∨ r34 = 1) → K r34 h35)))))) ∧ (¬ (r4 = 0) → (C_X2_put w (-22) h5 (fun r38 h39 => (r38 = 0 ∨ r38 = 1) → K r38 h39)))))) ∧ (¬ (r1 = 0) → (C_X2_put w (-21) h2 (fun r42 h43 => (r42 = 0 ∨ r42 = 1) → K r42 h43))))) : C_X2_riverPart w h K := by
  refine CGm_of2 (by decide) (by decide) trivial (Nat.le_of_ble_eq_true rfl) ?_
  refine J_aload_n 1 rfl 0 0 rfl ⟨by decide, by decide⟩ (D_X2_riverPart_0.at 0 rfl) ?_
  refine J_getF (ov := 1) (dd := 996) 4 rfl fl_2_9 rfl (by decide) rfl ob_5 (Ob.lt ob_5) (D_X2_riverPart_0.at 1 rfl) ?_
  refine J_ldcsE (tx := "flow") 6 rfl 17 (v := 1017) rfl (by decide) (List.mem_of_getElem? (i := 18) rfl) (D_X2_riverPart_0.at 2 rfl) ?_
  refine J_callV (d' := 7) (sr := fun z => [vI z]) (as := [vR 1017]) (st := []) (o := 1) 9 rfl ok_X10_word im_X10_word se_X10_word ml_2_60 isC_10 ob_1 (Ob.lt ob_1) rfl (by decide) ⟨Nat.le_refl _, Nat.le_refl _⟩ (Nat.le_of_ble_eq_true rfl) (D_X2_riverPart_0.at 3 rfl) (fun _ => rfl) T (fun r1 h2 T b3 => ?_)
  replace T := T b3
  refine J_if_eq 12 rfl 19 (inR_b b3) (D_X2_riverPart_0.at 4 rfl) (by decide) (fun c45 => ?_) (fun c45 => ?_)
  · replace T := T.1 c45
    refine J_aload_n 20 rfl 0 0 rfl ⟨by decide, by decide⟩ (D_X2_riverPart_0.at 9 rfl) ?_
    refine J_getF (ov := 1) (dd := 996) 23 rfl fl_2_9 rfl (by decide) rfl ob_5 (Ob.lt ob_5) (D_X2_riverPart_0.at 10 rfl) ?_
    refine J_ldcsE (tx := "size") 25 rfl 9 (v := 1009) rfl (by decide) (List.mem_of_getElem? (i := 19) rfl) (D_X2_riverPart_0.at 11 rfl) ?_
    refine J_callV (d' := 7) (sr := fun z => [vI z]) (as := [vR 1009]) (st := []) (o := 1) 28 rfl ok_X10_word im_X10_word se_X10_word ml_2_60 isC_10 ob_1 (Ob.lt ob_1) rfl (by decide) ⟨Nat.le_refl _, Nat.le_refl _⟩ (Nat.le_of_ble_eq_true rfl) (D_X2_riverPart_0.at 12 rfl) (fun _ => rfl) T (fun r4 h5 T b6 => ?_)
    replace T := T b6
    refine J_if_eq 31 rfl 38 (inR_b b6) (D_X2_riverPart_0.at 13 rfl) (by decide) (fun c41 => ?_) (fun c41 => ?_)
    · replace T := T.1 c41
      refine J_aload_n 39 rfl 0 0 rfl ⟨by decide, by decide⟩ (D_X2_riverPart_0.at 18 rfl) ?_
      refine J_getF (ov := 1) (dd := 996) 42 rfl fl_2_9 rfl (by decide) rfl ob_5 (Ob.lt ob_5) (D_X2_riverPart_0.at 19 rfl) ?_
      refine J_ldcsE (tx := "held") 44 rfl 18 (v := 1018) rfl (by decide) (List.mem_of_getElem? (i := 20) rfl) (D_X2_riverPart_0.at 20 rfl) ?_
      refine J_callV (d' := 7) (sr := fun z => [vI z]) (as := [vR 1018]) (st := []) (o := 1) 47 rfl ok_X10_word im_X10_word se_X10_word ml_2_60 isC_10 ob_1 (Ob.lt ob_1) rfl (by decide) ⟨Nat.le_refl _, Nat.le_refl _⟩ (Nat.le_of_ble_eq_true rfl) (D_X2_riverPart_0.at 21 rfl) (fun _ => rfl) T (fun r7 h8 T b9 => ?_)
      replace T := T b9
      refine J_if_eq 50 rfl 57 (inR_b b9) (D_X2_riverPart_0.at 22 rfl) (by decide) (fun c37 => ?_) (fun c37 => ?_)
      · replace T := T.1 c37
        refine J_aload_n 58 rfl 0 0 rfl ⟨by decide, by decide⟩ (D_X2_riverPart_0.at 27 rfl) ?_
        refine J_getF (ov := 1) (dd := 996) 61 rfl fl_2_9 rfl (by decide) rfl ob_5 (Ob.lt ob_5) (D_X2_riverPart_0.at 28 rfl) ?_
        refine J_ldcsE (tx := "stones") 63 rfl 19 (v := 1019) rfl (by decide) (List.mem_of_getElem? (i := 21) rfl) (D_X2_riverPart_0.at 29 rfl) ?_
        refine J_callV (d' := 7) (sr := fun z => [vI z]) (as := [vR 1019]) (st := []) (o := 1) 66 rfl ok_X10_word im_X10_word se_X10_word ml_2_60 isC_10 ob_1 (Ob.lt ob_1) rfl (by decide) ⟨Nat.le_refl _, Nat.le_refl _⟩ (Nat.le_of_ble_eq_true rfl) (D_X2_riverPart_0.at 30 rfl) (fun _ => rfl) T (fun r10 h11 T b12 => ?_)
        replace T := T b12
        refine J_if_eq 69 rfl 76 (inR_b b12) (D_X2_riverPart_0.at 31 rfl) (by decide) (fun c33 => ?_) (fun c33 => ?_)
        · replace T := T.1 c33
          refine J_aload_n 77 rfl 0 0 rfl ⟨by decide, by decide⟩ (D_X2_riverPart_0.at 36 rfl) ?_
          refine J_getF (ov := 1) (dd := 996) 80 rfl fl_2_9 rfl (by decide) rfl ob_5 (Ob.lt ob_5) (D_X2_riverPart_0.at 37 rfl) ?_
          refine J_ldcsE (tx := "year") 82 rfl 20 (v := 1020) rfl (by decide) (List.mem_of_getElem? (i := 22) rfl) (D_X2_riverPart_0.at 38 rfl) ?_
          refine J_callV (d' := 7) (sr := fun z => [vI z]) (as := [vR 1020]) (st := []) (o := 1) 85 rfl ok_X10_word im_X10_word se_X10_word ml_2_60 isC_10 ob_1 (Ob.lt ob_1) rfl (by decide) ⟨Nat.le_refl _, Nat.le_refl _⟩ (Nat.le_of_ble_eq_true rfl) (D_X2_riverPart_0.at 39 rfl) (fun _ => rfl) T (fun r13 h14 T b15 => ?_)
          replace T := T b15
          refine J_if_eq 88 rfl 95 (inR_b b15) (D_X2_riverPart_0.at 40 rfl) (by decide) (fun c29 => ?_) (fun c29 => ?_)
          · replace T := T.1 c29
            refine J_aload_n 96 rfl 0 0 rfl ⟨by decide, by decide⟩ (D_X2_riverPart_0.at 45 rfl) ?_
            refine J_getF (ov := 1) (dd := 996) 99 rfl fl_2_9 rfl (by decide) rfl ob_5 (Ob.lt ob_5) (D_X2_riverPart_0.at 46 rfl) ?_
            refine J_ldcsE (tx := "place") 101 rfl 21 (v := 1021) rfl (by decide) (List.mem_of_getElem? (i := 23) rfl) (D_X2_riverPart_0.at 47 rfl) ?_
            refine J_callV (d' := 7) (sr := fun z => [vI z]) (as := [vR 1021]) (st := []) (o := 1) 104 rfl ok_X10_word im_X10_word se_X10_word ml_2_60 isC_10 ob_1 (Ob.lt ob_1) rfl (by decide) ⟨Nat.le_refl _, Nat.le_refl _⟩ (Nat.le_of_ble_eq_true rfl) (D_X2_riverPart_1.at 0 rfl) (fun _ => rfl) T (fun r16 h17 T b18 => ?_)
            replace T := T b18
            refine J_if_eq 107 rfl 114 (inR_b b18) (D_X2_riverPart_1.at 1 rfl) (by decide) (fun c25 => ?_) (fun c25 => ?_)
            · replace T := T.1 c25
              refine J_aload_n 115 rfl 0 0 rfl ⟨by decide, by decide⟩ (D_X2_riverPart_1.at 6 rfl) ?_
              refine J_getF (ov := 1) (dd := 996) 118 rfl fl_2_9 rfl (by decide) rfl ob_5 (Ob.lt ob_5) (D_X2_riverPart_1.at 7 rfl) ?_
              refine J_callV (d' := 2) (sr := fun z => [vI z]) (as := []) (st := []) (o := 1) 121 rfl ok_X10_failHere im_X10_failHere se_X10_failHere ml_2_42 isC_10 ob_1 (Ob.lt ob_1) rfl (by decide) ⟨Nat.le_refl _, Nat.le_refl _⟩ (Nat.le_of_ble_eq_true rfl) (D_X2_riverPart_1.at 8 rfl) (fun _ => rfl) T (fun r19 h20 T b21 => ?_)
              replace T := T b21
              exact J_zret rfl b21 (D_X2_riverPart_1.at 9 rfl) T
            replace T := T.2 c25
            refine J_aload_n 108 rfl 0 0 rfl ⟨by decide, by decide⟩ (D_X2_riverPart_1.at 2 rfl) ?_
            refine J_bipush 110 rfl ⟨by decide, by decide⟩ (D_X2_riverPart_1.at 3 rfl) ?_
            refine J_callV (d' := 2) (sr := fun z => [vI z]) (as := [vI (-26)]) (st := []) (o := 5) 113 rfl ok_X2_put im_X2_put se_X2_put ml_2_79 isC_2 ob_5 (Ob.lt ob_5) rfl (by decide) ⟨Nat.le_refl _, Nat.le_refl _⟩ (Nat.le_of_ble_eq_true rfl) (D_X2_riverPart_1.at 4 rfl) (fun _ => rfl) T (fun r22 h23 T b24 => ?_)
            replace T := T b24
            exact J_zret rfl b24 (D_X2_riverPart_1.at 5 rfl) T
          replace T := T.2 c29
          refine J_aload_n 89 rfl 0 0 rfl ⟨by decide, by decide⟩ (D_X2_riverPart_0.at 41 rfl) ?_
          refine J_bipush 91 rfl ⟨by decide, by decide⟩ (D_X2_riverPart_0.at 42 rfl) ?_
          refine J_callV (d' := 2) (sr := fun z => [vI z]) (as := [vI (-25)]) (st := []) (o := 5) 94 rfl ok_X2_put im_X2_put se_X2_put ml_2_79 isC_2 ob_5 (Ob.lt ob_5) rfl (by decide) ⟨Nat.le_refl _, Nat.le_refl _⟩ (Nat.le_of_ble_eq_true rfl) (D_X2_riverPart_0.at 43 rfl) (fun _ => rfl) T (fun r26 h27 T b28 => ?_)
          replace T := T b28
          exact J_zret rfl b28 (D_X2_riverPart_0.at 44 rfl) T
        replace T := T.2 c33
        refine J_aload_n 70 rfl 0 0 rfl ⟨by decide, by decide⟩ (D_X2_riverPart_0.at 32 rfl) ?_
        refine J_bipush 72 rfl ⟨by decide, by decide⟩ (D_X2_riverPart_0.at 33 rfl) ?_
        refine J_callV (d' := 2) (sr := fun z => [vI z]) (as := [vI (-24)]) (st := []) (o := 5) 75 rfl ok_X2_put im_X2_put se_X2_put ml_2_79 isC_2 ob_5 (Ob.lt ob_5) rfl (by decide) ⟨Nat.le_refl _, Nat.le_refl _⟩ (Nat.le_of_ble_eq_true rfl) (D_X2_riverPart_0.at 34 rfl) (fun _ => rfl) T (fun r30 h31 T b32 => ?_)
        replace T := T b32
        exact J_zret rfl b32 (D_X2_riverPart_0.at 35 rfl) T
      replace T := T.2 c37
      refine J_aload_n 51 rfl 0 0 rfl ⟨by decide, by decide⟩ (D_X2_riverPart_0.at 23 rfl) ?_
      refine J_bipush 53 rfl ⟨by decide, by decide⟩ (D_X2_riverPart_0.at 24 rfl) ?_
      refine J_callV (d' := 2) (sr := fun z => [vI z]) (as := [vI (-23)]) (st := []) (o := 5) 56 rfl ok_X2_put im_X2_put se_X2_put ml_2_79 isC_2 ob_5 (Ob.lt ob_5) rfl (by decide) ⟨Nat.le_refl _, Nat.le_refl _⟩ (Nat.le_of_ble_eq_true rfl) (D_X2_riverPart_0.at 25 rfl) (fun _ => rfl) T (fun r34 h35 T b36 => ?_)
      replace T := T b36
      exact J_zret rfl b36 (D_X2_riverPart_0.at 26 rfl) T
    replace T := T.2 c41
    refine J_aload_n 32 rfl 0 0 rfl ⟨by decide, by decide⟩ (D_X2_riverPart_0.at 14 rfl) ?_
    refine J_bipush 34 rfl ⟨by decide, by decide⟩ (D_X2_riverPart_0.at 15 rfl) ?_
    refine J_callV (d' := 2) (sr := fun z => [vI z]) (as := [vI (-22)]) (st := []) (o := 5) 37 rfl ok_X2_put im_X2_put se_X2_put ml_2_79 isC_2 ob_5 (Ob.lt ob_5) rfl (by decide) ⟨Nat.le_refl _, Nat.le_refl _⟩ (Nat.le_of_ble_eq_true rfl) (D_X2_riverPart_0.at 16 rfl) (fun _ => rfl) T (fun r38 h39 T b40 => ?_)
    replace T := T b40
    exact J_zret rfl b40 (D_X2_riverPart_0.at 17 rfl) T
  replace T := T.2 c45
  refine J_aload_n 13 rfl 0 0 rfl ⟨by decide, by decide⟩ (D_X2_riverPart_0.at 5 rfl) ?_
  refine J_bipush 15 rfl ⟨by decide, by decide⟩ (D_X2_riverPart_0.at 6 rfl) ?_
  refine J_callV (d' := 2) (sr := fun z => [vI z]) (as := [vI (-21)]) (st := []) (o := 5) 18 rfl ok_X2_put im_X2_put se_X2_put ml_2_79 isC_2 ob_5 (Ob.lt ob_5) rfl (by decide) ⟨Nat.le_refl _, Nat.le_refl _⟩ (Nat.le_of_ble_eq_true rfl) (D_X2_riverPart_0.at 7 rfl) (fun _ => rfl) T (fun r42 h43 T b44 => ?_)
  replace T := T b44
  exact J_zret rfl b44 (D_X2_riverPart_0.at 8 rfl) T
theorem c_X2_kind {w : Wd} {h : Hp} {K : Int → Hp → Prop} (T : C_X10_word w 1026 h (fun r1 h2 => (r1 = 0 ∨ r1 = 1) → ((r1 = 0) → (C_X10_word w 1027 h2 (fun r4 h5 => (r4 = 0 ∨ r4 = 1) → ((r4 = 0) → (C_X10_word w 1028 h5 (fun r7 h8 => (r7 = 0 ∨ r7 = 1) → ((r7 = 0) → (C_X10_word w 1029 h8 (fun r10 h11 => (r10 = 0 ∨ r10 = 1) → ((r10 = 0) → (C_X10_word w 1030 h11 (fun r13 h14 => (r13 = 0 ∨ r13 = 1) → ((r13 = 0) → (C_X10_word w 1031 h14 (fun r16 h17 => (r16 = 0 ∨ r16 = 1) → ((r16 = 0) → (C_X10_failHere w h17 (fun r19 h20 => (r19 = 0 ∨ r19 = 1) → K (-1) h20))) ∧ (¬ (r16 = 0) → (K 5 h17))))) ∧ (¬ (r13 = 0) → (K 4 h14))))) ∧ (¬ (r10 = 0) → (K 3 h11))))) ∧ (¬ (r7 = 0) → (K 2 h8))))) ∧ (¬ (r4 = 0) → (K 1 h5))))) ∧ (¬ (r1 = 0) → (K 0 h2)))) : C_X2_kind w h K := by
  refine CGm_of2 (by decide) (by decide) trivial (Nat.le_of_ble_eq_true rfl) ?_
  refine J_aload_n 1 rfl 0 0 rfl ⟨by decide, by decide⟩ (D_X2_kind_0.at 0 rfl) ?_
  refine J_getF (ov := 1) (dd := 996) 4 rfl fl_2_9 rfl (by decide) rfl ob_5 (Ob.lt ob_5) (D_X2_kind_0.at 1 rfl) ?_
  refine J_ldcsE (tx := "first") 6 rfl 26 (v := 1026) rfl (by decide) (List.mem_of_getElem? (i := 28) rfl) (D_X2_kind_0.at 2 rfl) ?_
  refine J_callV (d' := 7) (sr := fun z => [vI z]) (as := [vR 1026]) (st := []) (o := 1) 9 rfl ok_X10_word im_X10_word se_X10_word ml_2_60 isC_10 ob_1 (Ob.lt ob_1) rfl (by decide) ⟨Nat.le_refl _, Nat.le_refl _⟩ (Nat.le_of_ble_eq_true rfl) (D_X2_kind_0.at 3 rfl) (fun _ => rfl) T (fun r1 h2 T b3 => ?_)
  replace T := T b3
  refine J_if_eq 12 rfl 14 (inR_b b3) (D_X2_kind_0.at 4 rfl) (by decide) (fun c27 => ?_) (fun c27 => ?_)
  · replace T := T.1 c27
    refine J_aload_n 15 rfl 0 0 rfl ⟨by decide, by decide⟩ (D_X2_kind_0.at 7 rfl) ?_
    refine J_getF (ov := 1) (dd := 996) 18 rfl fl_2_9 rfl (by decide) rfl ob_5 (Ob.lt ob_5) (D_X2_kind_0.at 8 rfl) ?_
    refine J_ldcsE (tx := "last") 20 rfl 27 (v := 1027) rfl (by decide) (List.mem_of_getElem? (i := 29) rfl) (D_X2_kind_0.at 9 rfl) ?_
    refine J_callV (d' := 7) (sr := fun z => [vI z]) (as := [vR 1027]) (st := []) (o := 1) 23 rfl ok_X10_word im_X10_word se_X10_word ml_2_60 isC_10 ob_1 (Ob.lt ob_1) rfl (by decide) ⟨Nat.le_refl _, Nat.le_refl _⟩ (Nat.le_of_ble_eq_true rfl) (D_X2_kind_0.at 10 rfl) (fun _ => rfl) T (fun r4 h5 T b6 => ?_)
    replace T := T b6
    refine J_if_eq 26 rfl 28 (inR_b b6) (D_X2_kind_0.at 11 rfl) (by decide) (fun c26 => ?_) (fun c26 => ?_)
    · replace T := T.1 c26
      refine J_aload_n 29 rfl 0 0 rfl ⟨by decide, by decide⟩ (D_X2_kind_0.at 14 rfl) ?_
      refine J_getF (ov := 1) (dd := 996) 32 rfl fl_2_9 rfl (by decide) rfl ob_5 (Ob.lt ob_5) (D_X2_kind_0.at 15 rfl) ?_
      refine J_ldcsE (tx := "often") 34 rfl 28 (v := 1028) rfl (by decide) (List.mem_of_getElem? (i := 30) rfl) (D_X2_kind_0.at 16 rfl) ?_
      refine J_callV (d' := 7) (sr := fun z => [vI z]) (as := [vR 1028]) (st := []) (o := 1) 37 rfl ok_X10_word im_X10_word se_X10_word ml_2_60 isC_10 ob_1 (Ob.lt ob_1) rfl (by decide) ⟨Nat.le_refl _, Nat.le_refl _⟩ (Nat.le_of_ble_eq_true rfl) (D_X2_kind_0.at 17 rfl) (fun _ => rfl) T (fun r7 h8 T b9 => ?_)
      replace T := T b9
      refine J_if_eq 40 rfl 42 (inR_b b9) (D_X2_kind_0.at 18 rfl) (by decide) (fun c25 => ?_) (fun c25 => ?_)
      · replace T := T.1 c25
        refine J_aload_n 43 rfl 0 0 rfl ⟨by decide, by decide⟩ (D_X2_kind_0.at 21 rfl) ?_
        refine J_getF (ov := 1) (dd := 996) 46 rfl fl_2_9 rfl (by decide) rfl ob_5 (Ob.lt ob_5) (D_X2_kind_0.at 22 rfl) ?_
        refine J_ldcsE (tx := "total") 48 rfl 29 (v := 1029) rfl (by decide) (List.mem_of_getElem? (i := 31) rfl) (D_X2_kind_0.at 23 rfl) ?_
        refine J_callV (d' := 7) (sr := fun z => [vI z]) (as := [vR 1029]) (st := []) (o := 1) 51 rfl ok_X10_word im_X10_word se_X10_word ml_2_60 isC_10 ob_1 (Ob.lt ob_1) rfl (by decide) ⟨Nat.le_refl _, Nat.le_refl _⟩ (Nat.le_of_ble_eq_true rfl) (D_X2_kind_0.at 24 rfl) (fun _ => rfl) T (fun r10 h11 T b12 => ?_)
        replace T := T b12
        refine J_if_eq 54 rfl 56 (inR_b b12) (D_X2_kind_0.at 25 rfl) (by decide) (fun c24 => ?_) (fun c24 => ?_)
        · replace T := T.1 c24
          refine J_aload_n 57 rfl 0 0 rfl ⟨by decide, by decide⟩ (D_X2_kind_0.at 28 rfl) ?_
          refine J_getF (ov := 1) (dd := 996) 60 rfl fl_2_9 rfl (by decide) rfl ob_5 (Ob.lt ob_5) (D_X2_kind_0.at 29 rfl) ?_
          refine J_ldcsE (tx := "most") 62 rfl 30 (v := 1030) rfl (by decide) (List.mem_of_getElem? (i := 32) rfl) (D_X2_kind_0.at 30 rfl) ?_
          refine J_callV (d' := 7) (sr := fun z => [vI z]) (as := [vR 1030]) (st := []) (o := 1) 65 rfl ok_X10_word im_X10_word se_X10_word ml_2_60 isC_10 ob_1 (Ob.lt ob_1) rfl (by decide) ⟨Nat.le_refl _, Nat.le_refl _⟩ (Nat.le_of_ble_eq_true rfl) (D_X2_kind_0.at 31 rfl) (fun _ => rfl) T (fun r13 h14 T b15 => ?_)
          replace T := T b15
          refine J_if_eq 68 rfl 70 (inR_b b15) (D_X2_kind_0.at 32 rfl) (by decide) (fun c23 => ?_) (fun c23 => ?_)
          · replace T := T.1 c23
            refine J_aload_n 71 rfl 0 0 rfl ⟨by decide, by decide⟩ (D_X2_kind_0.at 35 rfl) ?_
            refine J_getF (ov := 1) (dd := 996) 74 rfl fl_2_9 rfl (by decide) rfl ob_5 (Ob.lt ob_5) (D_X2_kind_0.at 36 rfl) ?_
            refine J_ldcsE (tx := "least") 76 rfl 31 (v := 1031) rfl (by decide) (List.mem_of_getElem? (i := 33) rfl) (D_X2_kind_0.at 37 rfl) ?_
            refine J_callV (d' := 7) (sr := fun z => [vI z]) (as := [vR 1031]) (st := []) (o := 1) 79 rfl ok_X10_word im_X10_word se_X10_word ml_2_60 isC_10 ob_1 (Ob.lt ob_1) rfl (by decide) ⟨Nat.le_refl _, Nat.le_refl _⟩ (Nat.le_of_ble_eq_true rfl) (D_X2_kind_0.at 38 rfl) (fun _ => rfl) T (fun r16 h17 T b18 => ?_)
            replace T := T b18
            refine J_if_eq 82 rfl 84 (inR_b b18) (D_X2_kind_0.at 39 rfl) (by decide) (fun c22 => ?_) (fun c22 => ?_)
            · replace T := T.1 c22
              refine J_aload_n 85 rfl 0 0 rfl ⟨by decide, by decide⟩ (D_X2_kind_0.at 42 rfl) ?_
              refine J_getF (ov := 1) (dd := 996) 88 rfl fl_2_9 rfl (by decide) rfl ob_5 (Ob.lt ob_5) (D_X2_kind_0.at 43 rfl) ?_
              refine J_callV (d' := 2) (sr := fun z => [vI z]) (as := []) (st := []) (o := 1) 91 rfl ok_X10_failHere im_X10_failHere se_X10_failHere ml_2_42 isC_10 ob_1 (Ob.lt ob_1) rfl (by decide) ⟨Nat.le_refl _, Nat.le_refl _⟩ (Nat.le_of_ble_eq_true rfl) (D_X2_kind_0.at 44 rfl) (fun _ => rfl) T (fun r19 h20 T b21 => ?_)
              replace T := T b21
              refine J_pop 92 rfl rfl (D_X2_kind_0.at 45 rfl) ?_
              refine J_iconst 93 rfl (D_X2_kind_0.at 46 rfl) ?_
              exact J_iret rfl (D_X2_kind_0.at 47 rfl) T
            replace T := T.2 c22
            refine J_iconst 83 rfl (D_X2_kind_0.at 40 rfl) ?_
            exact J_iret rfl (D_X2_kind_0.at 41 rfl) T
          replace T := T.2 c23
          refine J_iconst 69 rfl (D_X2_kind_0.at 33 rfl) ?_
          exact J_iret rfl (D_X2_kind_0.at 34 rfl) T
        replace T := T.2 c24
        refine J_iconst 55 rfl (D_X2_kind_0.at 26 rfl) ?_
        exact J_iret rfl (D_X2_kind_0.at 27 rfl) T
      replace T := T.2 c25
      refine J_iconst 41 rfl (D_X2_kind_0.at 19 rfl) ?_
      exact J_iret rfl (D_X2_kind_0.at 20 rfl) T
    replace T := T.2 c26
    refine J_iconst 27 rfl (D_X2_kind_0.at 12 rfl) ?_
    exact J_iret rfl (D_X2_kind_0.at 13 rfl) T
  replace T := T.2 c27
  refine J_iconst 13 rfl (D_X2_kind_0.at 5 rfl) ?_
  exact J_iret rfl (D_X2_kind_0.at 6 rfl) T
theorem c_X8_reaches {w : Wd} {h : Hp} {K : Int → Hp → Prop} (T : C_X10_needWord w 1000 h (fun r1 h2 => (r1 = 0 ∨ r1 = 1) → ((r1 ≠ 0) → ((Ob 7 (h2 60 2)) ∧ (C_X10_number w 3 8 h2 (fun r5 h6 => (inR r5) ∧ (∀ h9 : Hp, h9 = hu h6 (h2 60 2) 12 (max 0 r5) → (inR (h9 1 4)) ∧ ((((h9 1 4) ≠ 0) → (K 0 h9)) ∧ (¬ ((h9 1 4) ≠ 0) → (K 1 h9)))))))) ∧ (¬ (r1 ≠ 0) → (K 0 h2)))) : C_X8_reaches w h K := by
  refine CGm_of2 (by decide) (by decide) trivial (Nat.le_of_ble_eq_true rfl) ?_
  refine J_aload_n 1 rfl 0 0 rfl ⟨by decide, by decide⟩ (D_X8_reaches_0.at 0 rfl) ?_
  refine J_getF (ov := 1) (dd := 941) 4 rfl fl_8_9 rfl (by decide) rfl ob_60 (Ob.lt ob_60) (D_X8_reaches_0.at 1 rfl) ?_
  refine J_ldcsE (tx := "river") 6 rfl 0 (v := 1000) rfl (by decide) (List.mem_of_getElem? (i := 0) rfl) (D_X8_reaches_0.at 2 rfl) ?_
  refine J_callV (d' := 8) (sr := fun z => [vI z]) (as := [vR 1000]) (st := []) (o := 1) 9 rfl ok_X10_needWord im_X10_needWord se_X10_needWord ml_8_60 isC_10 ob_1 (Ob.lt ob_1) rfl (by decide) ⟨Nat.le_refl _, Nat.le_refl _⟩ (Nat.le_of_ble_eq_true rfl) (D_X8_reaches_0.at 3 rfl) (fun _ => rfl) T (fun r1 h2 T b3 => ?_)
  replace T := T b3
  refine J_if_ne 12 rfl 14 (inR_b b3) (D_X8_reaches_0.at 4 rfl) (by decide) (fun c13 => ?_) (fun c13 => ?_)
  · replace T := T.1 c13
    refine J_aload_n 15 rfl 0 0 rfl ⟨by decide, by decide⟩ (D_X8_reaches_0.at 7 rfl) ?_
    obtain ⟨s4, T⟩ := T
    refine J_getR (z := (h2 60 2)) 18 rfl fl_8_19 rfl ob_60 (Ob.lt ob_60) (D_X8_reaches_0.at 8 rfl) rfl ?_
    refine J_iconst 19 rfl (D_X8_reaches_0.at 9 rfl) ?_
    refine J_aload_n 20 rfl 0 0 rfl ⟨by decide, by decide⟩ (D_X8_reaches_0.at 10 rfl) ?_
    refine J_getF (ov := 1) (dd := 941) 23 rfl fl_8_9 rfl (by decide) rfl ob_60 (Ob.lt ob_60) (D_X8_reaches_0.at 11 rfl) ?_
    refine J_iconst 24 rfl (D_X8_reaches_0.at 12 rfl) ?_
    refine J_bipush 26 rfl ⟨by decide, by decide⟩ (D_X8_reaches_0.at 13 rfl) ?_
    refine J_callV (d' := 3) (sr := fun z => [vI z, vI 0, vR (h2 60 2)]) (as := [vI 3, vI 8]) (st := [vI 0, vR (h2 60 2)]) (o := 1) 29 rfl ok_X10_number im_X10_number se_X10_number ml_8_64 isC_10 ob_1 (Ob.lt ob_1) rfl (by decide) ⟨Nat.le_refl _, Nat.le_refl _⟩ (Nat.le_of_ble_eq_true rfl) (D_X8_reaches_0.at 14 rfl) (fun _ => rfl) T (fun r5 h6 T b7 => ?_)
    obtain ⟨s8, T⟩ := T
    refine J_maxE 32 rfl ml_8_68 ⟨by decide, by decide⟩ s8 (Nat.le_of_ble_eq_true rfl) (by decide) (D_X8_reaches_0.at 15 rfl) ?_
    refine J_putI 35 rfl fl_8_73 rfl rfl s4 (Ob.lt s4) (D_X8_reaches_0.at 16 rfl) (fun h9 e10 => ?_)
    replace T := T h9 e10
    refine J_aload_n 36 rfl 0 0 rfl ⟨by decide, by decide⟩ (D_X8_reaches_0.at 17 rfl) ?_
    refine J_getF (ov := 1) (dd := 941) 39 rfl fl_8_9 rfl (by decide) rfl ob_60 (Ob.lt ob_60) (D_X8_reaches_0.at 18 rfl) ?_
    refine J_getI (z := (h9 1 4)) 42 rfl fl_8_75 rfl ob_1 (Ob.lt ob_1) (D_X8_reaches_0.at 19 rfl) rfl ?_
    obtain ⟨s11, T⟩ := T
    refine J_if_ne 45 rfl 49 s11 (D_X8_reaches_0.at 20 rfl) (by decide) (fun c12 => ?_) (fun c12 => ?_)
    · replace T := T.1 c12
      refine J_iconst 50 rfl (D_X8_reaches_0.at 23 rfl) ?_
      exact J_zret rfl (Or.inl rfl) (D_X8_reaches_0.at 24 rfl) T
    replace T := T.2 c12
    refine J_iconst 46 rfl (D_X8_reaches_0.at 21 rfl) ?_
    refine J_goto 50 (D_X8_reaches_0.at 22 rfl) (by decide) ?_
    exact J_zret rfl (Or.inr rfl) (D_X8_reaches_0.at 24 rfl) T
  replace T := T.2 c13
  refine J_iconst 13 rfl (D_X8_reaches_0.at 5 rfl) ?_
  exact J_zret rfl (Or.inl rfl) (D_X8_reaches_0.at 6 rfl) T
theorem c_X8_slope {w : Wd} {h : Hp} {K : Int → Hp → Prop} (T : C_X10_number w 0 9 h (fun r1 h2 => (inR r1) ∧ (((r1 = (-1)) → (K 0 h2)) ∧ (¬ (r1 = (-1)) → (C_X10_needWord w 1002 h2 (fun r5 h6 => (r5 = 0 ∨ r5 = 1) → ((r5 ≠ 0) → ((Ob 7 (h6 60 2)) ∧ (C_X10_number w 0 ((h6 (h6 60 2) 12) - 1) h6 (fun r9 h10 => (Ob 7 (h10 60 2)) ∧ (C_X7_hasReach w (h10 60 2) r9 h10 (fun r13 h14 => (r13 = 0 ∨ r13 = 1) → ((r13 ≠ 0) → ((Ob 7 (h14 60 2)) ∧ ((0 ≤ r9 ∧ r9 < 8) ∧ (∀ h18 : Hp, h18 = hu h14 ((h14 60 2) + 7) r9 r1 → K 1 h18)))) ∧ (¬ (r13 ≠ 0) → (K 0 h14)))))))) ∧ (¬ (r5 ≠ 0) → (K 0 h6)))))))) : C_X8_slope w h K := by
  refine CGm_of2 (by decide) (by decide) trivial (Nat.le_of_ble_eq_true rfl) ?_
  refine J_aload_n 1 rfl 0 0 rfl ⟨by decide, by decide⟩ (D_X8_slope_0.at 0 rfl) ?_
  refine J_getF (ov := 1) (dd := 941) 4 rfl fl_8_9 rfl (by decide) rfl ob_60 (Ob.lt ob_60) (D_X8_slope_0.at 1 rfl) ?_
  refine J_iconst 5 rfl (D_X8_slope_0.at 2 rfl) ?_
  refine J_bipush 7 rfl ⟨by decide, by decide⟩ (D_X8_slope_0.at 3 rfl) ?_
  refine J_callV (d' := 3) (sr := fun z => [vI z]) (as := [vI 0, vI 9]) (st := []) (o := 1) 10 rfl ok_X10_number im_X10_number se_X10_number ml_8_64 isC_10 ob_1 (Ob.lt ob_1) rfl (by decide) ⟨Nat.le_refl _, Nat.le_refl _⟩ (Nat.le_of_ble_eq_true rfl) (D_X8_slope_0.at 4 rfl) (fun _ => rfl) T (fun r1 h2 T b3 => ?_)
  refine J_istore_n (lv' := [(1, vI r1), (0, vR 60)]) 11 rfl 1 (by decide) rfl (D_X8_slope_0.at 5 rfl) ?_
  refine J_iload_n 12 rfl 1 0 rfl (D_X8_slope_0.at 6 rfl) ?_
  refine J_iconst 13 rfl (D_X8_slope_0.at 7 rfl) ?_
  obtain ⟨s4, T⟩ := T
  refine J_icmp_eq 16 rfl 28 s4 ⟨by decide, by decide⟩ (D_X8_slope_0.at 8 rfl) (by decide) (fun c22 => ?_) (fun c22 => ?_)
  · replace T := T.1 c22
    refine J_iconst 29 rfl (D_X8_slope_0.at 14 rfl) ?_
    exact J_zret rfl (Or.inl rfl) (D_X8_slope_0.at 15 rfl) T
  replace T := T.2 c22
  refine J_aload_n 17 rfl 0 1 rfl ⟨by decide, by decide⟩ (D_X8_slope_0.at 9 rfl) ?_
  refine J_getF (ov := 1) (dd := 941) 20 rfl fl_8_9 rfl (by decide) rfl ob_60 (Ob.lt ob_60) (D_X8_slope_0.at 10 rfl) ?_
  refine J_ldcsE (tx := "at") 22 rfl 2 (v := 1002) rfl (by decide) (List.mem_of_getElem? (i := 2) rfl) (D_X8_slope_0.at 11 rfl) ?_
  refine J_callV (d' := 8) (sr := fun z => [vI z]) (as := [vR 1002]) (st := []) (o := 1) 25 rfl ok_X10_needWord im_X10_needWord se_X10_needWord ml_8_60 isC_10 ob_1 (Ob.lt ob_1) rfl (by decide) ⟨Nat.le_refl _, Nat.le_refl _⟩ (Nat.le_of_ble_eq_true rfl) (D_X8_slope_0.at 12 rfl) (fun _ => rfl) T (fun r5 h6 T b7 => ?_)
  replace T := T b7
  refine J_if_ne 28 rfl 30 (inR_b b7) (D_X8_slope_0.at 13 rfl) (by decide) (fun c21 => ?_) (fun c21 => ?_)
  · replace T := T.1 c21
    refine J_aload_n 31 rfl 0 1 rfl ⟨by decide, by decide⟩ (D_X8_slope_0.at 16 rfl) ?_
    refine J_getF (ov := 1) (dd := 941) 34 rfl fl_8_9 rfl (by decide) rfl ob_60 (Ob.lt ob_60) (D_X8_slope_0.at 17 rfl) ?_
    refine J_iconst 35 rfl (D_X8_slope_0.at 18 rfl) ?_
    refine J_aload_n 36 rfl 0 1 rfl ⟨by decide, by decide⟩ (D_X8_slope_0.at 19 rfl) ?_
    obtain ⟨s8, T⟩ := T
    refine J_getR (z := (h6 60 2)) 39 rfl fl_8_19 rfl ob_60 (Ob.lt ob_60) (D_X8_slope_0.at 20 rfl) rfl ?_
    refine J_getI (z := (h6 (h6 60 2) 12)) 42 rfl fl_8_73 rfl s8 (Ob.lt s8) (D_X8_slope_0.at 21 rfl) rfl ?_
    refine J_iconst 43 rfl (D_X8_slope_0.at 22 rfl) ?_
    refine J_isub 44 rfl (D_X8_slope_0.at 23 rfl) ?_
    refine J_callV (d' := 3) (sr := fun z => [vI z]) (as := [vI 0, vI ((h6 (h6 60 2) 12) - 1)]) (st := []) (o := 1) 47 rfl ok_X10_number im_X10_number se_X10_number ml_8_64 isC_10 ob_1 (Ob.lt ob_1) rfl (by decide) ⟨Nat.le_refl _, Nat.le_refl _⟩ (Nat.le_of_ble_eq_true rfl) (D_X8_slope_0.at 24 rfl) (fun _ => rfl) T (fun r9 h10 T b11 => ?_)
    refine J_istore_n (lv' := [(2, vI r9), (1, vI r1), (0, vR 60)]) 48 rfl 2 (by decide) rfl (D_X8_slope_0.at 25 rfl) ?_
    refine J_aload_n 49 rfl 0 2 rfl ⟨by decide, by decide⟩ (D_X8_slope_0.at 26 rfl) ?_
    obtain ⟨s12, T⟩ := T
    refine J_getR (z := (h10 60 2)) 52 rfl fl_8_19 rfl ob_60 (Ob.lt ob_60) (D_X8_slope_0.at 27 rfl) rfl ?_
    refine J_iload_n 53 rfl 2 0 rfl (D_X8_slope_0.at 28 rfl) ?_
    refine J_callV (d' := 1) (sr := fun z => [vI z]) (as := [vI r9]) (st := []) (o := (h10 60 2)) 56 rfl ok_X7_hasReach im_X7_hasReach se_X7_hasReach ml_8_153 isC_7 s12 (Ob.lt s12) rfl (by decide) ⟨Nat.le_refl _, Nat.le_refl _⟩ (Nat.le_of_ble_eq_true rfl) (D_X8_slope_0.at 29 rfl) (fun _ => rfl) T (fun r13 h14 T b15 => ?_)
    replace T := T b15
    refine J_if_ne 59 rfl 61 (inR_b b15) (D_X8_slope_0.at 30 rfl) (by decide) (fun c20 => ?_) (fun c20 => ?_)
    · replace T := T.1 c20
      refine J_aload_n 62 rfl 0 2 rfl ⟨by decide, by decide⟩ (D_X8_slope_0.at 33 rfl) ?_
      obtain ⟨s16, T⟩ := T
      refine J_getR (z := (h14 60 2)) 65 rfl fl_8_19 rfl ob_60 (Ob.lt ob_60) (D_X8_slope_0.at 34 rfl) rfl ?_
      refine J_getF (ov := ((h14 60 2) + 7)) (dd := 1007) 68 rfl fl_8_157 rfl (by decide) rfl s16 (Ob.lt s16) (D_X8_slope_0.at 35 rfl) ?_
      refine J_iload_n 69 rfl 2 0 rfl (D_X8_slope_0.at 36 rfl) ?_
      refine J_iload_n 70 rfl 1 1 rfl (D_X8_slope_0.at 37 rfl) ?_
      obtain ⟨s17, T⟩ := T
      refine J_iastH 71 rfl (of_7_3 s16) (Ar.lt (of_7_3 s16)) s17 trivial (D_X8_slope_0.at 38 rfl) (fun h18 e19 => ?_)
      replace T := T h18 e19
      refine J_iconst 72 rfl (D_X8_slope_0.at 39 rfl) ?_
      exact J_zret rfl (Or.inr rfl) (D_X8_slope_0.at 40 rfl) T
    replace T := T.2 c20
    refine J_iconst 60 rfl (D_X8_slope_0.at 31 rfl) ?_
    exact J_zret rfl (Or.inl rfl) (D_X8_slope_0.at 32 rfl) T
  replace T := T.2 c21
  refine J_iconst 29 rfl (D_X8_slope_0.at 14 rfl) ?_
  exact J_zret rfl (Or.inl rfl) (D_X8_slope_0.at 15 rfl) T
theorem c_X8_given {w : Wd} {a1 : Int} (ha1 : Ob 4 a1) {na1 : Nat} (hAa1 : Ar 0 na1 (a1 + 1)) {h : Hp} {K : Int → Hp → Prop} (T : C_X10_name w h (fun r1 h2 => (inR r1) ∧ (((r1 ≠ 0) → ((Ob 7 (h2 60 2)) ∧ (C_X7_isNamed w (h2 60 2) r1 h2 (fun r6 h7 => (r6 = 0 ∨ r6 = 1) → ((r6 = 0) → (C_X4_add w a1 r1 h7 (fun _ h10 => K 1 h10))) ∧ (¬ (r6 = 0) → (C_X10_fail w 3 (h7 1 3) h7 (fun r12 h13 => (r12 = 0 ∨ r12 = 1) → K r12 h13))))))) ∧ (¬ (r1 ≠ 0) → (K 0 h2))))) : C_X8_given w a1 h K := by
  refine CGm_of2 (by decide) (by decide) trivial (Nat.le_of_ble_eq_true rfl) ?_
  refine J_aload_n 1 rfl 0 0 rfl ⟨by decide, by decide⟩ (D_X8_given_0.at 0 rfl) ?_
  refine J_getF (ov := 1) (dd := 941) 4 rfl fl_8_9 rfl (by decide) rfl ob_60 (Ob.lt ob_60) (D_X8_given_0.at 1 rfl) ?_
  refine J_callV (d' := 8) (sr := fun z => [vI z]) (as := []) (st := []) (o := 1) 7 rfl ok_X10_name im_X10_name se_X10_name ml_8_160 isC_10 ob_1 (Ob.lt ob_1) rfl (by decide) ⟨Nat.le_refl _, Nat.le_refl _⟩ (Nat.le_of_ble_eq_true rfl) (D_X8_given_0.at 2 rfl) (fun _ => rfl) T (fun r1 h2 T b3 => ?_)
  refine J_istore_n (lv' := [(2, vI r1), (0, vR 60), (1, vR a1)]) 8 rfl 2 (by decide) rfl (D_X8_given_0.at 3 rfl) ?_
  refine J_iload_n 9 rfl 2 0 rfl (D_X8_given_0.at 4 rfl) ?_
  obtain ⟨s4, T⟩ := T
  refine J_if_ne 12 rfl 14 s4 (D_X8_given_0.at 5 rfl) (by decide) (fun c16 => ?_) (fun c16 => ?_)
  · replace T := T.1 c16
    refine J_aload_n 15 rfl 0 1 rfl ⟨by decide, by decide⟩ (D_X8_given_0.at 8 rfl) ?_
    obtain ⟨s5, T⟩ := T
    refine J_getR (z := (h2 60 2)) 18 rfl fl_8_19 rfl ob_60 (Ob.lt ob_60) (D_X8_given_0.at 9 rfl) rfl ?_
    refine J_iload_n 19 rfl 2 0 rfl (D_X8_given_0.at 10 rfl) ?_
    refine J_callV (d' := 2) (sr := fun z => [vI z]) (as := [vI r1]) (st := []) (o := (h2 60 2)) 22 rfl ok_X7_isNamed im_X7_isNamed se_X7_isNamed ml_8_164 isC_7 s5 (Ob.lt s5) rfl (by decide) ⟨Nat.le_refl _, Nat.le_refl _⟩ (Nat.le_of_ble_eq_true rfl) (D_X8_given_0.at 11 rfl) (fun _ => rfl) T (fun r6 h7 T b8 => ?_)
    replace T := T b8
    refine J_if_eq 25 rfl 41 (inR_b b8) (D_X8_given_0.at 12 rfl) (by decide) (fun c15 => ?_) (fun c15 => ?_)
    · replace T := T.1 c15
      refine J_aload_n 42 rfl 1 2 rfl (Ob.rng ha1) (D_X8_given_0.at 21 rfl) ?_
      refine J_iload_n 43 rfl 2 0 rfl (D_X8_given_0.at 22 rfl) ?_
      refine J_callV (d' := 2) (sr := fun z => []) (as := [vI r1]) (st := []) (o := a1) 46 rfl ok_X4_add im_X4_add se_X4_add ml_8_167 isC_4 ha1 (Ob.lt ha1) rfl (by decide) ⟨Nat.le_refl _, Nat.le_refl _⟩ (Nat.le_of_ble_eq_true rfl) (D_X8_given_0.at 23 rfl) (fun _ => rfl) T (fun r9 h10 T b11 => ?_)
      refine J_iconst 47 rfl (D_X8_given_0.at 24 rfl) ?_
      exact J_zret rfl (Or.inr rfl) (D_X8_given_0.at 25 rfl) T
    replace T := T.2 c15
    refine J_aload_n 26 rfl 0 1 rfl ⟨by decide, by decide⟩ (D_X8_given_0.at 13 rfl) ?_
    refine J_getF (ov := 1) (dd := 941) 29 rfl fl_8_9 rfl (by decide) rfl ob_60 (Ob.lt ob_60) (D_X8_given_0.at 14 rfl) ?_
    refine J_iconst 30 rfl (D_X8_given_0.at 15 rfl) ?_
    refine J_aload_n 31 rfl 0 1 rfl ⟨by decide, by decide⟩ (D_X8_given_0.at 16 rfl) ?_
    refine J_getF (ov := 1) (dd := 941) 34 rfl fl_8_9 rfl (by decide) rfl ob_60 (Ob.lt ob_60) (D_X8_given_0.at 17 rfl) ?_
    refine J_getI (z := (h7 1 3)) 37 rfl fl_8_149 rfl ob_1 (Ob.lt ob_1) (D_X8_given_0.at 18 rfl) rfl ?_
    refine J_callV (d' := 1) (sr := fun z => [vI z]) (as := [vI 3, vI (h7 1 3)]) (st := []) (o := 1) 40 rfl ok_X10_fail im_X10_fail se_X10_fail ml_8_38 isC_10 ob_1 (Ob.lt ob_1) rfl (by decide) ⟨Nat.le_refl _, Nat.le_refl _⟩ (Nat.le_of_ble_eq_true rfl) (D_X8_given_0.at 19 rfl) (fun _ => rfl) T (fun r12 h13 T b14 => ?_)
    replace T := T b14
    exact J_zret rfl b14 (D_X8_given_0.at 20 rfl) T
  replace T := T.2 c16
  refine J_iconst 13 rfl (D_X8_given_0.at 6 rfl) ?_
  exact J_zret rfl (Or.inl rfl) (D_X8_given_0.at 7 rfl) T
theorem c_X8_asked {w : Wd} {a1 : Int} (ha1 : Ob 4 a1) {na1 : Nat} (hAa1 : Ar 0 na1 (a1 + 1)) {h : Hp} {K : Int → Hp → Prop} (T : C_X10_name w h (fun r1 h2 => (inR r1) ∧ (((r1 ≠ 0) → (C_X4_indexOf w a1 r1 h2 (fun r5 h6 => (inR r5) ∧ (((r5 ≠ (-1)) → (K r5 h6)) ∧ (¬ (r5 ≠ (-1)) → (C_X10_fail w 3 (h6 1 3) h6 (fun r9 h10 => (r9 = 0 ∨ r9 = 1) → K r5 h10))))))) ∧ (¬ (r1 ≠ 0) → (K (-1) h2))))) : C_X8_asked w a1 h K := by
  refine CGm_of2 (by decide) (by decide) trivial (Nat.le_of_ble_eq_true rfl) ?_
  refine J_aload_n 1 rfl 0 0 rfl ⟨by decide, by decide⟩ (D_X8_asked_0.at 0 rfl) ?_
  refine J_getF (ov := 1) (dd := 941) 4 rfl fl_8_9 rfl (by decide) rfl ob_60 (Ob.lt ob_60) (D_X8_asked_0.at 1 rfl) ?_
  refine J_callV (d' := 8) (sr := fun z => [vI z]) (as := []) (st := []) (o := 1) 7 rfl ok_X10_name im_X10_name se_X10_name ml_8_160 isC_10 ob_1 (Ob.lt ob_1) rfl (by decide) ⟨Nat.le_refl _, Nat.le_refl _⟩ (Nat.le_of_ble_eq_true rfl) (D_X8_asked_0.at 2 rfl) (fun _ => rfl) T (fun r1 h2 T b3 => ?_)
  refine J_istore_n (lv' := [(2, vI r1), (0, vR 60), (1, vR a1)]) 8 rfl 2 (by decide) rfl (D_X8_asked_0.at 3 rfl) ?_
  refine J_iload_n 9 rfl 2 0 rfl (D_X8_asked_0.at 4 rfl) ?_
  obtain ⟨s4, T⟩ := T
  refine J_if_ne 12 rfl 14 s4 (D_X8_asked_0.at 5 rfl) (by decide) (fun c13 => ?_) (fun c13 => ?_)
  · replace T := T.1 c13
    refine J_aload_n 15 rfl 1 2 rfl (Ob.rng ha1) (D_X8_asked_0.at 8 rfl) ?_
    refine J_iload_n 16 rfl 2 0 rfl (D_X8_asked_0.at 9 rfl) ?_
    refine J_callV (d' := 1) (sr := fun z => [vI z]) (as := [vI r1]) (st := []) (o := a1) 19 rfl ok_X4_indexOf im_X4_indexOf se_X4_indexOf ml_8_171 isC_4 ha1 (Ob.lt ha1) rfl (by decide) ⟨Nat.le_refl _, Nat.le_refl _⟩ (Nat.le_of_ble_eq_true rfl) (D_X8_asked_0.at 10 rfl) (fun _ => rfl) T (fun r5 h6 T b7 => ?_)
    refine J_istore_n (lv' := [(3, vI r5), (2, vI r1), (0, vR 60), (1, vR a1)]) 20 rfl 3 (by decide) rfl (D_X8_asked_0.at 11 rfl) ?_
    refine J_iload_n 21 rfl 3 0 rfl (D_X8_asked_0.at 12 rfl) ?_
    refine J_iconst 22 rfl (D_X8_asked_0.at 13 rfl) ?_
    obtain ⟨s8, T⟩ := T
    refine J_icmp_ne 25 rfl 41 s8 ⟨by decide, by decide⟩ (D_X8_asked_0.at 14 rfl) (by decide) (fun c12 => ?_) (fun c12 => ?_)
    · replace T := T.1 c12
      refine J_iload_n 42 rfl 3 0 rfl (D_X8_asked_0.at 23 rfl) ?_
      exact J_iret rfl (D_X8_asked_0.at 24 rfl) T
    replace T := T.2 c12
    refine J_aload_n 26 rfl 0 2 rfl ⟨by decide, by decide⟩ (D_X8_asked_0.at 15 rfl) ?_
    refine J_getF (ov := 1) (dd := 941) 29 rfl fl_8_9 rfl (by decide) rfl ob_60 (Ob.lt ob_60) (D_X8_asked_0.at 16 rfl) ?_
    refine J_iconst 30 rfl (D_X8_asked_0.at 17 rfl) ?_
    refine J_aload_n 31 rfl 0 2 rfl ⟨by decide, by decide⟩ (D_X8_asked_0.at 18 rfl) ?_
    refine J_getF (ov := 1) (dd := 941) 34 rfl fl_8_9 rfl (by decide) rfl ob_60 (Ob.lt ob_60) (D_X8_asked_0.at 19 rfl) ?_
    refine J_getI (z := (h6 1 3)) 37 rfl fl_8_149 rfl ob_1 (Ob.lt ob_1) (D_X8_asked_0.at 20 rfl) rfl ?_
    refine J_callV (d' := 1) (sr := fun z => [vI z]) (as := [vI 3, vI (h6 1 3)]) (st := []) (o := 1) 40 rfl ok_X10_fail im_X10_fail se_X10_fail ml_8_38 isC_10 ob_1 (Ob.lt ob_1) rfl (by decide) ⟨Nat.le_refl _, Nat.le_refl _⟩ (Nat.le_of_ble_eq_true rfl) (D_X8_asked_0.at 21 rfl) (fun _ => rfl) T (fun r9 h10 T b11 => ?_)
    replace T := T b11
    refine J_pop 41 rfl rfl (D_X8_asked_0.at 22 rfl) ?_
    refine J_iload_n 42 rfl 3 0 rfl (D_X8_asked_0.at 23 rfl) ?_
    exact J_iret rfl (D_X8_asked_0.at 24 rfl) T
  replace T := T.2 c13
  refine J_iconst 13 rfl (D_X8_asked_0.at 6 rfl) ?_
  exact J_iret rfl (D_X8_asked_0.at 7 rfl) T
theorem c_X8_bankTold {w : Wd} {h : Hp} {K : Int → Hp → Prop} (T : (Ob 7 (h 60 2)) ∧ ((Ob 7 (h 60 2)) ∧ (C_X7_hasBank w (h 60 2) ((h ((h 60 2) + 5) 1) - 1) h (fun r3 h4 => (r3 = 0 ∨ r3 = 1) → ((r3 ≠ 0) → ((Ob 7 (h4 60 2)) ∧ (C_X10_needWord w 1007 h4 (fun r7 h8 => (r7 = 0 ∨ r7 = 1) → ((r7 = 0) → ((0 ≤ ((h ((h 60 2) + 5) 1) - 1) ∧ ((h ((h 60 2) + 5) 1) - 1) < 10) ∧ (∀ h11 : Hp, h11 = hu h8 ((h4 60 2) + 8) ((h ((h 60 2) + 5) 1) - 1) (-1) → (inR (h11 1 4)) ∧ ((((h11 1 4) ≠ 0) → (L_X8_bankTold_104 w ((h ((h 60 2) + 5) 1) - 1) h11 K)) ∧ (¬ ((h11 1 4) ≠ 0) → (C_X10_needWord w 1005 h11 (fun r14 h15 => (r14 = 0 ∨ r14 = 1) → ((r14 = 0) → (L_X8_bankTold_104 w ((h ((h 60 2) + 5) 1) - 1) h15 K)) ∧ (¬ (r14 = 0) → ((Ob 7 (h15 60 2)) ∧ ((Ob 7 (h15 60 2)) ∧ (C_X8_asked w ((h15 60 2) + 3) h15 (fun r19 h20 => (0 ≤ ((h ((h 60 2) + 5) 1) - 1) ∧ ((h ((h 60 2) + 5) 1) - 1) < 10) ∧ (∀ h23 : Hp, h23 = hu h20 ((h15 60 2) + 9) ((h ((h 60 2) + 5) 1) - 1) r19 → L_X8_bankTold_104 w ((h ((h 60 2) + 5) 1) - 1) h23 K))))))))))))) ∧ (¬ (r7 = 0) → ((Ob 7 (h8 60 2)) ∧ (C_X8_asked w ((h8 60 2) + 1) h8 (fun r28 h29 => (0 ≤ ((h ((h 60 2) + 5) 1) - 1) ∧ ((h ((h 60 2) + 5) 1) - 1) < 10) ∧ (∀ h32 : Hp, h32 = hu h29 ((h4 60 2) + 8) ((h ((h 60 2) + 5) 1) - 1) r28 → (inR (h32 1 4)) ∧ ((((h32 1 4) ≠ 0) → (L_X8_bankTold_104 w ((h ((h 60 2) + 5) 1) - 1) h32 K)) ∧ (¬ ((h32 1 4) ≠ 0) → (C_X10_needWord w 1005 h32 (fun r35 h36 => (r35 = 0 ∨ r35 = 1) → ((r35 = 0) → (L_X8_bankTold_104 w ((h ((h 60 2) + 5) 1) - 1) h36 K)) ∧ (¬ (r35 = 0) → ((Ob 7 (h36 60 2)) ∧ ((Ob 7 (h36 60 2)) ∧ (C_X8_asked w ((h36 60 2) + 3) h36 (fun r40 h41 => (0 ≤ ((h ((h 60 2) + 5) 1) - 1) ∧ ((h ((h 60 2) + 5) 1) - 1) < 10) ∧ (∀ h44 : Hp, h44 = hu h41 ((h36 60 2) + 9) ((h ((h 60 2) + 5) 1) - 1) r40 → L_X8_bankTold_104 w ((h ((h 60 2) + 5) 1) - 1) h44 K))))))))))))))))))) ∧ (¬ (r3 ≠ 0) → (K 0 h4)))))) : C_X8_bankTold w h K := by
  refine CGm_of2 (by decide) (by decide) trivial (Nat.le_of_ble_eq_true rfl) ?_
  refine J_aload_n 1 rfl 0 0 rfl ⟨by decide, by decide⟩ (D_X8_bankTold_0.at 0 rfl) ?_
  obtain ⟨s1, T⟩ := T
  refine J_getR (z := (h 60 2)) 4 rfl fl_8_19 rfl ob_60 (Ob.lt ob_60) (D_X8_bankTold_0.at 1 rfl) rfl ?_
  refine J_getF (ov := ((h 60 2) + 5)) (dd := 1005) 7 rfl fl_8_111 rfl (by decide) rfl s1 (Ob.lt s1) (D_X8_bankTold_0.at 2 rfl) ?_
  refine J_getI (z := (h ((h 60 2) + 5) 1)) 10 rfl fl_8_175 rfl (of_7_2 s1) (Ob.lt (of_7_2 s1)) (D_X8_bankTold_0.at 3 rfl) rfl ?_
  refine J_iconst 11 rfl (D_X8_bankTold_0.at 4 rfl) ?_
  refine J_isub 12 rfl (D_X8_bankTold_0.at 5 rfl) ?_
  refine J_istore_n (lv' := [(1, vI ((h ((h 60 2) + 5) 1) - 1)), (0, vR 60)]) 13 rfl 1 (by decide) rfl (D_X8_bankTold_0.at 6 rfl) ?_
  refine J_aload_n 14 rfl 0 1 rfl ⟨by decide, by decide⟩ (D_X8_bankTold_0.at 7 rfl) ?_
  obtain ⟨s2, T⟩ := T
  refine J_getR (z := (h 60 2)) 17 rfl fl_8_19 rfl ob_60 (Ob.lt ob_60) (D_X8_bankTold_0.at 8 rfl) rfl ?_
  refine J_iload_n 18 rfl 1 0 rfl (D_X8_bankTold_0.at 9 rfl) ?_
  refine J_callV (d' := 1) (sr := fun z => [vI z]) (as := [vI ((h ((h 60 2) + 5) 1) - 1)]) (st := []) (o := (h 60 2)) 21 rfl ok_X7_hasBank im_X7_hasBank se_X7_hasBank ml_8_178 isC_7 s2 (Ob.lt s2) rfl (by decide) ⟨Nat.le_refl _, Nat.le_refl _⟩ (Nat.le_of_ble_eq_true rfl) (D_X8_bankTold_0.at 10 rfl) (fun _ => rfl) T (fun r3 h4 T b5 => ?_)
  replace T := T b5
  refine J_if_ne 24 rfl 26 (inR_b b5) (D_X8_bankTold_0.at 11 rfl) (by decide) (fun c49 => ?_) (fun c49 => ?_)
  · replace T := T.1 c49
    refine J_aload_n 27 rfl 0 1 rfl ⟨by decide, by decide⟩ (D_X8_bankTold_0.at 14 rfl) ?_
    obtain ⟨s6, T⟩ := T
    refine J_getR (z := (h4 60 2)) 30 rfl fl_8_19 rfl ob_60 (Ob.lt ob_60) (D_X8_bankTold_0.at 15 rfl) rfl ?_
    refine J_getF (ov := ((h4 60 2) + 8)) (dd := 1008) 33 rfl fl_8_181 rfl (by decide) rfl s6 (Ob.lt s6) (D_X8_bankTold_0.at 16 rfl) ?_
    refine J_iload_n 34 rfl 1 0 rfl (D_X8_bankTold_0.at 17 rfl) ?_
    refine J_aload_n 35 rfl 0 1 rfl ⟨by decide, by decide⟩ (D_X8_bankTold_0.at 18 rfl) ?_
    refine J_getF (ov := 1) (dd := 941) 38 rfl fl_8_9 rfl (by decide) rfl ob_60 (Ob.lt ob_60) (D_X8_bankTold_0.at 19 rfl) ?_
    refine J_ldcsE (tx := "of") 40 rfl 7 (v := 1007) rfl (by decide) (List.mem_of_getElem? (i := 7) rfl) (D_X8_bankTold_0.at 20 rfl) ?_
    refine J_callV (d' := 8) (sr := fun z => [vI z, vI ((h ((h 60 2) + 5) 1) - 1), vR ((h4 60 2) + 8)]) (as := [vR 1007]) (st := [vI ((h ((h 60 2) + 5) 1) - 1), vR ((h4 60 2) + 8)]) (o := 1) 43 rfl ok_X10_needWord im_X10_needWord se_X10_needWord ml_8_60 isC_10 ob_1 (Ob.lt ob_1) rfl (by decide) ⟨Nat.le_refl _, Nat.le_refl _⟩ (Nat.le_of_ble_eq_true rfl) (D_X8_bankTold_0.at 21 rfl) (fun _ => rfl) T (fun r7 h8 T b9 => ?_)
    replace T := T b9
    refine J_if_eq 46 rfl 60 (inR_b b9) (D_X8_bankTold_0.at 22 rfl) (by decide) (fun c48 => ?_) (fun c48 => ?_)
    · replace T := T.1 c48
      refine J_iconst 61 rfl (D_X8_bankTold_0.at 29 rfl) ?_
      obtain ⟨s10, T⟩ := T
      refine J_iastH 62 rfl (of_7_4 s6) (Ar.lt (of_7_4 s6)) s10 trivial (D_X8_bankTold_0.at 30 rfl) (fun h11 e12 => ?_)
      replace T := T h11 e12
      refine J_aload_n 63 rfl 0 1 rfl ⟨by decide, by decide⟩ (D_X8_bankTold_0.at 31 rfl) ?_
      refine J_getF (ov := 1) (dd := 941) 66 rfl fl_8_9 rfl (by decide) rfl ob_60 (Ob.lt ob_60) (D_X8_bankTold_0.at 32 rfl) ?_
      refine J_getI (z := (h11 1 4)) 69 rfl fl_8_75 rfl ob_1 (Ob.lt ob_1) (D_X8_bankTold_0.at 33 rfl) rfl ?_
      obtain ⟨s13, T⟩ := T
      refine J_if_ne 72 rfl 104 s13 (D_X8_bankTold_0.at 34 rfl) (by decide) (fun c26 => ?_) (fun c26 => ?_)
      · replace T := T.1 c26
        exact J_sub (lv' := [(0, vR 60), (1, vI ((h ((h 60 2) + 5) 1) - 1))]) [1, 0] rfl T
      replace T := T.2 c26
      refine J_aload_n 73 rfl 0 1 rfl ⟨by decide, by decide⟩ (D_X8_bankTold_0.at 35 rfl) ?_
      refine J_getF (ov := 1) (dd := 941) 76 rfl fl_8_9 rfl (by decide) rfl ob_60 (Ob.lt ob_60) (D_X8_bankTold_0.at 36 rfl) ?_
      refine J_ldcsE (tx := "colour") 78 rfl 5 (v := 1005) rfl (by decide) (List.mem_of_getElem? (i := 5) rfl) (D_X8_bankTold_0.at 37 rfl) ?_
      refine J_callV (d' := 8) (sr := fun z => [vI z]) (as := [vR 1005]) (st := []) (o := 1) 81 rfl ok_X10_needWord im_X10_needWord se_X10_needWord ml_8_60 isC_10 ob_1 (Ob.lt ob_1) rfl (by decide) ⟨Nat.le_refl _, Nat.le_refl _⟩ (Nat.le_of_ble_eq_true rfl) (D_X8_bankTold_0.at 38 rfl) (fun _ => rfl) T (fun r14 h15 T b16 => ?_)
      replace T := T b16
      refine J_if_eq 84 rfl 104 (inR_b b16) (D_X8_bankTold_0.at 39 rfl) (by decide) (fun c25 => ?_) (fun c25 => ?_)
      · replace T := T.1 c25
        exact J_sub (lv' := [(0, vR 60), (1, vI ((h ((h 60 2) + 5) 1) - 1))]) [1, 0] rfl T
      replace T := T.2 c25
      refine J_aload_n 85 rfl 0 1 rfl ⟨by decide, by decide⟩ (D_X8_bankTold_0.at 40 rfl) ?_
      obtain ⟨s17, T⟩ := T
      refine J_getR (z := (h15 60 2)) 88 rfl fl_8_19 rfl ob_60 (Ob.lt ob_60) (D_X8_bankTold_0.at 41 rfl) rfl ?_
      refine J_getF (ov := ((h15 60 2) + 9)) (dd := 1009) 91 rfl fl_8_189 rfl (by decide) rfl s17 (Ob.lt s17) (D_X8_bankTold_0.at 42 rfl) ?_
      refine J_iload_n 92 rfl 1 0 rfl (D_X8_bankTold_0.at 43 rfl) ?_
      refine J_aload_n 93 rfl 0 1 rfl ⟨by decide, by decide⟩ (D_X8_bankTold_0.at 44 rfl) ?_
      refine J_aload_n 94 rfl 0 1 rfl ⟨by decide, by decide⟩ (D_X8_bankTold_0.at 45 rfl) ?_
      obtain ⟨s18, T⟩ := T
      refine J_getR (z := (h15 60 2)) 97 rfl fl_8_19 rfl ob_60 (Ob.lt ob_60) (D_X8_bankTold_0.at 46 rfl) rfl ?_
      refine J_getF (ov := ((h15 60 2) + 3)) (dd := 1003) 100 rfl fl_8_106 rfl (by decide) rfl s18 (Ob.lt s18) (D_X8_bankTold_0.at 47 rfl) ?_
      refine J_callV (d' := 9) (sr := fun z => [vI z, vI ((h ((h 60 2) + 5) 1) - 1), vR ((h15 60 2) + 9)]) (as := [vR ((h15 60 2) + 3)]) (st := [vI ((h ((h 60 2) + 5) 1) - 1), vR ((h15 60 2) + 9)]) (o := 60) 103 rfl ok_X8_asked im_X8_asked se_X8_asked ml_8_185 isC_8 ob_60 (Ob.lt ob_60) rfl (by decide) ⟨Nat.le_refl _, Nat.le_refl _⟩ (Nat.le_of_ble_eq_true rfl) (D_X8_bankTold_1.at 0 rfl) (fun _ => rfl) T (fun r19 h20 T b21 => ?_)
      obtain ⟨s22, T⟩ := T
      refine J_iastH 104 rfl (of_7_5 s17) (Ar.lt (of_7_5 s17)) s22 trivial (D_X8_bankTold_1.at 1 rfl) (fun h23 e24 => ?_)
      replace T := T h23 e24
      exact J_sub (lv' := [(0, vR 60), (1, vI ((h ((h 60 2) + 5) 1) - 1))]) [1, 0] rfl T
    replace T := T.2 c48
    refine J_aload_n 47 rfl 0 1 rfl ⟨by decide, by decide⟩ (D_X8_bankTold_0.at 23 rfl) ?_
    refine J_aload_n 48 rfl 0 1 rfl ⟨by decide, by decide⟩ (D_X8_bankTold_0.at 24 rfl) ?_
    obtain ⟨s27, T⟩ := T
    refine J_getR (z := (h8 60 2)) 51 rfl fl_8_19 rfl ob_60 (Ob.lt ob_60) (D_X8_bankTold_0.at 25 rfl) rfl ?_
    refine J_getF (ov := ((h8 60 2) + 1)) (dd := 1001) 54 rfl fl_8_87 rfl (by decide) rfl s27 (Ob.lt s27) (D_X8_bankTold_0.at 26 rfl) ?_
    refine J_callV (d' := 9) (sr := fun z => [vI z, vI ((h ((h 60 2) + 5) 1) - 1), vR ((h4 60 2) + 8)]) (as := [vR ((h8 60 2) + 1)]) (st := [vI ((h ((h 60 2) + 5) 1) - 1), vR ((h4 60 2) + 8)]) (o := 60) 57 rfl ok_X8_asked im_X8_asked se_X8_asked ml_8_185 isC_8 ob_60 (Ob.lt ob_60) rfl (by decide) ⟨Nat.le_refl _, Nat.le_refl _⟩ (Nat.le_of_ble_eq_true rfl) (D_X8_bankTold_0.at 27 rfl) (fun _ => rfl) T (fun r28 h29 T b30 => ?_)
    refine J_goto 61 (D_X8_bankTold_0.at 28 rfl) (by decide) ?_
    obtain ⟨s31, T⟩ := T
    refine J_iastH 62 rfl (of_7_4 s6) (Ar.lt (of_7_4 s6)) s31 trivial (D_X8_bankTold_0.at 30 rfl) (fun h32 e33 => ?_)
    replace T := T h32 e33
    refine J_aload_n 63 rfl 0 1 rfl ⟨by decide, by decide⟩ (D_X8_bankTold_0.at 31 rfl) ?_
    refine J_getF (ov := 1) (dd := 941) 66 rfl fl_8_9 rfl (by decide) rfl ob_60 (Ob.lt ob_60) (D_X8_bankTold_0.at 32 rfl) ?_
    refine J_getI (z := (h32 1 4)) 69 rfl fl_8_75 rfl ob_1 (Ob.lt ob_1) (D_X8_bankTold_0.at 33 rfl) rfl ?_
    obtain ⟨s34, T⟩ := T
    refine J_if_ne 72 rfl 104 s34 (D_X8_bankTold_0.at 34 rfl) (by decide) (fun c47 => ?_) (fun c47 => ?_)
    · replace T := T.1 c47
      exact J_sub (lv' := [(0, vR 60), (1, vI ((h ((h 60 2) + 5) 1) - 1))]) [1, 0] rfl T
    replace T := T.2 c47
    refine J_aload_n 73 rfl 0 1 rfl ⟨by decide, by decide⟩ (D_X8_bankTold_0.at 35 rfl) ?_
    refine J_getF (ov := 1) (dd := 941) 76 rfl fl_8_9 rfl (by decide) rfl ob_60 (Ob.lt ob_60) (D_X8_bankTold_0.at 36 rfl) ?_
    refine J_ldcsE (tx := "colour") 78 rfl 5 (v := 1005) rfl (by decide) (List.mem_of_getElem? (i := 5) rfl) (D_X8_bankTold_0.at 37 rfl) ?_
    refine J_callV (d' := 8) (sr := fun z => [vI z]) (as := [vR 1005]) (st := []) (o := 1) 81 rfl ok_X10_needWord im_X10_needWord se_X10_needWord ml_8_60 isC_10 ob_1 (Ob.lt ob_1) rfl (by decide) ⟨Nat.le_refl _, Nat.le_refl _⟩ (Nat.le_of_ble_eq_true rfl) (D_X8_bankTold_0.at 38 rfl) (fun _ => rfl) T (fun r35 h36 T b37 => ?_)
    replace T := T b37
    refine J_if_eq 84 rfl 104 (inR_b b37) (D_X8_bankTold_0.at 39 rfl) (by decide) (fun c46 => ?_) (fun c46 => ?_)
    · replace T := T.1 c46
      exact J_sub (lv' := [(0, vR 60), (1, vI ((h ((h 60 2) + 5) 1) - 1))]) [1, 0] rfl T
    replace T := T.2 c46
    refine J_aload_n 85 rfl 0 1 rfl ⟨by decide, by decide⟩ (D_X8_bankTold_0.at 40 rfl) ?_
    obtain ⟨s38, T⟩ := T
    refine J_getR (z := (h36 60 2)) 88 rfl fl_8_19 rfl ob_60 (Ob.lt ob_60) (D_X8_bankTold_0.at 41 rfl) rfl ?_
    refine J_getF (ov := ((h36 60 2) + 9)) (dd := 1009) 91 rfl fl_8_189 rfl (by decide) rfl s38 (Ob.lt s38) (D_X8_bankTold_0.at 42 rfl) ?_
    refine J_iload_n 92 rfl 1 0 rfl (D_X8_bankTold_0.at 43 rfl) ?_
    refine J_aload_n 93 rfl 0 1 rfl ⟨by decide, by decide⟩ (D_X8_bankTold_0.at 44 rfl) ?_
    refine J_aload_n 94 rfl 0 1 rfl ⟨by decide, by decide⟩ (D_X8_bankTold_0.at 45 rfl) ?_
    obtain ⟨s39, T⟩ := T
    refine J_getR (z := (h36 60 2)) 97 rfl fl_8_19 rfl ob_60 (Ob.lt ob_60) (D_X8_bankTold_0.at 46 rfl) rfl ?_
    refine J_getF (ov := ((h36 60 2) + 3)) (dd := 1003) 100 rfl fl_8_106 rfl (by decide) rfl s39 (Ob.lt s39) (D_X8_bankTold_0.at 47 rfl) ?_
    refine J_callV (d' := 9) (sr := fun z => [vI z, vI ((h ((h 60 2) + 5) 1) - 1), vR ((h36 60 2) + 9)]) (as := [vR ((h36 60 2) + 3)]) (st := [vI ((h ((h 60 2) + 5) 1) - 1), vR ((h36 60 2) + 9)]) (o := 60) 103 rfl ok_X8_asked im_X8_asked se_X8_asked ml_8_185 isC_8 ob_60 (Ob.lt ob_60) rfl (by decide) ⟨Nat.le_refl _, Nat.le_refl _⟩ (Nat.le_of_ble_eq_true rfl) (D_X8_bankTold_1.at 0 rfl) (fun _ => rfl) T (fun r40 h41 T b42 => ?_)
    obtain ⟨s43, T⟩ := T
    refine J_iastH 104 rfl (of_7_5 s38) (Ar.lt (of_7_5 s38)) s43 trivial (D_X8_bankTold_1.at 1 rfl) (fun h44 e45 => ?_)
    replace T := T h44 e45
    exact J_sub (lv' := [(0, vR 60), (1, vI ((h ((h 60 2) + 5) 1) - 1))]) [1, 0] rfl T
  replace T := T.2 c49
  refine J_iconst 25 rfl (D_X8_bankTold_0.at 12 rfl) ?_
  exact J_zret rfl (Or.inl rfl) (D_X8_bankTold_0.at 13 rfl) T
theorem l_X8_bankTold_104 {w : Wd} {v1 : Int} {h : Hp} {K : Int → Hp → Prop} (T : (inR (h 1 4)) ∧ ((((h 1 4) ≠ 0) → (L_X8_bankTold_152 w v1 h K)) ∧ (¬ ((h 1 4) ≠ 0) → (C_X10_needWord w 1002 h (fun r51 h52 => (r51 = 0 ∨ r51 = 1) → ((r51 = 0) → (L_X8_bankTold_152 w v1 h52 K)) ∧ (¬ (r51 = 0) → ((Ob 7 (h52 60 2)) ∧ ((Ob 7 (h52 60 2)) ∧ (C_X10_number w 0 ((h52 (h52 60 2) 12) - 1) h52 (fun r56 h57 => (0 ≤ v1 ∧ v1 < 10) ∧ (∀ h60 : Hp, h60 = hu h57 ((h52 60 2) + 10) v1 r56 → L_X8_bankTold_152 w v1 h60 K))))))))))) : L_X8_bankTold_104 w v1 h K := by
  unfold L_X8_bankTold_104
  refine J_aload_n 105 rfl 0 0 rfl ⟨by decide, by decide⟩ (D_X8_bankTold_1.at 2 rfl) ?_
  refine J_getF (ov := 1) (dd := 941) 108 rfl fl_8_9 rfl (by decide) rfl ob_60 (Ob.lt ob_60) (D_X8_bankTold_1.at 3 rfl) ?_
  refine J_getI (z := (h 1 4)) 111 rfl fl_8_75 rfl ob_1 (Ob.lt ob_1) (D_X8_bankTold_1.at 4 rfl) rfl ?_
  obtain ⟨s50, T⟩ := T
  refine J_if_ne 114 rfl 152 s50 (D_X8_bankTold_1.at 5 rfl) (by decide) (fun c63 => ?_) (fun c63 => ?_)
  · replace T := T.1 c63
    exact T
  replace T := T.2 c63
  refine J_aload_n 115 rfl 0 0 rfl ⟨by decide, by decide⟩ (D_X8_bankTold_1.at 6 rfl) ?_
  refine J_getF (ov := 1) (dd := 941) 118 rfl fl_8_9 rfl (by decide) rfl ob_60 (Ob.lt ob_60) (D_X8_bankTold_1.at 7 rfl) ?_
  refine J_ldcsE (tx := "at") 120 rfl 2 (v := 1002) rfl (by decide) (List.mem_of_getElem? (i := 2) rfl) (D_X8_bankTold_1.at 8 rfl) ?_
  refine J_callV (d' := 8) (sr := fun z => [vI z]) (as := [vR 1002]) (st := []) (o := 1) 123 rfl ok_X10_needWord im_X10_needWord se_X10_needWord ml_8_60 isC_10 ob_1 (Ob.lt ob_1) rfl (by decide) ⟨Nat.le_refl _, Nat.le_refl _⟩ (Nat.le_of_ble_eq_true rfl) (D_X8_bankTold_1.at 9 rfl) (fun _ => rfl) T (fun r51 h52 T b53 => ?_)
  replace T := T b53
  refine J_if_eq 126 rfl 152 (inR_b b53) (D_X8_bankTold_1.at 10 rfl) (by decide) (fun c62 => ?_) (fun c62 => ?_)
  · replace T := T.1 c62
    exact T
  replace T := T.2 c62
  refine J_aload_n 127 rfl 0 0 rfl ⟨by decide, by decide⟩ (D_X8_bankTold_1.at 11 rfl) ?_
  obtain ⟨s54, T⟩ := T
  refine J_getR (z := (h52 60 2)) 130 rfl fl_8_19 rfl ob_60 (Ob.lt ob_60) (D_X8_bankTold_1.at 12 rfl) rfl ?_
  refine J_getF (ov := ((h52 60 2) + 10)) (dd := 1010) 133 rfl fl_8_191 rfl (by decide) rfl s54 (Ob.lt s54) (D_X8_bankTold_1.at 13 rfl) ?_
  refine J_iload_n 134 rfl 1 1 rfl (D_X8_bankTold_1.at 14 rfl) ?_
  refine J_aload_n 135 rfl 0 0 rfl ⟨by decide, by decide⟩ (D_X8_bankTold_1.at 15 rfl) ?_
  refine J_getF (ov := 1) (dd := 941) 138 rfl fl_8_9 rfl (by decide) rfl ob_60 (Ob.lt ob_60) (D_X8_bankTold_1.at 16 rfl) ?_
  refine J_iconst 139 rfl (D_X8_bankTold_1.at 17 rfl) ?_
  refine J_aload_n 140 rfl 0 0 rfl ⟨by decide, by decide⟩ (D_X8_bankTold_1.at 18 rfl) ?_
  obtain ⟨s55, T⟩ := T
  refine J_getR (z := (h52 60 2)) 143 rfl fl_8_19 rfl ob_60 (Ob.lt ob_60) (D_X8_bankTold_1.at 19 rfl) rfl ?_
  refine J_getI (z := (h52 (h52 60 2) 12)) 146 rfl fl_8_73 rfl s55 (Ob.lt s55) (D_X8_bankTold_1.at 20 rfl) rfl ?_
  refine J_iconst 147 rfl (D_X8_bankTold_1.at 21 rfl) ?_
  refine J_isub 148 rfl (D_X8_bankTold_1.at 22 rfl) ?_
  refine J_callV (d' := 3) (sr := fun z => [vI z, vI v1, vR ((h52 60 2) + 10)]) (as := [vI 0, vI ((h52 (h52 60 2) 12) - 1)]) (st := [vI v1, vR ((h52 60 2) + 10)]) (o := 1) 151 rfl ok_X10_number im_X10_number se_X10_number ml_8_64 isC_10 ob_1 (Ob.lt ob_1) rfl (by decide) ⟨Nat.le_refl _, Nat.le_refl _⟩ (Nat.le_of_ble_eq_true rfl) (D_X8_bankTold_1.at 23 rfl) (fun _ => rfl) T (fun r56 h57 T b58 => ?_)
  obtain ⟨s59, T⟩ := T
  refine J_iastH 152 rfl (of_7_6 s54) (Ar.lt (of_7_6 s54)) s59 trivial (D_X8_bankTold_1.at 24 rfl) (fun h60 e61 => ?_)
  replace T := T h60 e61
  exact T
theorem l_X8_bankTold_152 {w : Wd} {v1 : Int} {h : Hp} {K : Int → Hp → Prop} (T : (inR (h 1 4)) ∧ ((((h 1 4) ≠ 0) → (L_X8_bankTold_193 w v1 h K)) ∧ (¬ ((h 1 4) ≠ 0) → (C_X10_needWord w 1008 h (fun r65 h66 => (r65 = 0 ∨ r65 = 1) → ((r65 = 0) → (L_X8_bankTold_193 w v1 h66 K)) ∧ (¬ (r65 = 0) → ((Ob 7 (h66 60 2)) ∧ (C_X10_number w 0 99 h66 (fun r69 h70 => (0 ≤ v1 ∧ v1 < 10) ∧ (∀ h73 : Hp, h73 = hu h70 ((h66 60 2) + 11) v1 r69 → L_X8_bankTold_193 w v1 h73 K)))))))))) : L_X8_bankTold_152 w v1 h K := by
  unfold L_X8_bankTold_152
  refine J_aload_n 153 rfl 0 0 rfl ⟨by decide, by decide⟩ (D_X8_bankTold_1.at 25 rfl) ?_
  refine J_getF (ov := 1) (dd := 941) 156 rfl fl_8_9 rfl (by decide) rfl ob_60 (Ob.lt ob_60) (D_X8_bankTold_1.at 26 rfl) ?_
  refine J_getI (z := (h 1 4)) 159 rfl fl_8_75 rfl ob_1 (Ob.lt ob_1) (D_X8_bankTold_1.at 27 rfl) rfl ?_
  obtain ⟨s64, T⟩ := T
  refine J_if_ne 162 rfl 193 s64 (D_X8_bankTold_1.at 28 rfl) (by decide) (fun c76 => ?_) (fun c76 => ?_)
  · replace T := T.1 c76
    exact T
  replace T := T.2 c76
  refine J_aload_n 163 rfl 0 0 rfl ⟨by decide, by decide⟩ (D_X8_bankTold_1.at 29 rfl) ?_
  refine J_getF (ov := 1) (dd := 941) 166 rfl fl_8_9 rfl (by decide) rfl ob_60 (Ob.lt ob_60) (D_X8_bankTold_1.at 30 rfl) ?_
  refine J_ldcsE (tx := "holds") 168 rfl 8 (v := 1008) rfl (by decide) (List.mem_of_getElem? (i := 8) rfl) (D_X8_bankTold_1.at 31 rfl) ?_
  refine J_callV (d' := 8) (sr := fun z => [vI z]) (as := [vR 1008]) (st := []) (o := 1) 171 rfl ok_X10_needWord im_X10_needWord se_X10_needWord ml_8_60 isC_10 ob_1 (Ob.lt ob_1) rfl (by decide) ⟨Nat.le_refl _, Nat.le_refl _⟩ (Nat.le_of_ble_eq_true rfl) (D_X8_bankTold_1.at 32 rfl) (fun _ => rfl) T (fun r65 h66 T b67 => ?_)
  replace T := T b67
  refine J_if_eq 174 rfl 193 (inR_b b67) (D_X8_bankTold_1.at 33 rfl) (by decide) (fun c75 => ?_) (fun c75 => ?_)
  · replace T := T.1 c75
    exact T
  replace T := T.2 c75
  refine J_aload_n 175 rfl 0 0 rfl ⟨by decide, by decide⟩ (D_X8_bankTold_1.at 34 rfl) ?_
  obtain ⟨s68, T⟩ := T
  refine J_getR (z := (h66 60 2)) 178 rfl fl_8_19 rfl ob_60 (Ob.lt ob_60) (D_X8_bankTold_1.at 35 rfl) rfl ?_
  refine J_getF (ov := ((h66 60 2) + 11)) (dd := 1011) 181 rfl fl_8_196 rfl (by decide) rfl s68 (Ob.lt s68) (D_X8_bankTold_1.at 36 rfl) ?_
  refine J_iload_n 182 rfl 1 1 rfl (D_X8_bankTold_1.at 37 rfl) ?_
  refine J_aload_n 183 rfl 0 0 rfl ⟨by decide, by decide⟩ (D_X8_bankTold_1.at 38 rfl) ?_
  refine J_getF (ov := 1) (dd := 941) 186 rfl fl_8_9 rfl (by decide) rfl ob_60 (Ob.lt ob_60) (D_X8_bankTold_1.at 39 rfl) ?_
  refine J_iconst 187 rfl (D_X8_bankTold_1.at 40 rfl) ?_
  refine J_bipush 189 rfl ⟨by decide, by decide⟩ (D_X8_bankTold_1.at 41 rfl) ?_
  refine J_callV (d' := 3) (sr := fun z => [vI z, vI v1, vR ((h66 60 2) + 11)]) (as := [vI 0, vI 99]) (st := [vI v1, vR ((h66 60 2) + 11)]) (o := 1) 192 rfl ok_X10_number im_X10_number se_X10_number ml_8_64 isC_10 ob_1 (Ob.lt ob_1) rfl (by decide) ⟨Nat.le_refl _, Nat.le_refl _⟩ (Nat.le_of_ble_eq_true rfl) (D_X8_bankTold_1.at 42 rfl) (fun _ => rfl) T (fun r69 h70 T b71 => ?_)
  obtain ⟨s72, T⟩ := T
  refine J_iastH 193 rfl (of_7_7 s68) (Ar.lt (of_7_7 s68)) s72 trivial (D_X8_bankTold_1.at 43 rfl) (fun h73 e74 => ?_)
  replace T := T h73 e74
  exact T
theorem l_X8_bankTold_193 {w : Wd} {v1 : Int} {h : Hp} {K : Int → Hp → Prop} (T : (inR (h 1 4)) ∧ ((((h 1 4) ≠ 0) → (L_X8_bankTold_234 w h K)) ∧ (¬ ((h 1 4) ≠ 0) → (C_X10_needWord w 1009 h (fun r78 h79 => (r78 = 0 ∨ r78 = 1) → ((r78 = 0) → (L_X8_bankTold_234 w h79 K)) ∧ (¬ (r78 = 0) → ((Ob 7 (h79 60 2)) ∧ (C_X10_number w 1 9 h79 (fun r82 h83 => (0 ≤ v1 ∧ v1 < 10) ∧ (∀ h86 : Hp, h86 = hu h83 ((h79 60 2) + 12) v1 r82 → L_X8_bankTold_234 w h86 K)))))))))) : L_X8_bankTold_193 w v1 h K := by
  unfold L_X8_bankTold_193
  refine J_aload_n 194 rfl 0 0 rfl ⟨by decide, by decide⟩ (D_X8_bankTold_1.at 44 rfl) ?_
  refine J_getF (ov := 1) (dd := 941) 197 rfl fl_8_9 rfl (by decide) rfl ob_60 (Ob.lt ob_60) (D_X8_bankTold_1.at 45 rfl) ?_
  refine J_getI (z := (h 1 4)) 200 rfl fl_8_75 rfl ob_1 (Ob.lt ob_1) (D_X8_bankTold_1.at 46 rfl) rfl ?_
  obtain ⟨s77, T⟩ := T
  refine J_if_ne 203 rfl 234 s77 (D_X8_bankTold_1.at 47 rfl) (by decide) (fun c89 => ?_) (fun c89 => ?_)
  · replace T := T.1 c89
    exact J_sub (lv' := [(0, vR 60)]) [0] rfl T
  replace T := T.2 c89
  refine J_aload_n 204 rfl 0 0 rfl ⟨by decide, by decide⟩ (D_X8_bankTold_2.at 0 rfl) ?_
  refine J_getF (ov := 1) (dd := 941) 207 rfl fl_8_9 rfl (by decide) rfl ob_60 (Ob.lt ob_60) (D_X8_bankTold_2.at 1 rfl) ?_
  refine J_ldcsE (tx := "size") 209 rfl 9 (v := 1009) rfl (by decide) (List.mem_of_getElem? (i := 9) rfl) (D_X8_bankTold_2.at 2 rfl) ?_
  refine J_callV (d' := 8) (sr := fun z => [vI z]) (as := [vR 1009]) (st := []) (o := 1) 212 rfl ok_X10_needWord im_X10_needWord se_X10_needWord ml_8_60 isC_10 ob_1 (Ob.lt ob_1) rfl (by decide) ⟨Nat.le_refl _, Nat.le_refl _⟩ (Nat.le_of_ble_eq_true rfl) (D_X8_bankTold_2.at 3 rfl) (fun _ => rfl) T (fun r78 h79 T b80 => ?_)
  replace T := T b80
  refine J_if_eq 215 rfl 234 (inR_b b80) (D_X8_bankTold_2.at 4 rfl) (by decide) (fun c88 => ?_) (fun c88 => ?_)
  · replace T := T.1 c88
    exact J_sub (lv' := [(0, vR 60)]) [0] rfl T
  replace T := T.2 c88
  refine J_aload_n 216 rfl 0 0 rfl ⟨by decide, by decide⟩ (D_X8_bankTold_2.at 5 rfl) ?_
  obtain ⟨s81, T⟩ := T
  refine J_getR (z := (h79 60 2)) 219 rfl fl_8_19 rfl ob_60 (Ob.lt ob_60) (D_X8_bankTold_2.at 6 rfl) rfl ?_
  refine J_getF (ov := ((h79 60 2) + 12)) (dd := 1012) 222 rfl fl_8_201 rfl (by decide) rfl s81 (Ob.lt s81) (D_X8_bankTold_2.at 7 rfl) ?_
  refine J_iload_n 223 rfl 1 1 rfl (D_X8_bankTold_2.at 8 rfl) ?_
  refine J_aload_n 224 rfl 0 0 rfl ⟨by decide, by decide⟩ (D_X8_bankTold_2.at 9 rfl) ?_
  refine J_getF (ov := 1) (dd := 941) 227 rfl fl_8_9 rfl (by decide) rfl ob_60 (Ob.lt ob_60) (D_X8_bankTold_2.at 10 rfl) ?_
  refine J_iconst 228 rfl (D_X8_bankTold_2.at 11 rfl) ?_
  refine J_bipush 230 rfl ⟨by decide, by decide⟩ (D_X8_bankTold_2.at 12 rfl) ?_
  refine J_callV (d' := 3) (sr := fun z => [vI z, vI v1, vR ((h79 60 2) + 12)]) (as := [vI 1, vI 9]) (st := [vI v1, vR ((h79 60 2) + 12)]) (o := 1) 233 rfl ok_X10_number im_X10_number se_X10_number ml_8_64 isC_10 ob_1 (Ob.lt ob_1) rfl (by decide) ⟨Nat.le_refl _, Nat.le_refl _⟩ (Nat.le_of_ble_eq_true rfl) (D_X8_bankTold_2.at 13 rfl) (fun _ => rfl) T (fun r82 h83 T b84 => ?_)
  obtain ⟨s85, T⟩ := T
  refine J_iastH 234 rfl (of_7_8 s81) (Ar.lt (of_7_8 s81)) s85 trivial (D_X8_bankTold_2.at 14 rfl) (fun h86 e87 => ?_)
  replace T := T h86 e87
  exact J_sub (lv' := [(0, vR 60)]) [0] rfl T
theorem l_X8_bankTold_234 {w : Wd} {h : Hp} {K : Int → Hp → Prop} (T : (inR (h 1 4)) ∧ ((((h 1 4) ≠ 0) → (K 0 h)) ∧ (¬ ((h 1 4) ≠ 0) → (K 1 h)))) : L_X8_bankTold_234 w h K := by
  unfold L_X8_bankTold_234
  refine J_aload_n 235 rfl 0 0 rfl ⟨by decide, by decide⟩ (D_X8_bankTold_2.at 15 rfl) ?_
  refine J_getF (ov := 1) (dd := 941) 238 rfl fl_8_9 rfl (by decide) rfl ob_60 (Ob.lt ob_60) (D_X8_bankTold_2.at 16 rfl) ?_
  refine J_getI (z := (h 1 4)) 241 rfl fl_8_75 rfl ob_1 (Ob.lt ob_1) (D_X8_bankTold_2.at 17 rfl) rfl ?_
  obtain ⟨s90, T⟩ := T
  refine J_if_ne 244 rfl 248 s90 (D_X8_bankTold_2.at 18 rfl) (by decide) (fun c91 => ?_) (fun c91 => ?_)
  · replace T := T.1 c91
    refine J_iconst 249 rfl (D_X8_bankTold_2.at 21 rfl) ?_
    exact J_zret rfl (Or.inl rfl) (D_X8_bankTold_2.at 22 rfl) T
  replace T := T.2 c91
  refine J_iconst 245 rfl (D_X8_bankTold_2.at 19 rfl) ?_
  refine J_goto 249 (D_X8_bankTold_2.at 20 rfl) (by decide) ?_
  exact J_zret rfl (Or.inr rfl) (D_X8_bankTold_2.at 22 rfl) T
theorem c_X2_sum {w : Wd} {e : Nat} (he : 12 ≤ e) {h : Hp} {K : Int → Hp → Prop} (T : C_X2_product w e h (fun r1 h2 => (r1 = 0 ∨ r1 = 1) → L_X2_sum_7 w (e + 1) r1 0 h2 K)) : C_X2_sum w (e + 1) h K := by
  refine CGm_of2 (by decide) (by decide) trivial (Nat.le_of_ble_eq_true rfl) ?_
  refine J_aload_n 1 rfl 0 0 rfl ⟨by decide, by decide⟩ (D_X2_sum_0.at 0 rfl) ?_
  refine J_callV (d' := (e + 1)) (sr := fun z => [vI z]) (as := []) (st := []) (o := 5) 4 rfl ok_X2_product im_X2_product se_X2_product ml_2_108 isC_2 ob_5 (Ob.lt ob_5) rfl (by omega) ⟨Nat.le_refl _, Nat.le_refl _⟩ (Nat.le_of_ble_eq_true rfl) (D_X2_sum_0.at 1 rfl) (fun _ => rfl) T (fun r1 h2 T b3 => ?_)
  replace T := T b3
  refine J_istore_n (lv' := [(1, vI r1), (0, vR 5)]) 5 rfl 1 (by decide) rfl (D_X2_sum_0.at 2 rfl) ?_
  refine J_iconst 6 rfl (D_X2_sum_0.at 3 rfl) ?_
  refine J_istore_n (lv' := [(2, vI 0), (1, vI r1), (0, vR 5)]) 7 rfl 2 (by decide) rfl (D_X2_sum_0.at 4 rfl) ?_
  exact J_sub (lv' := [(0, vR 5), (1, vI r1), (2, vI 0)]) [2, 1, 0] rfl T
theorem l_X2_sum_7 {w : Wd} {e : Nat} (he : 12 ≤ e) {v1 v2 : Int} {h : Hp} {K : Int → Hp → Prop} (T : (inR v1) ∧ (((v1 = 0) → ((v1 = 0 ∨ v1 = 1) ∧ (K v1 h))) ∧ (¬ (v1 = 0) → ((inR v2) ∧ (((v2 ≥ 1600) → ((v1 = 0 ∨ v1 = 1) ∧ (K v1 h))) ∧ (¬ (v2 ≥ 1600) → (C_X10_sign w 43 h (fun r8 h9 => (r8 = 0 ∨ r8 = 1) → ((r8 = 0) → (C_X10_sign w 45 h9 (fun r11 h12 => (r11 = 0 ∨ r11 = 1) → ((r11 = 0) → (K 1 h12)) ∧ (¬ (r11 = 0) → (C_X2_product w e h12 (fun r14 h15 => (r14 = 0 ∨ r14 = 1) → ((r14 = 0) → (L_X2_sum_7 w (e + 1) 0 (v2 + 1) h15 K)) ∧ (¬ (r14 = 0) → (C_X2_put w (-2) h15 (fun r17 h18 => (r17 = 0 ∨ r17 = 1) → ((r17 = 0) → (L_X2_sum_7 w (e + 1) 0 (v2 + 1) h18 K)) ∧ (¬ (r17 = 0) → (L_X2_sum_7 w (e + 1) 1 (v2 + 1) h18 K))))))))))) ∧ (¬ (r8 = 0) → (C_X2_product w e h9 (fun r23 h24 => (r23 = 0 ∨ r23 = 1) → ((r23 = 0) → (L_X2_sum_7 w (e + 1) 0 (v2 + 1) h24 K)) ∧ (¬ (r23 = 0) → (C_X2_put w (-1) h24 (fun r26 h27 => (r26 = 0 ∨ r26 = 1) → ((r26 = 0) → (L_X2_sum_7 w (e + 1) 0 (v2 + 1) h27 K)) ∧ (¬ (r26 = 0) → (L_X2_sum_7 w (e + 1) 1 (v2 + 1) h27 K)))))))))))))))) : L_X2_sum_7 w (e + 1) v1 v2 h K := by
  unfold L_X2_sum_7
  refine J_iload_n 8 rfl 1 1 rfl (D_X2_sum_0.at 5 rfl) ?_
  obtain ⟨s4, T⟩ := T
  refine J_if_eq 11 rfl 99 s4 (D_X2_sum_0.at 6 rfl) (by decide) (fun c33 => ?_) (fun c33 => ?_)
  · replace T := T.1 c33
    refine J_iload_n 100 rfl 1 1 rfl (D_X2_sum_1.at 0 rfl) ?_
    obtain ⟨s5, T⟩ := T
    exact J_zret rfl s5 (D_X2_sum_1.at 1 rfl) T
  replace T := T.2 c33
  refine J_iload_n 12 rfl 2 2 rfl (D_X2_sum_0.at 7 rfl) ?_
  refine J_sipush 15 rfl ⟨by decide, by decide⟩ (D_X2_sum_0.at 8 rfl) ?_
  obtain ⟨s6, T⟩ := T
  refine J_icmp_ge 18 rfl 99 s6 ⟨by decide, by decide⟩ (D_X2_sum_0.at 9 rfl) (by decide) (fun c32 => ?_) (fun c32 => ?_)
  · replace T := T.1 c32
    refine J_iload_n 100 rfl 1 1 rfl (D_X2_sum_1.at 0 rfl) ?_
    obtain ⟨s7, T⟩ := T
    exact J_zret rfl s7 (D_X2_sum_1.at 1 rfl) T
  replace T := T.2 c32
  refine J_aload_n 19 rfl 0 0 rfl ⟨by decide, by decide⟩ (D_X2_sum_0.at 10 rfl) ?_
  refine J_getF (ov := 1) (dd := 996) 22 rfl fl_2_9 rfl (by decide) rfl ob_5 (Ob.lt ob_5) (D_X2_sum_0.at 11 rfl) ?_
  refine J_bipush 24 rfl ⟨by decide, by decide⟩ (D_X2_sum_0.at 12 rfl) ?_
  refine J_callV (d' := 2) (sr := fun z => [vI z]) (as := [vI 43]) (st := []) (o := 1) 27 rfl ok_X10_sign im_X10_sign se_X10_sign ml_2_96 isC_10 ob_1 (Ob.lt ob_1) rfl (by omega) ⟨Nat.le_refl _, Nat.le_refl _⟩ (Nat.le_of_ble_eq_true rfl) (D_X2_sum_0.at 13 rfl) (fun _ => rfl) T (fun r8 h9 T b10 => ?_)
  replace T := T b10
  refine J_if_eq 30 rfl 54 (inR_b b10) (D_X2_sum_0.at 14 rfl) (by decide) (fun c31 => ?_) (fun c31 => ?_)
  · replace T := T.1 c31
    refine J_aload_n 55 rfl 0 0 rfl ⟨by decide, by decide⟩ (D_X2_sum_0.at 27 rfl) ?_
    refine J_getF (ov := 1) (dd := 996) 58 rfl fl_2_9 rfl (by decide) rfl ob_5 (Ob.lt ob_5) (D_X2_sum_0.at 28 rfl) ?_
    refine J_bipush 60 rfl ⟨by decide, by decide⟩ (D_X2_sum_0.at 29 rfl) ?_
    refine J_callV (d' := 2) (sr := fun z => [vI z]) (as := [vI 45]) (st := []) (o := 1) 63 rfl ok_X10_sign im_X10_sign se_X10_sign ml_2_96 isC_10 ob_1 (Ob.lt ob_1) rfl (by omega) ⟨Nat.le_refl _, Nat.le_refl _⟩ (Nat.le_of_ble_eq_true rfl) (D_X2_sum_0.at 30 rfl) (fun _ => rfl) T (fun r11 h12 T b13 => ?_)
    replace T := T b13
    refine J_if_eq 66 rfl 91 (inR_b b13) (D_X2_sum_0.at 31 rfl) (by decide) (fun c22 => ?_) (fun c22 => ?_)
    · replace T := T.1 c22
      refine J_iconst 92 rfl (D_X2_sum_0.at 44 rfl) ?_
      exact J_zret rfl (Or.inr rfl) (D_X2_sum_0.at 45 rfl) T
    replace T := T.2 c22
    refine J_aload_n 67 rfl 0 0 rfl ⟨by decide, by decide⟩ (D_X2_sum_0.at 32 rfl) ?_
    refine J_callV (d' := (e + 1)) (sr := fun z => [vI z]) (as := []) (st := []) (o := 5) 70 rfl ok_X2_product im_X2_product se_X2_product ml_2_108 isC_2 ob_5 (Ob.lt ob_5) rfl (by omega) ⟨Nat.le_refl _, Nat.le_refl _⟩ (Nat.le_of_ble_eq_true rfl) (D_X2_sum_0.at 33 rfl) (fun _ => rfl) T (fun r14 h15 T b16 => ?_)
    replace T := T b16
    refine J_if_eq 73 rfl 86 (inR_b b16) (D_X2_sum_0.at 34 rfl) (by decide) (fun c21 => ?_) (fun c21 => ?_)
    · replace T := T.1 c21
      refine J_iconst 87 rfl (D_X2_sum_0.at 41 rfl) ?_
      refine J_istore_n (lv' := [(1, vI 0), (0, vR 5), (2, vI v2)]) 88 rfl 1 (by decide) rfl (D_X2_sum_0.at 42 rfl) ?_
      refine J_goto 93 (D_X2_sum_0.at 43 rfl) (by decide) ?_
      refine J_iinc (v := (v2 + 1)) (lv' := [(2, vI (v2 + 1)), (1, vI 0), (0, vR 5)]) 96 rfl 2 2 1 rfl rfl (by decide) rfl (D_X2_sum_0.at 46 rfl) ?_
      refine J_goto 7 (D_X2_sum_0.at 47 rfl) (by decide) ?_
      exact J_sub (lv' := [(0, vR 5), (1, vI 0), (2, vI (v2 + 1))]) [2, 1, 0] rfl T
    replace T := T.2 c21
    refine J_aload_n 74 rfl 0 0 rfl ⟨by decide, by decide⟩ (D_X2_sum_0.at 35 rfl) ?_
    refine J_bipush 76 rfl ⟨by decide, by decide⟩ (D_X2_sum_0.at 36 rfl) ?_
    refine J_callV (d' := 2) (sr := fun z => [vI z]) (as := [vI (-2)]) (st := []) (o := 5) 79 rfl ok_X2_put im_X2_put se_X2_put ml_2_79 isC_2 ob_5 (Ob.lt ob_5) rfl (by omega) ⟨Nat.le_refl _, Nat.le_refl _⟩ (Nat.le_of_ble_eq_true rfl) (D_X2_sum_0.at 37 rfl) (fun _ => rfl) T (fun r17 h18 T b19 => ?_)
    replace T := T b19
    refine J_if_eq 82 rfl 86 (inR_b b19) (D_X2_sum_0.at 38 rfl) (by decide) (fun c20 => ?_) (fun c20 => ?_)
    · replace T := T.1 c20
      refine J_iconst 87 rfl (D_X2_sum_0.at 41 rfl) ?_
      refine J_istore_n (lv' := [(1, vI 0), (0, vR 5), (2, vI v2)]) 88 rfl 1 (by decide) rfl (D_X2_sum_0.at 42 rfl) ?_
      refine J_goto 93 (D_X2_sum_0.at 43 rfl) (by decide) ?_
      refine J_iinc (v := (v2 + 1)) (lv' := [(2, vI (v2 + 1)), (1, vI 0), (0, vR 5)]) 96 rfl 2 2 1 rfl rfl (by decide) rfl (D_X2_sum_0.at 46 rfl) ?_
      refine J_goto 7 (D_X2_sum_0.at 47 rfl) (by decide) ?_
      exact J_sub (lv' := [(0, vR 5), (1, vI 0), (2, vI (v2 + 1))]) [2, 1, 0] rfl T
    replace T := T.2 c20
    refine J_iconst 83 rfl (D_X2_sum_0.at 39 rfl) ?_
    refine J_goto 87 (D_X2_sum_0.at 40 rfl) (by decide) ?_
    refine J_istore_n (lv' := [(1, vI 1), (0, vR 5), (2, vI v2)]) 88 rfl 1 (by decide) rfl (D_X2_sum_0.at 42 rfl) ?_
    refine J_goto 93 (D_X2_sum_0.at 43 rfl) (by decide) ?_
    refine J_iinc (v := (v2 + 1)) (lv' := [(2, vI (v2 + 1)), (1, vI 1), (0, vR 5)]) 96 rfl 2 2 1 rfl rfl (by decide) rfl (D_X2_sum_0.at 46 rfl) ?_
    refine J_goto 7 (D_X2_sum_0.at 47 rfl) (by decide) ?_
    exact J_sub (lv' := [(0, vR 5), (1, vI 1), (2, vI (v2 + 1))]) [2, 1, 0] rfl T
  replace T := T.2 c31
  refine J_aload_n 31 rfl 0 0 rfl ⟨by decide, by decide⟩ (D_X2_sum_0.at 15 rfl) ?_
  refine J_callV (d' := (e + 1)) (sr := fun z => [vI z]) (as := []) (st := []) (o := 5) 34 rfl ok_X2_product im_X2_product se_X2_product ml_2_108 isC_2 ob_5 (Ob.lt ob_5) rfl (by omega) ⟨Nat.le_refl _, Nat.le_refl _⟩ (Nat.le_of_ble_eq_true rfl) (D_X2_sum_0.at 16 rfl) (fun _ => rfl) T (fun r23 h24 T b25 => ?_)
  replace T := T b25
  refine J_if_eq 37 rfl 49 (inR_b b25) (D_X2_sum_0.at 17 rfl) (by decide) (fun c30 => ?_) (fun c30 => ?_)
  · replace T := T.1 c30
    refine J_iconst 50 rfl (D_X2_sum_0.at 24 rfl) ?_
    refine J_istore_n (lv' := [(1, vI 0), (0, vR 5), (2, vI v2)]) 51 rfl 1 (by decide) rfl (D_X2_sum_0.at 25 rfl) ?_
    refine J_goto 93 (D_X2_sum_0.at 26 rfl) (by decide) ?_
    refine J_iinc (v := (v2 + 1)) (lv' := [(2, vI (v2 + 1)), (1, vI 0), (0, vR 5)]) 96 rfl 2 2 1 rfl rfl (by decide) rfl (D_X2_sum_0.at 46 rfl) ?_
    refine J_goto 7 (D_X2_sum_0.at 47 rfl) (by decide) ?_
    exact J_sub (lv' := [(0, vR 5), (1, vI 0), (2, vI (v2 + 1))]) [2, 1, 0] rfl T
  replace T := T.2 c30
  refine J_aload_n 38 rfl 0 0 rfl ⟨by decide, by decide⟩ (D_X2_sum_0.at 18 rfl) ?_
  refine J_iconst 39 rfl (D_X2_sum_0.at 19 rfl) ?_
  refine J_callV (d' := 2) (sr := fun z => [vI z]) (as := [vI (-1)]) (st := []) (o := 5) 42 rfl ok_X2_put im_X2_put se_X2_put ml_2_79 isC_2 ob_5 (Ob.lt ob_5) rfl (by omega) ⟨Nat.le_refl _, Nat.le_refl _⟩ (Nat.le_of_ble_eq_true rfl) (D_X2_sum_0.at 20 rfl) (fun _ => rfl) T (fun r26 h27 T b28 => ?_)
  replace T := T b28
  refine J_if_eq 45 rfl 49 (inR_b b28) (D_X2_sum_0.at 21 rfl) (by decide) (fun c29 => ?_) (fun c29 => ?_)
  · replace T := T.1 c29
    refine J_iconst 50 rfl (D_X2_sum_0.at 24 rfl) ?_
    refine J_istore_n (lv' := [(1, vI 0), (0, vR 5), (2, vI v2)]) 51 rfl 1 (by decide) rfl (D_X2_sum_0.at 25 rfl) ?_
    refine J_goto 93 (D_X2_sum_0.at 26 rfl) (by decide) ?_
    refine J_iinc (v := (v2 + 1)) (lv' := [(2, vI (v2 + 1)), (1, vI 0), (0, vR 5)]) 96 rfl 2 2 1 rfl rfl (by decide) rfl (D_X2_sum_0.at 46 rfl) ?_
    refine J_goto 7 (D_X2_sum_0.at 47 rfl) (by decide) ?_
    exact J_sub (lv' := [(0, vR 5), (1, vI 0), (2, vI (v2 + 1))]) [2, 1, 0] rfl T
  replace T := T.2 c29
  refine J_iconst 46 rfl (D_X2_sum_0.at 22 rfl) ?_
  refine J_goto 50 (D_X2_sum_0.at 23 rfl) (by decide) ?_
  refine J_istore_n (lv' := [(1, vI 1), (0, vR 5), (2, vI v2)]) 51 rfl 1 (by decide) rfl (D_X2_sum_0.at 25 rfl) ?_
  refine J_goto 93 (D_X2_sum_0.at 26 rfl) (by decide) ?_
  refine J_iinc (v := (v2 + 1)) (lv' := [(2, vI (v2 + 1)), (1, vI 1), (0, vR 5)]) 96 rfl 2 2 1 rfl rfl (by decide) rfl (D_X2_sum_0.at 46 rfl) ?_
  refine J_goto 7 (D_X2_sum_0.at 47 rfl) (by decide) ?_
  exact J_sub (lv' := [(0, vR 5), (1, vI 1), (2, vI (v2 + 1))]) [2, 1, 0] rfl T
theorem c_X2_product {w : Wd} {e : Nat} (he : 12 ≤ e) {h : Hp} {K : Int → Hp → Prop} (T : C_X2_part w e h (fun r1 h2 => (r1 = 0 ∨ r1 = 1) → L_X2_product_7 w (e + 1) r1 0 h2 K)) : C_X2_product w (e + 1) h K := by
  refine CGm_of2 (by decide) (by decide) trivial (Nat.le_of_ble_eq_true rfl) ?_
  refine J_aload_n 1 rfl 0 0 rfl ⟨by decide, by decide⟩ (D_X2_product_0.at 0 rfl) ?_
  refine J_callV (d' := (e + 1)) (sr := fun z => [vI z]) (as := []) (st := []) (o := 5) 4 rfl ok_X2_part im_X2_part se_X2_part ml_2_111 isC_2 ob_5 (Ob.lt ob_5) rfl (by omega) ⟨Nat.le_refl _, Nat.le_refl _⟩ (Nat.le_of_ble_eq_true rfl) (D_X2_product_0.at 1 rfl) (fun _ => rfl) T (fun r1 h2 T b3 => ?_)
  replace T := T b3
  refine J_istore_n (lv' := [(1, vI r1), (0, vR 5)]) 5 rfl 1 (by decide) rfl (D_X2_product_0.at 2 rfl) ?_
  refine J_iconst 6 rfl (D_X2_product_0.at 3 rfl) ?_
  refine J_istore_n (lv' := [(2, vI 0), (1, vI r1), (0, vR 5)]) 7 rfl 2 (by decide) rfl (D_X2_product_0.at 4 rfl) ?_
  exact J_sub (lv' := [(0, vR 5), (1, vI r1), (2, vI 0)]) [2, 1, 0] rfl T
theorem l_X2_product_7 {w : Wd} {e : Nat} (he : 12 ≤ e) {v1 v2 : Int} {h : Hp} {K : Int → Hp → Prop} (T : (inR v1) ∧ (((v1 = 0) → ((v1 = 0 ∨ v1 = 1) ∧ (K v1 h))) ∧ (¬ (v1 = 0) → ((inR v2) ∧ (((v2 ≥ 1600) → ((v1 = 0 ∨ v1 = 1) ∧ (K v1 h))) ∧ (¬ (v2 ≥ 1600) → (C_X10_sign w 42 h (fun r8 h9 => (r8 = 0 ∨ r8 = 1) → ((r8 = 0) → (C_X10_sign w 47 h9 (fun r11 h12 => (r11 = 0 ∨ r11 = 1) → ((r11 = 0) → (K 1 h12)) ∧ (¬ (r11 = 0) → (C_X2_part w e h12 (fun r14 h15 => (r14 = 0 ∨ r14 = 1) → ((r14 = 0) → (L_X2_product_7 w (e + 1) 0 (v2 + 1) h15 K)) ∧ (¬ (r14 = 0) → (C_X2_put w (-4) h15 (fun r17 h18 => (r17 = 0 ∨ r17 = 1) → ((r17 = 0) → (L_X2_product_7 w (e + 1) 0 (v2 + 1) h18 K)) ∧ (¬ (r17 = 0) → (L_X2_product_7 w (e + 1) 1 (v2 + 1) h18 K))))))))))) ∧ (¬ (r8 = 0) → (C_X2_part w e h9 (fun r23 h24 => (r23 = 0 ∨ r23 = 1) → ((r23 = 0) → (L_X2_product_7 w (e + 1) 0 (v2 + 1) h24 K)) ∧ (¬ (r23 = 0) → (C_X2_put w (-3) h24 (fun r26 h27 => (r26 = 0 ∨ r26 = 1) → ((r26 = 0) → (L_X2_product_7 w (e + 1) 0 (v2 + 1) h27 K)) ∧ (¬ (r26 = 0) → (L_X2_product_7 w (e + 1) 1 (v2 + 1) h27 K)))))))))))))))) : L_X2_product_7 w (e + 1) v1 v2 h K := by
  unfold L_X2_product_7
  refine J_iload_n 8 rfl 1 1 rfl (D_X2_product_0.at 5 rfl) ?_
  obtain ⟨s4, T⟩ := T
  refine J_if_eq 11 rfl 100 s4 (D_X2_product_0.at 6 rfl) (by decide) (fun c33 => ?_) (fun c33 => ?_)
  · replace T := T.1 c33
    refine J_iload_n 101 rfl 1 1 rfl (D_X2_product_1.at 0 rfl) ?_
    obtain ⟨s5, T⟩ := T
    exact J_zret rfl s5 (D_X2_product_1.at 1 rfl) T
  replace T := T.2 c33
  refine J_iload_n 12 rfl 2 2 rfl (D_X2_product_0.at 7 rfl) ?_
  refine J_sipush 15 rfl ⟨by decide, by decide⟩ (D_X2_product_0.at 8 rfl) ?_
  obtain ⟨s6, T⟩ := T
  refine J_icmp_ge 18 rfl 100 s6 ⟨by decide, by decide⟩ (D_X2_product_0.at 9 rfl) (by decide) (fun c32 => ?_) (fun c32 => ?_)
  · replace T := T.1 c32
    refine J_iload_n 101 rfl 1 1 rfl (D_X2_product_1.at 0 rfl) ?_
    obtain ⟨s7, T⟩ := T
    exact J_zret rfl s7 (D_X2_product_1.at 1 rfl) T
  replace T := T.2 c32
  refine J_aload_n 19 rfl 0 0 rfl ⟨by decide, by decide⟩ (D_X2_product_0.at 10 rfl) ?_
  refine J_getF (ov := 1) (dd := 996) 22 rfl fl_2_9 rfl (by decide) rfl ob_5 (Ob.lt ob_5) (D_X2_product_0.at 11 rfl) ?_
  refine J_bipush 24 rfl ⟨by decide, by decide⟩ (D_X2_product_0.at 12 rfl) ?_
  refine J_callV (d' := 2) (sr := fun z => [vI z]) (as := [vI 42]) (st := []) (o := 1) 27 rfl ok_X10_sign im_X10_sign se_X10_sign ml_2_96 isC_10 ob_1 (Ob.lt ob_1) rfl (by omega) ⟨Nat.le_refl _, Nat.le_refl _⟩ (Nat.le_of_ble_eq_true rfl) (D_X2_product_0.at 13 rfl) (fun _ => rfl) T (fun r8 h9 T b10 => ?_)
  replace T := T b10
  refine J_if_eq 30 rfl 55 (inR_b b10) (D_X2_product_0.at 14 rfl) (by decide) (fun c31 => ?_) (fun c31 => ?_)
  · replace T := T.1 c31
    refine J_aload_n 56 rfl 0 0 rfl ⟨by decide, by decide⟩ (D_X2_product_0.at 27 rfl) ?_
    refine J_getF (ov := 1) (dd := 996) 59 rfl fl_2_9 rfl (by decide) rfl ob_5 (Ob.lt ob_5) (D_X2_product_0.at 28 rfl) ?_
    refine J_bipush 61 rfl ⟨by decide, by decide⟩ (D_X2_product_0.at 29 rfl) ?_
    refine J_callV (d' := 2) (sr := fun z => [vI z]) (as := [vI 47]) (st := []) (o := 1) 64 rfl ok_X10_sign im_X10_sign se_X10_sign ml_2_96 isC_10 ob_1 (Ob.lt ob_1) rfl (by omega) ⟨Nat.le_refl _, Nat.le_refl _⟩ (Nat.le_of_ble_eq_true rfl) (D_X2_product_0.at 30 rfl) (fun _ => rfl) T (fun r11 h12 T b13 => ?_)
    replace T := T b13
    refine J_if_eq 67 rfl 92 (inR_b b13) (D_X2_product_0.at 31 rfl) (by decide) (fun c22 => ?_) (fun c22 => ?_)
    · replace T := T.1 c22
      refine J_iconst 93 rfl (D_X2_product_0.at 44 rfl) ?_
      exact J_zret rfl (Or.inr rfl) (D_X2_product_0.at 45 rfl) T
    replace T := T.2 c22
    refine J_aload_n 68 rfl 0 0 rfl ⟨by decide, by decide⟩ (D_X2_product_0.at 32 rfl) ?_
    refine J_callV (d' := (e + 1)) (sr := fun z => [vI z]) (as := []) (st := []) (o := 5) 71 rfl ok_X2_part im_X2_part se_X2_part ml_2_111 isC_2 ob_5 (Ob.lt ob_5) rfl (by omega) ⟨Nat.le_refl _, Nat.le_refl _⟩ (Nat.le_of_ble_eq_true rfl) (D_X2_product_0.at 33 rfl) (fun _ => rfl) T (fun r14 h15 T b16 => ?_)
    replace T := T b16
    refine J_if_eq 74 rfl 87 (inR_b b16) (D_X2_product_0.at 34 rfl) (by decide) (fun c21 => ?_) (fun c21 => ?_)
    · replace T := T.1 c21
      refine J_iconst 88 rfl (D_X2_product_0.at 41 rfl) ?_
      refine J_istore_n (lv' := [(1, vI 0), (0, vR 5), (2, vI v2)]) 89 rfl 1 (by decide) rfl (D_X2_product_0.at 42 rfl) ?_
      refine J_goto 94 (D_X2_product_0.at 43 rfl) (by decide) ?_
      refine J_iinc (v := (v2 + 1)) (lv' := [(2, vI (v2 + 1)), (1, vI 0), (0, vR 5)]) 97 rfl 2 2 1 rfl rfl (by decide) rfl (D_X2_product_0.at 46 rfl) ?_
      refine J_goto 7 (D_X2_product_0.at 47 rfl) (by decide) ?_
      exact J_sub (lv' := [(0, vR 5), (1, vI 0), (2, vI (v2 + 1))]) [2, 1, 0] rfl T
    replace T := T.2 c21
    refine J_aload_n 75 rfl 0 0 rfl ⟨by decide, by decide⟩ (D_X2_product_0.at 35 rfl) ?_
    refine J_bipush 77 rfl ⟨by decide, by decide⟩ (D_X2_product_0.at 36 rfl) ?_
    refine J_callV (d' := 2) (sr := fun z => [vI z]) (as := [vI (-4)]) (st := []) (o := 5) 80 rfl ok_X2_put im_X2_put se_X2_put ml_2_79 isC_2 ob_5 (Ob.lt ob_5) rfl (by omega) ⟨Nat.le_refl _, Nat.le_refl _⟩ (Nat.le_of_ble_eq_true rfl) (D_X2_product_0.at 37 rfl) (fun _ => rfl) T (fun r17 h18 T b19 => ?_)
    replace T := T b19
    refine J_if_eq 83 rfl 87 (inR_b b19) (D_X2_product_0.at 38 rfl) (by decide) (fun c20 => ?_) (fun c20 => ?_)
    · replace T := T.1 c20
      refine J_iconst 88 rfl (D_X2_product_0.at 41 rfl) ?_
      refine J_istore_n (lv' := [(1, vI 0), (0, vR 5), (2, vI v2)]) 89 rfl 1 (by decide) rfl (D_X2_product_0.at 42 rfl) ?_
      refine J_goto 94 (D_X2_product_0.at 43 rfl) (by decide) ?_
      refine J_iinc (v := (v2 + 1)) (lv' := [(2, vI (v2 + 1)), (1, vI 0), (0, vR 5)]) 97 rfl 2 2 1 rfl rfl (by decide) rfl (D_X2_product_0.at 46 rfl) ?_
      refine J_goto 7 (D_X2_product_0.at 47 rfl) (by decide) ?_
      exact J_sub (lv' := [(0, vR 5), (1, vI 0), (2, vI (v2 + 1))]) [2, 1, 0] rfl T
    replace T := T.2 c20
    refine J_iconst 84 rfl (D_X2_product_0.at 39 rfl) ?_
    refine J_goto 88 (D_X2_product_0.at 40 rfl) (by decide) ?_
    refine J_istore_n (lv' := [(1, vI 1), (0, vR 5), (2, vI v2)]) 89 rfl 1 (by decide) rfl (D_X2_product_0.at 42 rfl) ?_
    refine J_goto 94 (D_X2_product_0.at 43 rfl) (by decide) ?_
    refine J_iinc (v := (v2 + 1)) (lv' := [(2, vI (v2 + 1)), (1, vI 1), (0, vR 5)]) 97 rfl 2 2 1 rfl rfl (by decide) rfl (D_X2_product_0.at 46 rfl) ?_
    refine J_goto 7 (D_X2_product_0.at 47 rfl) (by decide) ?_
    exact J_sub (lv' := [(0, vR 5), (1, vI 1), (2, vI (v2 + 1))]) [2, 1, 0] rfl T
  replace T := T.2 c31
  refine J_aload_n 31 rfl 0 0 rfl ⟨by decide, by decide⟩ (D_X2_product_0.at 15 rfl) ?_
  refine J_callV (d' := (e + 1)) (sr := fun z => [vI z]) (as := []) (st := []) (o := 5) 34 rfl ok_X2_part im_X2_part se_X2_part ml_2_111 isC_2 ob_5 (Ob.lt ob_5) rfl (by omega) ⟨Nat.le_refl _, Nat.le_refl _⟩ (Nat.le_of_ble_eq_true rfl) (D_X2_product_0.at 16 rfl) (fun _ => rfl) T (fun r23 h24 T b25 => ?_)
  replace T := T b25
  refine J_if_eq 37 rfl 50 (inR_b b25) (D_X2_product_0.at 17 rfl) (by decide) (fun c30 => ?_) (fun c30 => ?_)
  · replace T := T.1 c30
    refine J_iconst 51 rfl (D_X2_product_0.at 24 rfl) ?_
    refine J_istore_n (lv' := [(1, vI 0), (0, vR 5), (2, vI v2)]) 52 rfl 1 (by decide) rfl (D_X2_product_0.at 25 rfl) ?_
    refine J_goto 94 (D_X2_product_0.at 26 rfl) (by decide) ?_
    refine J_iinc (v := (v2 + 1)) (lv' := [(2, vI (v2 + 1)), (1, vI 0), (0, vR 5)]) 97 rfl 2 2 1 rfl rfl (by decide) rfl (D_X2_product_0.at 46 rfl) ?_
    refine J_goto 7 (D_X2_product_0.at 47 rfl) (by decide) ?_
    exact J_sub (lv' := [(0, vR 5), (1, vI 0), (2, vI (v2 + 1))]) [2, 1, 0] rfl T
  replace T := T.2 c30
  refine J_aload_n 38 rfl 0 0 rfl ⟨by decide, by decide⟩ (D_X2_product_0.at 18 rfl) ?_
  refine J_bipush 40 rfl ⟨by decide, by decide⟩ (D_X2_product_0.at 19 rfl) ?_
  refine J_callV (d' := 2) (sr := fun z => [vI z]) (as := [vI (-3)]) (st := []) (o := 5) 43 rfl ok_X2_put im_X2_put se_X2_put ml_2_79 isC_2 ob_5 (Ob.lt ob_5) rfl (by omega) ⟨Nat.le_refl _, Nat.le_refl _⟩ (Nat.le_of_ble_eq_true rfl) (D_X2_product_0.at 20 rfl) (fun _ => rfl) T (fun r26 h27 T b28 => ?_)
  replace T := T b28
  refine J_if_eq 46 rfl 50 (inR_b b28) (D_X2_product_0.at 21 rfl) (by decide) (fun c29 => ?_) (fun c29 => ?_)
  · replace T := T.1 c29
    refine J_iconst 51 rfl (D_X2_product_0.at 24 rfl) ?_
    refine J_istore_n (lv' := [(1, vI 0), (0, vR 5), (2, vI v2)]) 52 rfl 1 (by decide) rfl (D_X2_product_0.at 25 rfl) ?_
    refine J_goto 94 (D_X2_product_0.at 26 rfl) (by decide) ?_
    refine J_iinc (v := (v2 + 1)) (lv' := [(2, vI (v2 + 1)), (1, vI 0), (0, vR 5)]) 97 rfl 2 2 1 rfl rfl (by decide) rfl (D_X2_product_0.at 46 rfl) ?_
    refine J_goto 7 (D_X2_product_0.at 47 rfl) (by decide) ?_
    exact J_sub (lv' := [(0, vR 5), (1, vI 0), (2, vI (v2 + 1))]) [2, 1, 0] rfl T
  replace T := T.2 c29
  refine J_iconst 47 rfl (D_X2_product_0.at 22 rfl) ?_
  refine J_goto 51 (D_X2_product_0.at 23 rfl) (by decide) ?_
  refine J_istore_n (lv' := [(1, vI 1), (0, vR 5), (2, vI v2)]) 52 rfl 1 (by decide) rfl (D_X2_product_0.at 25 rfl) ?_
  refine J_goto 94 (D_X2_product_0.at 26 rfl) (by decide) ?_
  refine J_iinc (v := (v2 + 1)) (lv' := [(2, vI (v2 + 1)), (1, vI 1), (0, vR 5)]) 97 rfl 2 2 1 rfl rfl (by decide) rfl (D_X2_product_0.at 46 rfl) ?_
  refine J_goto 7 (D_X2_product_0.at 47 rfl) (by decide) ?_
  exact J_sub (lv' := [(0, vR 5), (1, vI 1), (2, vI (v2 + 1))]) [2, 1, 0] rfl T
theorem c_X2_part {w : Wd} {e : Nat} (he : 12 ≤ e) {h : Hp} {K : Int → Hp → Prop} (T : C_X10_isDigitNext w h (fun r1 h2 => (r1 = 0 ∨ r1 = 1) → ((r1 = 0) → (C_X10_sign w 40 h2 (fun r4 h5 => (r4 = 0 ∨ r4 = 1) → ((r4 = 0) → (C_X10_word w 1011 h5 (fun r7 h8 => (r7 = 0 ∨ r7 = 1) → ((r7 = 0) → (C_X10_word w 1012 h8 (fun r10 h11 => (r10 = 0 ∨ r10 = 1) → ((r10 = 0) → (C_X10_word w 1013 h11 (fun r13 h14 => (r13 = 0 ∨ r13 = 1) → ((r13 = 0) → ((inR (h14 5 4)) ∧ ((((h14 5 4) = 0) → (C_X2_riverPart w h14 (fun r17 h18 => (r17 = 0 ∨ r17 = 1) → K r17 h18))) ∧ (¬ ((h14 5 4) = 0) → (C_X2_askedPart w e h14 (fun r20 h21 => (r20 = 0 ∨ r20 = 1) → K r20 h21)))))) ∧ (¬ (r13 = 0) → (C_X2_put w (-20) h14 (fun r24 h25 => (r24 = 0 ∨ r24 = 1) → K r24 h25)))))) ∧ (¬ (r10 = 0) → (C_X2_pair w e h11 (fun r28 h29 => (r28 = 0 ∨ r28 = 1) → ((r28 = 0) → (K 0 h29)) ∧ (¬ (r28 = 0) → (C_X2_put w (-6) h29 (fun r31 h32 => (r31 = 0 ∨ r31 = 1) → ((r31 = 0) → (K 0 h32)) ∧ (¬ (r31 = 0) → (K 1 h32))))))))))) ∧ (¬ (r7 = 0) → (C_X2_pair w e h8 (fun r37 h38 => (r37 = 0 ∨ r37 = 1) → ((r37 = 0) → (K 0 h38)) ∧ (¬ (r37 = 0) → (C_X2_put w (-5) h38 (fun r40 h41 => (r40 = 0 ∨ r40 = 1) → ((r40 = 0) → (K 0 h41)) ∧ (¬ (r40 = 0) → (K 1 h41))))))))))) ∧ (¬ (r4 = 0) → (C_X2_goIn w h5 (fun r46 h47 => (r46 = 0 ∨ r46 = 1) → ((r46 = 0) → (K 0 h47)) ∧ (¬ (r46 = 0) → (C_X2_sum w e h47 (fun r49 h50 => (r49 = 0 ∨ r49 = 1) → ((r49 = 0) → (K 0 h50)) ∧ (¬ (r49 = 0) → (C_X10_needSign w 41 h50 (fun r52 h53 => (r52 = 0 ∨ r52 = 1) → ((r52 = 0) → (K 0 h53)) ∧ (¬ (r52 = 0) → (C_X2_goOut w h53 (fun r55 h56 => (r55 = 0 ∨ r55 = 1) → ((r55 = 0) → (K 0 h56)) ∧ (¬ (r55 = 0) → (K 1 h56))))))))))))))))) ∧ (¬ (r1 = 0) → (C_X10_number w 0 9999 h2 (fun r63 h64 => C_X2_put w r63 h64 (fun r66 h67 => (r66 = 0 ∨ r66 = 1) → K r66 h67)))))) : C_X2_part w (e + 1) h K := by
  refine CGm_of2 (by decide) (by decide) trivial (Nat.le_of_ble_eq_true rfl) ?_
  refine J_aload_n 1 rfl 0 0 rfl ⟨by decide, by decide⟩ (D_X2_part_0.at 0 rfl) ?_
  refine J_getF (ov := 1) (dd := 996) 4 rfl fl_2_9 rfl (by decide) rfl ob_5 (Ob.lt ob_5) (D_X2_part_0.at 1 rfl) ?_
  refine J_callV (d' := 2) (sr := fun z => [vI z]) (as := []) (st := []) (o := 1) 7 rfl ok_X10_isDigitNext im_X10_isDigitNext se_X10_isDigitNext ml_2_114 isC_10 ob_1 (Ob.lt ob_1) rfl (by omega) ⟨Nat.le_refl _, Nat.le_refl _⟩ (Nat.le_of_ble_eq_true rfl) (D_X2_part_0.at 2 rfl) (fun _ => rfl) T (fun r1 h2 T b3 => ?_)
  replace T := T b3
  refine J_if_eq 10 rfl 26 (inR_b b3) (D_X2_part_0.at 3 rfl) (by decide) (fun c69 => ?_) (fun c69 => ?_)
  · replace T := T.1 c69
    refine J_aload_n 27 rfl 0 0 rfl ⟨by decide, by decide⟩ (D_X2_part_0.at 12 rfl) ?_
    refine J_getF (ov := 1) (dd := 996) 30 rfl fl_2_9 rfl (by decide) rfl ob_5 (Ob.lt ob_5) (D_X2_part_0.at 13 rfl) ?_
    refine J_bipush 32 rfl ⟨by decide, by decide⟩ (D_X2_part_0.at 14 rfl) ?_
    refine J_callV (d' := 2) (sr := fun z => [vI z]) (as := [vI 40]) (st := []) (o := 1) 35 rfl ok_X10_sign im_X10_sign se_X10_sign ml_2_96 isC_10 ob_1 (Ob.lt ob_1) rfl (by omega) ⟨Nat.le_refl _, Nat.le_refl _⟩ (Nat.le_of_ble_eq_true rfl) (D_X2_part_0.at 15 rfl) (fun _ => rfl) T (fun r4 h5 T b6 => ?_)
    replace T := T b6
    refine J_if_eq 38 rfl 77 (inR_b b6) (D_X2_part_0.at 16 rfl) (by decide) (fun c62 => ?_) (fun c62 => ?_)
    · replace T := T.1 c62
      refine J_aload_n 78 rfl 0 0 rfl ⟨by decide, by decide⟩ (D_X2_part_0.at 35 rfl) ?_
      refine J_getF (ov := 1) (dd := 996) 81 rfl fl_2_9 rfl (by decide) rfl ob_5 (Ob.lt ob_5) (D_X2_part_0.at 36 rfl) ?_
      refine J_ldcsE (tx := "min") 83 rfl 11 (v := 1011) rfl (by decide) (List.mem_of_getElem? (i := 11) rfl) (D_X2_part_0.at 37 rfl) ?_
      refine J_callV (d' := 7) (sr := fun z => [vI z]) (as := [vR 1011]) (st := []) (o := 1) 86 rfl ok_X10_word im_X10_word se_X10_word ml_2_60 isC_10 ob_1 (Ob.lt ob_1) rfl (by omega) ⟨Nat.le_refl _, Nat.le_refl _⟩ (Nat.le_of_ble_eq_true rfl) (D_X2_part_0.at 38 rfl) (fun _ => rfl) T (fun r7 h8 T b9 => ?_)
      replace T := T b9
      refine J_if_eq 89 rfl 111 (inR_b b9) (D_X2_part_0.at 39 rfl) (by decide) (fun c45 => ?_) (fun c45 => ?_)
      · replace T := T.1 c45
        refine J_aload_n 112 rfl 0 0 rfl ⟨by decide, by decide⟩ (D_X2_part_1.at 3 rfl) ?_
        refine J_getF (ov := 1) (dd := 996) 115 rfl fl_2_9 rfl (by decide) rfl ob_5 (Ob.lt ob_5) (D_X2_part_1.at 4 rfl) ?_
        refine J_ldcsE (tx := "max") 117 rfl 12 (v := 1012) rfl (by decide) (List.mem_of_getElem? (i := 12) rfl) (D_X2_part_1.at 5 rfl) ?_
        refine J_callV (d' := 7) (sr := fun z => [vI z]) (as := [vR 1012]) (st := []) (o := 1) 120 rfl ok_X10_word im_X10_word se_X10_word ml_2_60 isC_10 ob_1 (Ob.lt ob_1) rfl (by omega) ⟨Nat.le_refl _, Nat.le_refl _⟩ (Nat.le_of_ble_eq_true rfl) (D_X2_part_1.at 6 rfl) (fun _ => rfl) T (fun r10 h11 T b12 => ?_)
        replace T := T b12
        refine J_if_eq 123 rfl 145 (inR_b b12) (D_X2_part_1.at 7 rfl) (by decide) (fun c36 => ?_) (fun c36 => ?_)
        · replace T := T.1 c36
          refine J_aload_n 146 rfl 0 0 rfl ⟨by decide, by decide⟩ (D_X2_part_1.at 19 rfl) ?_
          refine J_getF (ov := 1) (dd := 996) 149 rfl fl_2_9 rfl (by decide) rfl ob_5 (Ob.lt ob_5) (D_X2_part_1.at 20 rfl) ?_
          refine J_ldcsE (tx := "level") 151 rfl 13 (v := 1013) rfl (by decide) (List.mem_of_getElem? (i := 13) rfl) (D_X2_part_1.at 21 rfl) ?_
          refine J_callV (d' := 7) (sr := fun z => [vI z]) (as := [vR 1013]) (st := []) (o := 1) 154 rfl ok_X10_word im_X10_word se_X10_word ml_2_60 isC_10 ob_1 (Ob.lt ob_1) rfl (by omega) ⟨Nat.le_refl _, Nat.le_refl _⟩ (Nat.le_of_ble_eq_true rfl) (D_X2_part_1.at 22 rfl) (fun _ => rfl) T (fun r13 h14 T b15 => ?_)
          replace T := T b15
          refine J_if_eq 157 rfl 164 (inR_b b15) (D_X2_part_1.at 23 rfl) (by decide) (fun c27 => ?_) (fun c27 => ?_)
          · replace T := T.1 c27
            refine J_aload_n 165 rfl 0 0 rfl ⟨by decide, by decide⟩ (D_X2_part_1.at 28 rfl) ?_
            refine J_getI (z := (h14 5 4)) 168 rfl fl_2_54 rfl ob_5 (Ob.lt ob_5) (D_X2_part_1.at 29 rfl) rfl ?_
            obtain ⟨s16, T⟩ := T
            refine J_if_eq 171 rfl 178 s16 (D_X2_part_1.at 30 rfl) (by decide) (fun c23 => ?_) (fun c23 => ?_)
            · replace T := T.1 c23
              refine J_aload_n 179 rfl 0 0 rfl ⟨by decide, by decide⟩ (D_X2_part_1.at 34 rfl) ?_
              refine J_callV (d' := 8) (sr := fun z => [vI z]) (as := []) (st := []) (o := 5) 182 rfl ok_X2_riverPart im_X2_riverPart se_X2_riverPart ml_2_133 isC_2 ob_5 (Ob.lt ob_5) rfl (by omega) ⟨Nat.le_refl _, Nat.le_refl _⟩ (Nat.le_of_ble_eq_true rfl) (D_X2_part_1.at 35 rfl) (fun _ => rfl) T (fun r17 h18 T b19 => ?_)
              replace T := T b19
              exact J_zret rfl b19 (D_X2_part_1.at 36 rfl) T
            replace T := T.2 c23
            refine J_aload_n 172 rfl 0 0 rfl ⟨by decide, by decide⟩ (D_X2_part_1.at 31 rfl) ?_
            refine J_callV (d' := (e + 1)) (sr := fun z => [vI z]) (as := []) (st := []) (o := 5) 175 rfl ok_X2_askedPart im_X2_askedPart se_X2_askedPart ml_2_130 isC_2 ob_5 (Ob.lt ob_5) rfl (by omega) ⟨Nat.le_refl _, Nat.le_refl _⟩ (Nat.le_of_ble_eq_true rfl) (D_X2_part_1.at 32 rfl) (fun _ => rfl) T (fun r20 h21 T b22 => ?_)
            replace T := T b22
            refine J_goto 182 (D_X2_part_1.at 33 rfl) (by decide) ?_
            exact J_zret rfl b22 (D_X2_part_1.at 36 rfl) T
          replace T := T.2 c27
          refine J_aload_n 158 rfl 0 0 rfl ⟨by decide, by decide⟩ (D_X2_part_1.at 24 rfl) ?_
          refine J_bipush 160 rfl ⟨by decide, by decide⟩ (D_X2_part_1.at 25 rfl) ?_
          refine J_callV (d' := 2) (sr := fun z => [vI z]) (as := [vI (-20)]) (st := []) (o := 5) 163 rfl ok_X2_put im_X2_put se_X2_put ml_2_79 isC_2 ob_5 (Ob.lt ob_5) rfl (by omega) ⟨Nat.le_refl _, Nat.le_refl _⟩ (Nat.le_of_ble_eq_true rfl) (D_X2_part_1.at 26 rfl) (fun _ => rfl) T (fun r24 h25 T b26 => ?_)
          replace T := T b26
          exact J_zret rfl b26 (D_X2_part_1.at 27 rfl) T
        replace T := T.2 c36
        refine J_aload_n 124 rfl 0 0 rfl ⟨by decide, by decide⟩ (D_X2_part_1.at 8 rfl) ?_
        refine J_callV (d' := (e + 1)) (sr := fun z => [vI z]) (as := []) (st := []) (o := 5) 127 rfl ok_X2_pair im_X2_pair se_X2_pair ml_2_123 isC_2 ob_5 (Ob.lt ob_5) rfl (by omega) ⟨Nat.le_refl _, Nat.le_refl _⟩ (Nat.le_of_ble_eq_true rfl) (D_X2_part_1.at 9 rfl) (fun _ => rfl) T (fun r28 h29 T b30 => ?_)
        replace T := T b30
        refine J_if_eq 130 rfl 143 (inR_b b30) (D_X2_part_1.at 10 rfl) (by decide) (fun c35 => ?_) (fun c35 => ?_)
        · replace T := T.1 c35
          refine J_iconst 144 rfl (D_X2_part_1.at 17 rfl) ?_
          exact J_zret rfl (Or.inl rfl) (D_X2_part_1.at 18 rfl) T
        replace T := T.2 c35
        refine J_aload_n 131 rfl 0 0 rfl ⟨by decide, by decide⟩ (D_X2_part_1.at 11 rfl) ?_
        refine J_bipush 133 rfl ⟨by decide, by decide⟩ (D_X2_part_1.at 12 rfl) ?_
        refine J_callV (d' := 2) (sr := fun z => [vI z]) (as := [vI (-6)]) (st := []) (o := 5) 136 rfl ok_X2_put im_X2_put se_X2_put ml_2_79 isC_2 ob_5 (Ob.lt ob_5) rfl (by omega) ⟨Nat.le_refl _, Nat.le_refl _⟩ (Nat.le_of_ble_eq_true rfl) (D_X2_part_1.at 13 rfl) (fun _ => rfl) T (fun r31 h32 T b33 => ?_)
        replace T := T b33
        refine J_if_eq 139 rfl 143 (inR_b b33) (D_X2_part_1.at 14 rfl) (by decide) (fun c34 => ?_) (fun c34 => ?_)
        · replace T := T.1 c34
          refine J_iconst 144 rfl (D_X2_part_1.at 17 rfl) ?_
          exact J_zret rfl (Or.inl rfl) (D_X2_part_1.at 18 rfl) T
        replace T := T.2 c34
        refine J_iconst 140 rfl (D_X2_part_1.at 15 rfl) ?_
        refine J_goto 144 (D_X2_part_1.at 16 rfl) (by decide) ?_
        exact J_zret rfl (Or.inr rfl) (D_X2_part_1.at 18 rfl) T
      replace T := T.2 c45
      refine J_aload_n 90 rfl 0 0 rfl ⟨by decide, by decide⟩ (D_X2_part_0.at 40 rfl) ?_
      refine J_callV (d' := (e + 1)) (sr := fun z => [vI z]) (as := []) (st := []) (o := 5) 93 rfl ok_X2_pair im_X2_pair se_X2_pair ml_2_123 isC_2 ob_5 (Ob.lt ob_5) rfl (by omega) ⟨Nat.le_refl _, Nat.le_refl _⟩ (Nat.le_of_ble_eq_true rfl) (D_X2_part_0.at 41 rfl) (fun _ => rfl) T (fun r37 h38 T b39 => ?_)
      replace T := T b39
      refine J_if_eq 96 rfl 109 (inR_b b39) (D_X2_part_0.at 42 rfl) (by decide) (fun c44 => ?_) (fun c44 => ?_)
      · replace T := T.1 c44
        refine J_iconst 110 rfl (D_X2_part_1.at 1 rfl) ?_
        exact J_zret rfl (Or.inl rfl) (D_X2_part_1.at 2 rfl) T
      replace T := T.2 c44
      refine J_aload_n 97 rfl 0 0 rfl ⟨by decide, by decide⟩ (D_X2_part_0.at 43 rfl) ?_
      refine J_bipush 99 rfl ⟨by decide, by decide⟩ (D_X2_part_0.at 44 rfl) ?_
      refine J_callV (d' := 2) (sr := fun z => [vI z]) (as := [vI (-5)]) (st := []) (o := 5) 102 rfl ok_X2_put im_X2_put se_X2_put ml_2_79 isC_2 ob_5 (Ob.lt ob_5) rfl (by omega) ⟨Nat.le_refl _, Nat.le_refl _⟩ (Nat.le_of_ble_eq_true rfl) (D_X2_part_0.at 45 rfl) (fun _ => rfl) T (fun r40 h41 T b42 => ?_)
      replace T := T b42
      refine J_if_eq 105 rfl 109 (inR_b b42) (D_X2_part_0.at 46 rfl) (by decide) (fun c43 => ?_) (fun c43 => ?_)
      · replace T := T.1 c43
        refine J_iconst 110 rfl (D_X2_part_1.at 1 rfl) ?_
        exact J_zret rfl (Or.inl rfl) (D_X2_part_1.at 2 rfl) T
      replace T := T.2 c43
      refine J_iconst 106 rfl (D_X2_part_0.at 47 rfl) ?_
      refine J_goto 110 (D_X2_part_1.at 0 rfl) (by decide) ?_
      exact J_zret rfl (Or.inr rfl) (D_X2_part_1.at 2 rfl) T
    replace T := T.2 c62
    refine J_aload_n 39 rfl 0 0 rfl ⟨by decide, by decide⟩ (D_X2_part_0.at 17 rfl) ?_
    refine J_callV (d' := 2) (sr := fun z => [vI z]) (as := []) (st := []) (o := 5) 42 rfl ok_X2_goIn im_X2_goIn se_X2_goIn ml_2_90 isC_2 ob_5 (Ob.lt ob_5) rfl (by omega) ⟨Nat.le_refl _, Nat.le_refl _⟩ (Nat.le_of_ble_eq_true rfl) (D_X2_part_0.at 18 rfl) (fun _ => rfl) T (fun r46 h47 T b48 => ?_)
    replace T := T b48
    refine J_if_eq 45 rfl 75 (inR_b b48) (D_X2_part_0.at 19 rfl) (by decide) (fun c61 => ?_) (fun c61 => ?_)
    · replace T := T.1 c61
      refine J_iconst 76 rfl (D_X2_part_0.at 33 rfl) ?_
      exact J_zret rfl (Or.inl rfl) (D_X2_part_0.at 34 rfl) T
    replace T := T.2 c61
    refine J_aload_n 46 rfl 0 0 rfl ⟨by decide, by decide⟩ (D_X2_part_0.at 20 rfl) ?_
    refine J_callV (d' := (e + 1)) (sr := fun z => [vI z]) (as := []) (st := []) (o := 5) 49 rfl ok_X2_sum im_X2_sum se_X2_sum ml_2_26 isC_2 ob_5 (Ob.lt ob_5) rfl (by omega) ⟨Nat.le_refl _, Nat.le_refl _⟩ (Nat.le_of_ble_eq_true rfl) (D_X2_part_0.at 21 rfl) (fun _ => rfl) T (fun r49 h50 T b51 => ?_)
    replace T := T b51
    refine J_if_eq 52 rfl 75 (inR_b b51) (D_X2_part_0.at 22 rfl) (by decide) (fun c60 => ?_) (fun c60 => ?_)
    · replace T := T.1 c60
      refine J_iconst 76 rfl (D_X2_part_0.at 33 rfl) ?_
      exact J_zret rfl (Or.inl rfl) (D_X2_part_0.at 34 rfl) T
    replace T := T.2 c60
    refine J_aload_n 53 rfl 0 0 rfl ⟨by decide, by decide⟩ (D_X2_part_0.at 23 rfl) ?_
    refine J_getF (ov := 1) (dd := 996) 56 rfl fl_2_9 rfl (by decide) rfl ob_5 (Ob.lt ob_5) (D_X2_part_0.at 24 rfl) ?_
    refine J_bipush 58 rfl ⟨by decide, by decide⟩ (D_X2_part_0.at 25 rfl) ?_
    refine J_callV (d' := 3) (sr := fun z => [vI z]) (as := [vI 41]) (st := []) (o := 1) 61 rfl ok_X10_needSign im_X10_needSign se_X10_needSign ml_2_100 isC_10 ob_1 (Ob.lt ob_1) rfl (by omega) ⟨Nat.le_refl _, Nat.le_refl _⟩ (Nat.le_of_ble_eq_true rfl) (D_X2_part_0.at 26 rfl) (fun _ => rfl) T (fun r52 h53 T b54 => ?_)
    replace T := T b54
    refine J_if_eq 64 rfl 75 (inR_b b54) (D_X2_part_0.at 27 rfl) (by decide) (fun c59 => ?_) (fun c59 => ?_)
    · replace T := T.1 c59
      refine J_iconst 76 rfl (D_X2_part_0.at 33 rfl) ?_
      exact J_zret rfl (Or.inl rfl) (D_X2_part_0.at 34 rfl) T
    replace T := T.2 c59
    refine J_aload_n 65 rfl 0 0 rfl ⟨by decide, by decide⟩ (D_X2_part_0.at 28 rfl) ?_
    refine J_callV (d' := 1) (sr := fun z => [vI z]) (as := []) (st := []) (o := 5) 68 rfl ok_X2_goOut im_X2_goOut se_X2_goOut ml_2_93 isC_2 ob_5 (Ob.lt ob_5) rfl (by omega) ⟨Nat.le_refl _, Nat.le_refl _⟩ (Nat.le_of_ble_eq_true rfl) (D_X2_part_0.at 29 rfl) (fun _ => rfl) T (fun r55 h56 T b57 => ?_)
    replace T := T b57
    refine J_if_eq 71 rfl 75 (inR_b b57) (D_X2_part_0.at 30 rfl) (by decide) (fun c58 => ?_) (fun c58 => ?_)
    · replace T := T.1 c58
      refine J_iconst 76 rfl (D_X2_part_0.at 33 rfl) ?_
      exact J_zret rfl (Or.inl rfl) (D_X2_part_0.at 34 rfl) T
    replace T := T.2 c58
    refine J_iconst 72 rfl (D_X2_part_0.at 31 rfl) ?_
    refine J_goto 76 (D_X2_part_0.at 32 rfl) (by decide) ?_
    exact J_zret rfl (Or.inr rfl) (D_X2_part_0.at 34 rfl) T
  replace T := T.2 c69
  refine J_aload_n 11 rfl 0 0 rfl ⟨by decide, by decide⟩ (D_X2_part_0.at 4 rfl) ?_
  refine J_aload_n 12 rfl 0 0 rfl ⟨by decide, by decide⟩ (D_X2_part_0.at 5 rfl) ?_
  refine J_getF (ov := 1) (dd := 996) 15 rfl fl_2_9 rfl (by decide) rfl ob_5 (Ob.lt ob_5) (D_X2_part_0.at 6 rfl) ?_
  refine J_iconst 16 rfl (D_X2_part_0.at 7 rfl) ?_
  refine J_sipush 19 rfl ⟨by decide, by decide⟩ (D_X2_part_0.at 8 rfl) ?_
  refine J_callV (d' := 3) (sr := fun z => [vI z, vR 5]) (as := [vI 0, vI 9999]) (st := [vR 5]) (o := 1) 22 rfl ok_X10_number im_X10_number se_X10_number ml_2_117 isC_10 ob_1 (Ob.lt ob_1) rfl (by omega) ⟨Nat.le_refl _, Nat.le_refl _⟩ (Nat.le_of_ble_eq_true rfl) (D_X2_part_0.at 9 rfl) (fun _ => rfl) T (fun r63 h64 T b65 => ?_)
  refine J_callV (d' := 2) (sr := fun z => [vI z]) (as := [vI r63]) (st := []) (o := 5) 25 rfl ok_X2_put im_X2_put se_X2_put ml_2_79 isC_2 ob_5 (Ob.lt ob_5) rfl (by omega) ⟨Nat.le_refl _, Nat.le_refl _⟩ (Nat.le_of_ble_eq_true rfl) (D_X2_part_0.at 10 rfl) (fun _ => rfl) T (fun r66 h67 T b68 => ?_)
  replace T := T b68
  exact J_zret rfl b68 (D_X2_part_0.at 11 rfl) T
theorem c_X2_pair {w : Wd} {e : Nat} (he : 12 ≤ e) {h : Hp} {K : Int → Hp → Prop} (T : C_X10_needSign w 40 h (fun r1 h2 => (r1 = 0 ∨ r1 = 1) → ((r1 = 0) → (K 0 h2)) ∧ (¬ (r1 = 0) → (C_X2_goIn w h2 (fun r4 h5 => (r4 = 0 ∨ r4 = 1) → ((r4 = 0) → (K 0 h5)) ∧ (¬ (r4 = 0) → (C_X2_sum w e h5 (fun r7 h8 => (r7 = 0 ∨ r7 = 1) → ((r7 = 0) → (K 0 h8)) ∧ (¬ (r7 = 0) → (C_X10_needSign w 44 h8 (fun r10 h11 => (r10 = 0 ∨ r10 = 1) → ((r10 = 0) → (K 0 h11)) ∧ (¬ (r10 = 0) → (C_X2_sum w e h11 (fun r13 h14 => (r13 = 0 ∨ r13 = 1) → ((r13 = 0) → (K 0 h14)) ∧ (¬ (r13 = 0) → (C_X10_needSign w 41 h14 (fun r16 h17 => (r16 = 0 ∨ r16 = 1) → ((r16 = 0) → (K 0 h17)) ∧ (¬ (r16 = 0) → (C_X2_goOut w h17 (fun r19 h20 => (r19 = 0 ∨ r19 = 1) → ((r19 = 0) → (K 0 h20)) ∧ (¬ (r19 = 0) → (K 1 h20)))))))))))))))))))))) : C_X2_pair w (e + 1) h K := by
  refine CGm_of2 (by decide) (by decide) trivial (Nat.le_of_ble_eq_true rfl) ?_
  refine J_aload_n 1 rfl 0 0 rfl ⟨by decide, by decide⟩ (D_X2_pair_0.at 0 rfl) ?_
  refine J_getF (ov := 1) (dd := 996) 4 rfl fl_2_9 rfl (by decide) rfl ob_5 (Ob.lt ob_5) (D_X2_pair_0.at 1 rfl) ?_
  refine J_bipush 6 rfl ⟨by decide, by decide⟩ (D_X2_pair_0.at 2 rfl) ?_
  refine J_callV (d' := 3) (sr := fun z => [vI z]) (as := [vI 40]) (st := []) (o := 1) 9 rfl ok_X10_needSign im_X10_needSign se_X10_needSign ml_2_100 isC_10 ob_1 (Ob.lt ob_1) rfl (by omega) ⟨Nat.le_refl _, Nat.le_refl _⟩ (Nat.le_of_ble_eq_true rfl) (D_X2_pair_0.at 3 rfl) (fun _ => rfl) T (fun r1 h2 T b3 => ?_)
  replace T := T b3
  refine J_if_eq 12 rfl 68 (inR_b b3) (D_X2_pair_0.at 4 rfl) (by decide) (fun c28 => ?_) (fun c28 => ?_)
  · replace T := T.1 c28
    refine J_iconst 69 rfl (D_X2_pair_0.at 29 rfl) ?_
    exact J_zret rfl (Or.inl rfl) (D_X2_pair_0.at 30 rfl) T
  replace T := T.2 c28
  refine J_aload_n 13 rfl 0 0 rfl ⟨by decide, by decide⟩ (D_X2_pair_0.at 5 rfl) ?_
  refine J_callV (d' := 2) (sr := fun z => [vI z]) (as := []) (st := []) (o := 5) 16 rfl ok_X2_goIn im_X2_goIn se_X2_goIn ml_2_90 isC_2 ob_5 (Ob.lt ob_5) rfl (by omega) ⟨Nat.le_refl _, Nat.le_refl _⟩ (Nat.le_of_ble_eq_true rfl) (D_X2_pair_0.at 6 rfl) (fun _ => rfl) T (fun r4 h5 T b6 => ?_)
  replace T := T b6
  refine J_if_eq 19 rfl 68 (inR_b b6) (D_X2_pair_0.at 7 rfl) (by decide) (fun c27 => ?_) (fun c27 => ?_)
  · replace T := T.1 c27
    refine J_iconst 69 rfl (D_X2_pair_0.at 29 rfl) ?_
    exact J_zret rfl (Or.inl rfl) (D_X2_pair_0.at 30 rfl) T
  replace T := T.2 c27
  refine J_aload_n 20 rfl 0 0 rfl ⟨by decide, by decide⟩ (D_X2_pair_0.at 8 rfl) ?_
  refine J_callV (d' := (e + 1)) (sr := fun z => [vI z]) (as := []) (st := []) (o := 5) 23 rfl ok_X2_sum im_X2_sum se_X2_sum ml_2_26 isC_2 ob_5 (Ob.lt ob_5) rfl (by omega) ⟨Nat.le_refl _, Nat.le_refl _⟩ (Nat.le_of_ble_eq_true rfl) (D_X2_pair_0.at 9 rfl) (fun _ => rfl) T (fun r7 h8 T b9 => ?_)
  replace T := T b9
  refine J_if_eq 26 rfl 68 (inR_b b9) (D_X2_pair_0.at 10 rfl) (by decide) (fun c26 => ?_) (fun c26 => ?_)
  · replace T := T.1 c26
    refine J_iconst 69 rfl (D_X2_pair_0.at 29 rfl) ?_
    exact J_zret rfl (Or.inl rfl) (D_X2_pair_0.at 30 rfl) T
  replace T := T.2 c26
  refine J_aload_n 27 rfl 0 0 rfl ⟨by decide, by decide⟩ (D_X2_pair_0.at 11 rfl) ?_
  refine J_getF (ov := 1) (dd := 996) 30 rfl fl_2_9 rfl (by decide) rfl ob_5 (Ob.lt ob_5) (D_X2_pair_0.at 12 rfl) ?_
  refine J_bipush 32 rfl ⟨by decide, by decide⟩ (D_X2_pair_0.at 13 rfl) ?_
  refine J_callV (d' := 3) (sr := fun z => [vI z]) (as := [vI 44]) (st := []) (o := 1) 35 rfl ok_X10_needSign im_X10_needSign se_X10_needSign ml_2_100 isC_10 ob_1 (Ob.lt ob_1) rfl (by omega) ⟨Nat.le_refl _, Nat.le_refl _⟩ (Nat.le_of_ble_eq_true rfl) (D_X2_pair_0.at 14 rfl) (fun _ => rfl) T (fun r10 h11 T b12 => ?_)
  replace T := T b12
  refine J_if_eq 38 rfl 68 (inR_b b12) (D_X2_pair_0.at 15 rfl) (by decide) (fun c25 => ?_) (fun c25 => ?_)
  · replace T := T.1 c25
    refine J_iconst 69 rfl (D_X2_pair_0.at 29 rfl) ?_
    exact J_zret rfl (Or.inl rfl) (D_X2_pair_0.at 30 rfl) T
  replace T := T.2 c25
  refine J_aload_n 39 rfl 0 0 rfl ⟨by decide, by decide⟩ (D_X2_pair_0.at 16 rfl) ?_
  refine J_callV (d' := (e + 1)) (sr := fun z => [vI z]) (as := []) (st := []) (o := 5) 42 rfl ok_X2_sum im_X2_sum se_X2_sum ml_2_26 isC_2 ob_5 (Ob.lt ob_5) rfl (by omega) ⟨Nat.le_refl _, Nat.le_refl _⟩ (Nat.le_of_ble_eq_true rfl) (D_X2_pair_0.at 17 rfl) (fun _ => rfl) T (fun r13 h14 T b15 => ?_)
  replace T := T b15
  refine J_if_eq 45 rfl 68 (inR_b b15) (D_X2_pair_0.at 18 rfl) (by decide) (fun c24 => ?_) (fun c24 => ?_)
  · replace T := T.1 c24
    refine J_iconst 69 rfl (D_X2_pair_0.at 29 rfl) ?_
    exact J_zret rfl (Or.inl rfl) (D_X2_pair_0.at 30 rfl) T
  replace T := T.2 c24
  refine J_aload_n 46 rfl 0 0 rfl ⟨by decide, by decide⟩ (D_X2_pair_0.at 19 rfl) ?_
  refine J_getF (ov := 1) (dd := 996) 49 rfl fl_2_9 rfl (by decide) rfl ob_5 (Ob.lt ob_5) (D_X2_pair_0.at 20 rfl) ?_
  refine J_bipush 51 rfl ⟨by decide, by decide⟩ (D_X2_pair_0.at 21 rfl) ?_
  refine J_callV (d' := 3) (sr := fun z => [vI z]) (as := [vI 41]) (st := []) (o := 1) 54 rfl ok_X10_needSign im_X10_needSign se_X10_needSign ml_2_100 isC_10 ob_1 (Ob.lt ob_1) rfl (by omega) ⟨Nat.le_refl _, Nat.le_refl _⟩ (Nat.le_of_ble_eq_true rfl) (D_X2_pair_0.at 22 rfl) (fun _ => rfl) T (fun r16 h17 T b18 => ?_)
  replace T := T b18
  refine J_if_eq 57 rfl 68 (inR_b b18) (D_X2_pair_0.at 23 rfl) (by decide) (fun c23 => ?_) (fun c23 => ?_)
  · replace T := T.1 c23
    refine J_iconst 69 rfl (D_X2_pair_0.at 29 rfl) ?_
    exact J_zret rfl (Or.inl rfl) (D_X2_pair_0.at 30 rfl) T
  replace T := T.2 c23
  refine J_aload_n 58 rfl 0 0 rfl ⟨by decide, by decide⟩ (D_X2_pair_0.at 24 rfl) ?_
  refine J_callV (d' := 1) (sr := fun z => [vI z]) (as := []) (st := []) (o := 5) 61 rfl ok_X2_goOut im_X2_goOut se_X2_goOut ml_2_93 isC_2 ob_5 (Ob.lt ob_5) rfl (by omega) ⟨Nat.le_refl _, Nat.le_refl _⟩ (Nat.le_of_ble_eq_true rfl) (D_X2_pair_0.at 25 rfl) (fun _ => rfl) T (fun r19 h20 T b21 => ?_)
  replace T := T b21
  refine J_if_eq 64 rfl 68 (inR_b b21) (D_X2_pair_0.at 26 rfl) (by decide) (fun c22 => ?_) (fun c22 => ?_)
  · replace T := T.1 c22
    refine J_iconst 69 rfl (D_X2_pair_0.at 29 rfl) ?_
    exact J_zret rfl (Or.inl rfl) (D_X2_pair_0.at 30 rfl) T
  replace T := T.2 c22
  refine J_iconst 65 rfl (D_X2_pair_0.at 27 rfl) ?_
  refine J_goto 69 (D_X2_pair_0.at 28 rfl) (by decide) ?_
  exact J_zret rfl (Or.inr rfl) (D_X2_pair_0.at 30 rfl) T
theorem c_X2_askedPart {w : Wd} {e : Nat} (he : 12 ≤ e) {h : Hp} {K : Int → Hp → Prop} (T : C_X10_word w 1014 h (fun r1 h2 => (r1 = 0 ∨ r1 = 1) → ((r1 = 0) → (C_X10_word w 1015 h2 (fun r4 h5 => (r4 = 0 ∨ r4 = 1) → ((r4 = 0) → (C_X10_word w 1016 h5 (fun r7 h8 => (r7 = 0 ∨ r7 = 1) → ((r7 = 0) → (C_X10_word w 1008 h8 (fun r10 h11 => (r10 = 0 ∨ r10 = 1) → ((r10 = 0) → (C_X10_failHere w h11 (fun r13 h14 => (r13 = 0 ∨ r13 = 1) → K r13 h14))) ∧ (¬ (r10 = 0) → (C_X2_goIn w h11 (fun r16 h17 => (r16 = 0 ∨ r16 = 1) → ((r16 = 0) → (K 0 h17)) ∧ (¬ (r16 = 0) → (C_X2_part w e h17 (fun r19 h20 => (r19 = 0 ∨ r19 = 1) → ((r19 = 0) → (K 0 h20)) ∧ (¬ (r19 = 0) → (C_X2_goOut w h20 (fun r22 h23 => (r22 = 0 ∨ r22 = 1) → ((r22 = 0) → (K 0 h23)) ∧ (¬ (r22 = 0) → (C_X2_put w (-14) h23 (fun r25 h26 => (r25 = 0 ∨ r25 = 1) → ((r25 = 0) → (K 0 h26)) ∧ (¬ (r25 = 0) → (K 1 h26))))))))))))))))) ∧ (¬ (r7 = 0) → (C_X2_goIn w h8 (fun r33 h34 => (r33 = 0 ∨ r33 = 1) → ((r33 = 0) → (K 0 h34)) ∧ (¬ (r33 = 0) → (C_X2_part w e h34 (fun r36 h37 => (r36 = 0 ∨ r36 = 1) → ((r36 = 0) → (K 0 h37)) ∧ (¬ (r36 = 0) → (C_X2_goOut w h37 (fun r39 h40 => (r39 = 0 ∨ r39 = 1) → ((r39 = 0) → (K 0 h40)) ∧ (¬ (r39 = 0) → (C_X2_put w (-13) h40 (fun r42 h43 => (r42 = 0 ∨ r42 = 1) → ((r42 = 0) → (K 0 h43)) ∧ (¬ (r42 = 0) → (K 1 h43))))))))))))))))) ∧ (¬ (r4 = 0) → (C_X2_put w (-28) h5 (fun r50 h51 => (r50 = 0 ∨ r50 = 1) → K r50 h51)))))) ∧ (¬ (r1 = 0) → (C_X2_put w (-27) h2 (fun r54 h55 => (r54 = 0 ∨ r54 = 1) → K r54 h55))))) : C_X2_askedPart w (e + 1) h K := by
  refine CGm_of2 (by decide) (by decide) trivial (Nat.le_of_ble_eq_true rfl) ?_
  refine J_aload_n 1 rfl 0 0 rfl ⟨by decide, by decide⟩ (D_X2_askedPart_0.at 0 rfl) ?_
  refine J_getF (ov := 1) (dd := 996) 4 rfl fl_2_9 rfl (by decide) rfl ob_5 (Ob.lt ob_5) (D_X2_askedPart_0.at 1 rfl) ?_
  refine J_ldcsE (tx := "taken") 6 rfl 14 (v := 1014) rfl (by decide) (List.mem_of_getElem? (i := 14) rfl) (D_X2_askedPart_0.at 2 rfl) ?_
  refine J_callV (d' := 7) (sr := fun z => [vI z]) (as := [vR 1014]) (st := []) (o := 1) 9 rfl ok_X10_word im_X10_word se_X10_word ml_2_60 isC_10 ob_1 (Ob.lt ob_1) rfl (by omega) ⟨Nat.le_refl _, Nat.le_refl _⟩ (Nat.le_of_ble_eq_true rfl) (D_X2_askedPart_0.at 3 rfl) (fun _ => rfl) T (fun r1 h2 T b3 => ?_)
  replace T := T b3
  refine J_if_eq 12 rfl 19 (inR_b b3) (D_X2_askedPart_0.at 4 rfl) (by decide) (fun c57 => ?_) (fun c57 => ?_)
  · replace T := T.1 c57
    refine J_aload_n 20 rfl 0 0 rfl ⟨by decide, by decide⟩ (D_X2_askedPart_0.at 9 rfl) ?_
    refine J_getF (ov := 1) (dd := 996) 23 rfl fl_2_9 rfl (by decide) rfl ob_5 (Ob.lt ob_5) (D_X2_askedPart_0.at 10 rfl) ?_
    refine J_ldcsE (tx := "sea") 25 rfl 15 (v := 1015) rfl (by decide) (List.mem_of_getElem? (i := 15) rfl) (D_X2_askedPart_0.at 11 rfl) ?_
    refine J_callV (d' := 7) (sr := fun z => [vI z]) (as := [vR 1015]) (st := []) (o := 1) 28 rfl ok_X10_word im_X10_word se_X10_word ml_2_60 isC_10 ob_1 (Ob.lt ob_1) rfl (by omega) ⟨Nat.le_refl _, Nat.le_refl _⟩ (Nat.le_of_ble_eq_true rfl) (D_X2_askedPart_0.at 12 rfl) (fun _ => rfl) T (fun r4 h5 T b6 => ?_)
    replace T := T b6
    refine J_if_eq 31 rfl 38 (inR_b b6) (D_X2_askedPart_0.at 13 rfl) (by decide) (fun c53 => ?_) (fun c53 => ?_)
    · replace T := T.1 c53
      refine J_aload_n 39 rfl 0 0 rfl ⟨by decide, by decide⟩ (D_X2_askedPart_0.at 18 rfl) ?_
      refine J_getF (ov := 1) (dd := 996) 42 rfl fl_2_9 rfl (by decide) rfl ob_5 (Ob.lt ob_5) (D_X2_askedPart_0.at 19 rfl) ?_
      refine J_ldcsE (tx := "lies") 44 rfl 16 (v := 1016) rfl (by decide) (List.mem_of_getElem? (i := 16) rfl) (D_X2_askedPart_0.at 20 rfl) ?_
      refine J_callV (d' := 7) (sr := fun z => [vI z]) (as := [vR 1016]) (st := []) (o := 1) 47 rfl ok_X10_word im_X10_word se_X10_word ml_2_60 isC_10 ob_1 (Ob.lt ob_1) rfl (by omega) ⟨Nat.le_refl _, Nat.le_refl _⟩ (Nat.le_of_ble_eq_true rfl) (D_X2_askedPart_0.at 21 rfl) (fun _ => rfl) T (fun r7 h8 T b9 => ?_)
      replace T := T b9
      refine J_if_eq 50 rfl 86 (inR_b b9) (D_X2_askedPart_0.at 22 rfl) (by decide) (fun c49 => ?_) (fun c49 => ?_)
      · replace T := T.1 c49
        refine J_aload_n 87 rfl 0 0 rfl ⟨by decide, by decide⟩ (D_X2_askedPart_0.at 40 rfl) ?_
        refine J_getF (ov := 1) (dd := 996) 90 rfl fl_2_9 rfl (by decide) rfl ob_5 (Ob.lt ob_5) (D_X2_askedPart_0.at 41 rfl) ?_
        refine J_ldcsE (tx := "holds") 92 rfl 8 (v := 1008) rfl (by decide) (List.mem_of_getElem? (i := 17) rfl) (D_X2_askedPart_0.at 42 rfl) ?_
        refine J_callV (d' := 7) (sr := fun z => [vI z]) (as := [vR 1008]) (st := []) (o := 1) 95 rfl ok_X10_word im_X10_word se_X10_word ml_2_60 isC_10 ob_1 (Ob.lt ob_1) rfl (by omega) ⟨Nat.le_refl _, Nat.le_refl _⟩ (Nat.le_of_ble_eq_true rfl) (D_X2_askedPart_0.at 43 rfl) (fun _ => rfl) T (fun r10 h11 T b12 => ?_)
        replace T := T b12
        refine J_if_eq 98 rfl 134 (inR_b b12) (D_X2_askedPart_0.at 44 rfl) (by decide) (fun c32 => ?_) (fun c32 => ?_)
        · replace T := T.1 c32
          refine J_aload_n 135 rfl 0 0 rfl ⟨by decide, by decide⟩ (D_X2_askedPart_1.at 14 rfl) ?_
          refine J_getF (ov := 1) (dd := 996) 138 rfl fl_2_9 rfl (by decide) rfl ob_5 (Ob.lt ob_5) (D_X2_askedPart_1.at 15 rfl) ?_
          refine J_callV (d' := 2) (sr := fun z => [vI z]) (as := []) (st := []) (o := 1) 141 rfl ok_X10_failHere im_X10_failHere se_X10_failHere ml_2_42 isC_10 ob_1 (Ob.lt ob_1) rfl (by omega) ⟨Nat.le_refl _, Nat.le_refl _⟩ (Nat.le_of_ble_eq_true rfl) (D_X2_askedPart_1.at 16 rfl) (fun _ => rfl) T (fun r13 h14 T b15 => ?_)
          replace T := T b15
          exact J_zret rfl b15 (D_X2_askedPart_1.at 17 rfl) T
        replace T := T.2 c32
        refine J_aload_n 99 rfl 0 0 rfl ⟨by decide, by decide⟩ (D_X2_askedPart_0.at 45 rfl) ?_
        refine J_callV (d' := 2) (sr := fun z => [vI z]) (as := []) (st := []) (o := 5) 102 rfl ok_X2_goIn im_X2_goIn se_X2_goIn ml_2_90 isC_2 ob_5 (Ob.lt ob_5) rfl (by omega) ⟨Nat.le_refl _, Nat.le_refl _⟩ (Nat.le_of_ble_eq_true rfl) (D_X2_askedPart_0.at 46 rfl) (fun _ => rfl) T (fun r16 h17 T b18 => ?_)
        replace T := T b18
        refine J_if_eq 105 rfl 132 (inR_b b18) (D_X2_askedPart_0.at 47 rfl) (by decide) (fun c31 => ?_) (fun c31 => ?_)
        · replace T := T.1 c31
          refine J_iconst 133 rfl (D_X2_askedPart_1.at 12 rfl) ?_
          exact J_zret rfl (Or.inl rfl) (D_X2_askedPart_1.at 13 rfl) T
        replace T := T.2 c31
        refine J_aload_n 106 rfl 0 0 rfl ⟨by decide, by decide⟩ (D_X2_askedPart_1.at 0 rfl) ?_
        refine J_callV (d' := (e + 1)) (sr := fun z => [vI z]) (as := []) (st := []) (o := 5) 109 rfl ok_X2_part im_X2_part se_X2_part ml_2_111 isC_2 ob_5 (Ob.lt ob_5) rfl (by omega) ⟨Nat.le_refl _, Nat.le_refl _⟩ (Nat.le_of_ble_eq_true rfl) (D_X2_askedPart_1.at 1 rfl) (fun _ => rfl) T (fun r19 h20 T b21 => ?_)
        replace T := T b21
        refine J_if_eq 112 rfl 132 (inR_b b21) (D_X2_askedPart_1.at 2 rfl) (by decide) (fun c30 => ?_) (fun c30 => ?_)
        · replace T := T.1 c30
          refine J_iconst 133 rfl (D_X2_askedPart_1.at 12 rfl) ?_
          exact J_zret rfl (Or.inl rfl) (D_X2_askedPart_1.at 13 rfl) T
        replace T := T.2 c30
        refine J_aload_n 113 rfl 0 0 rfl ⟨by decide, by decide⟩ (D_X2_askedPart_1.at 3 rfl) ?_
        refine J_callV (d' := 1) (sr := fun z => [vI z]) (as := []) (st := []) (o := 5) 116 rfl ok_X2_goOut im_X2_goOut se_X2_goOut ml_2_93 isC_2 ob_5 (Ob.lt ob_5) rfl (by omega) ⟨Nat.le_refl _, Nat.le_refl _⟩ (Nat.le_of_ble_eq_true rfl) (D_X2_askedPart_1.at 4 rfl) (fun _ => rfl) T (fun r22 h23 T b24 => ?_)
        replace T := T b24
        refine J_if_eq 119 rfl 132 (inR_b b24) (D_X2_askedPart_1.at 5 rfl) (by decide) (fun c29 => ?_) (fun c29 => ?_)
        · replace T := T.1 c29
          refine J_iconst 133 rfl (D_X2_askedPart_1.at 12 rfl) ?_
          exact J_zret rfl (Or.inl rfl) (D_X2_askedPart_1.at 13 rfl) T
        replace T := T.2 c29
        refine J_aload_n 120 rfl 0 0 rfl ⟨by decide, by decide⟩ (D_X2_askedPart_1.at 6 rfl) ?_
        refine J_bipush 122 rfl ⟨by decide, by decide⟩ (D_X2_askedPart_1.at 7 rfl) ?_
        refine J_callV (d' := 2) (sr := fun z => [vI z]) (as := [vI (-14)]) (st := []) (o := 5) 125 rfl ok_X2_put im_X2_put se_X2_put ml_2_79 isC_2 ob_5 (Ob.lt ob_5) rfl (by omega) ⟨Nat.le_refl _, Nat.le_refl _⟩ (Nat.le_of_ble_eq_true rfl) (D_X2_askedPart_1.at 8 rfl) (fun _ => rfl) T (fun r25 h26 T b27 => ?_)
        replace T := T b27
        refine J_if_eq 128 rfl 132 (inR_b b27) (D_X2_askedPart_1.at 9 rfl) (by decide) (fun c28 => ?_) (fun c28 => ?_)
        · replace T := T.1 c28
          refine J_iconst 133 rfl (D_X2_askedPart_1.at 12 rfl) ?_
          exact J_zret rfl (Or.inl rfl) (D_X2_askedPart_1.at 13 rfl) T
        replace T := T.2 c28
        refine J_iconst 129 rfl (D_X2_askedPart_1.at 10 rfl) ?_
        refine J_goto 133 (D_X2_askedPart_1.at 11 rfl) (by decide) ?_
        exact J_zret rfl (Or.inr rfl) (D_X2_askedPart_1.at 13 rfl) T
      replace T := T.2 c49
      refine J_aload_n 51 rfl 0 0 rfl ⟨by decide, by decide⟩ (D_X2_askedPart_0.at 23 rfl) ?_
      refine J_callV (d' := 2) (sr := fun z => [vI z]) (as := []) (st := []) (o := 5) 54 rfl ok_X2_goIn im_X2_goIn se_X2_goIn ml_2_90 isC_2 ob_5 (Ob.lt ob_5) rfl (by omega) ⟨Nat.le_refl _, Nat.le_refl _⟩ (Nat.le_of_ble_eq_true rfl) (D_X2_askedPart_0.at 24 rfl) (fun _ => rfl) T (fun r33 h34 T b35 => ?_)
      replace T := T b35
      refine J_if_eq 57 rfl 84 (inR_b b35) (D_X2_askedPart_0.at 25 rfl) (by decide) (fun c48 => ?_) (fun c48 => ?_)
      · replace T := T.1 c48
        refine J_iconst 85 rfl (D_X2_askedPart_0.at 38 rfl) ?_
        exact J_zret rfl (Or.inl rfl) (D_X2_askedPart_0.at 39 rfl) T
      replace T := T.2 c48
      refine J_aload_n 58 rfl 0 0 rfl ⟨by decide, by decide⟩ (D_X2_askedPart_0.at 26 rfl) ?_
      refine J_callV (d' := (e + 1)) (sr := fun z => [vI z]) (as := []) (st := []) (o := 5) 61 rfl ok_X2_part im_X2_part se_X2_part ml_2_111 isC_2 ob_5 (Ob.lt ob_5) rfl (by omega) ⟨Nat.le_refl _, Nat.le_refl _⟩ (Nat.le_of_ble_eq_true rfl) (D_X2_askedPart_0.at 27 rfl) (fun _ => rfl) T (fun r36 h37 T b38 => ?_)
      replace T := T b38
      refine J_if_eq 64 rfl 84 (inR_b b38) (D_X2_askedPart_0.at 28 rfl) (by decide) (fun c47 => ?_) (fun c47 => ?_)
      · replace T := T.1 c47
        refine J_iconst 85 rfl (D_X2_askedPart_0.at 38 rfl) ?_
        exact J_zret rfl (Or.inl rfl) (D_X2_askedPart_0.at 39 rfl) T
      replace T := T.2 c47
      refine J_aload_n 65 rfl 0 0 rfl ⟨by decide, by decide⟩ (D_X2_askedPart_0.at 29 rfl) ?_
      refine J_callV (d' := 1) (sr := fun z => [vI z]) (as := []) (st := []) (o := 5) 68 rfl ok_X2_goOut im_X2_goOut se_X2_goOut ml_2_93 isC_2 ob_5 (Ob.lt ob_5) rfl (by omega) ⟨Nat.le_refl _, Nat.le_refl _⟩ (Nat.le_of_ble_eq_true rfl) (D_X2_askedPart_0.at 30 rfl) (fun _ => rfl) T (fun r39 h40 T b41 => ?_)
      replace T := T b41
      refine J_if_eq 71 rfl 84 (inR_b b41) (D_X2_askedPart_0.at 31 rfl) (by decide) (fun c46 => ?_) (fun c46 => ?_)
      · replace T := T.1 c46
        refine J_iconst 85 rfl (D_X2_askedPart_0.at 38 rfl) ?_
        exact J_zret rfl (Or.inl rfl) (D_X2_askedPart_0.at 39 rfl) T
      replace T := T.2 c46
      refine J_aload_n 72 rfl 0 0 rfl ⟨by decide, by decide⟩ (D_X2_askedPart_0.at 32 rfl) ?_
      refine J_bipush 74 rfl ⟨by decide, by decide⟩ (D_X2_askedPart_0.at 33 rfl) ?_
      refine J_callV (d' := 2) (sr := fun z => [vI z]) (as := [vI (-13)]) (st := []) (o := 5) 77 rfl ok_X2_put im_X2_put se_X2_put ml_2_79 isC_2 ob_5 (Ob.lt ob_5) rfl (by omega) ⟨Nat.le_refl _, Nat.le_refl _⟩ (Nat.le_of_ble_eq_true rfl) (D_X2_askedPart_0.at 34 rfl) (fun _ => rfl) T (fun r42 h43 T b44 => ?_)
      replace T := T b44
      refine J_if_eq 80 rfl 84 (inR_b b44) (D_X2_askedPart_0.at 35 rfl) (by decide) (fun c45 => ?_) (fun c45 => ?_)
      · replace T := T.1 c45
        refine J_iconst 85 rfl (D_X2_askedPart_0.at 38 rfl) ?_
        exact J_zret rfl (Or.inl rfl) (D_X2_askedPart_0.at 39 rfl) T
      replace T := T.2 c45
      refine J_iconst 81 rfl (D_X2_askedPart_0.at 36 rfl) ?_
      refine J_goto 85 (D_X2_askedPart_0.at 37 rfl) (by decide) ?_
      exact J_zret rfl (Or.inr rfl) (D_X2_askedPart_0.at 39 rfl) T
    replace T := T.2 c53
    refine J_aload_n 32 rfl 0 0 rfl ⟨by decide, by decide⟩ (D_X2_askedPart_0.at 14 rfl) ?_
    refine J_bipush 34 rfl ⟨by decide, by decide⟩ (D_X2_askedPart_0.at 15 rfl) ?_
    refine J_callV (d' := 2) (sr := fun z => [vI z]) (as := [vI (-28)]) (st := []) (o := 5) 37 rfl ok_X2_put im_X2_put se_X2_put ml_2_79 isC_2 ob_5 (Ob.lt ob_5) rfl (by omega) ⟨Nat.le_refl _, Nat.le_refl _⟩ (Nat.le_of_ble_eq_true rfl) (D_X2_askedPart_0.at 16 rfl) (fun _ => rfl) T (fun r50 h51 T b52 => ?_)
    replace T := T b52
    exact J_zret rfl b52 (D_X2_askedPart_0.at 17 rfl) T
  replace T := T.2 c57
  refine J_aload_n 13 rfl 0 0 rfl ⟨by decide, by decide⟩ (D_X2_askedPart_0.at 5 rfl) ?_
  refine J_bipush 15 rfl ⟨by decide, by decide⟩ (D_X2_askedPart_0.at 6 rfl) ?_
  refine J_callV (d' := 2) (sr := fun z => [vI z]) (as := [vI (-27)]) (st := []) (o := 5) 18 rfl ok_X2_put im_X2_put se_X2_put ml_2_79 isC_2 ob_5 (Ob.lt ob_5) rfl (by omega) ⟨Nat.le_refl _, Nat.le_refl _⟩ (Nat.le_of_ble_eq_true rfl) (D_X2_askedPart_0.at 7 rfl) (fun _ => rfl) T (fun r54 h55 T b56 => ?_)
  replace T := T b56
  exact J_zret rfl b56 (D_X2_askedPart_0.at 8 rfl) T
theorem c_X2_test {w : Wd} {e : Nat} (he : 12 ≤ e) {h : Hp} {K : Int → Hp → Prop} (T : C_X2_both w e h (fun r1 h2 => (r1 = 0 ∨ r1 = 1) → L_X2_test_7 w (e + 1) r1 0 h2 K)) : C_X2_test w (e + 1) h K := by
  refine CGm_of2 (by decide) (by decide) trivial (Nat.le_of_ble_eq_true rfl) ?_
  refine J_aload_n 1 rfl 0 0 rfl ⟨by decide, by decide⟩ (D_X2_test_0.at 0 rfl) ?_
  refine J_callV (d' := (e + 1)) (sr := fun z => [vI z]) (as := []) (st := []) (o := 5) 4 rfl ok_X2_both im_X2_both se_X2_both ml_2_74 isC_2 ob_5 (Ob.lt ob_5) rfl (by omega) ⟨Nat.le_refl _, Nat.le_refl _⟩ (Nat.le_of_ble_eq_true rfl) (D_X2_test_0.at 1 rfl) (fun _ => rfl) T (fun r1 h2 T b3 => ?_)
  replace T := T b3
  refine J_istore_n (lv' := [(1, vI r1), (0, vR 5)]) 5 rfl 1 (by decide) rfl (D_X2_test_0.at 2 rfl) ?_
  refine J_iconst 6 rfl (D_X2_test_0.at 3 rfl) ?_
  refine J_istore_n (lv' := [(2, vI 0), (1, vI r1), (0, vR 5)]) 7 rfl 2 (by decide) rfl (D_X2_test_0.at 4 rfl) ?_
  exact J_sub (lv' := [(0, vR 5), (1, vI r1), (2, vI 0)]) [2, 1, 0] rfl T
theorem l_X2_test_7 {w : Wd} {e : Nat} (he : 12 ≤ e) {v1 v2 : Int} {h : Hp} {K : Int → Hp → Prop} (T : (inR v1) ∧ (((v1 = 0) → ((v1 = 0 ∨ v1 = 1) ∧ (K v1 h))) ∧ (¬ (v1 = 0) → ((inR v2) ∧ (((v2 ≥ 1600) → ((v1 = 0 ∨ v1 = 1) ∧ (K v1 h))) ∧ (¬ (v2 ≥ 1600) → (C_X10_word w 1035 h (fun r8 h9 => (r8 = 0 ∨ r8 = 1) → ((r8 = 0) → ((v1 = 0 ∨ v1 = 1) ∧ (K v1 h9))) ∧ (¬ (r8 = 0) → (C_X2_both w e h9 (fun r12 h13 => (r12 = 0 ∨ r12 = 1) → ((r12 = 0) → (L_X2_test_7 w (e + 1) 0 (v2 + 1) h13 K)) ∧ (¬ (r12 = 0) → (C_X2_put w (-11) h13 (fun r15 h16 => (r15 = 0 ∨ r15 = 1) → ((r15 = 0) → (L_X2_test_7 w (e + 1) 0 (v2 + 1) h16 K)) ∧ (¬ (r15 = 0) → (L_X2_test_7 w (e + 1) 1 (v2 + 1) h16 K)))))))))))))))) : L_X2_test_7 w (e + 1) v1 v2 h K := by
  unfold L_X2_test_7
  refine J_iload_n 8 rfl 1 1 rfl (D_X2_test_0.at 5 rfl) ?_
  obtain ⟨s4, T⟩ := T
  refine J_if_eq 11 rfl 58 s4 (D_X2_test_0.at 6 rfl) (by decide) (fun c22 => ?_) (fun c22 => ?_)
  · replace T := T.1 c22
    refine J_iload_n 59 rfl 1 1 rfl (D_X2_test_0.at 28 rfl) ?_
    obtain ⟨s5, T⟩ := T
    exact J_zret rfl s5 (D_X2_test_0.at 29 rfl) T
  replace T := T.2 c22
  refine J_iload_n 12 rfl 2 2 rfl (D_X2_test_0.at 7 rfl) ?_
  refine J_sipush 15 rfl ⟨by decide, by decide⟩ (D_X2_test_0.at 8 rfl) ?_
  obtain ⟨s6, T⟩ := T
  refine J_icmp_ge 18 rfl 58 s6 ⟨by decide, by decide⟩ (D_X2_test_0.at 9 rfl) (by decide) (fun c21 => ?_) (fun c21 => ?_)
  · replace T := T.1 c21
    refine J_iload_n 59 rfl 1 1 rfl (D_X2_test_0.at 28 rfl) ?_
    obtain ⟨s7, T⟩ := T
    exact J_zret rfl s7 (D_X2_test_0.at 29 rfl) T
  replace T := T.2 c21
  refine J_aload_n 19 rfl 0 0 rfl ⟨by decide, by decide⟩ (D_X2_test_0.at 10 rfl) ?_
  refine J_getF (ov := 1) (dd := 996) 22 rfl fl_2_9 rfl (by decide) rfl ob_5 (Ob.lt ob_5) (D_X2_test_0.at 11 rfl) ?_
  refine J_ldcsE (tx := "or") 24 rfl 35 (v := 1035) rfl (by decide) (List.mem_of_getElem? (i := 37) rfl) (D_X2_test_0.at 12 rfl) ?_
  refine J_callV (d' := 7) (sr := fun z => [vI z]) (as := [vR 1035]) (st := []) (o := 1) 27 rfl ok_X10_word im_X10_word se_X10_word ml_2_60 isC_10 ob_1 (Ob.lt ob_1) rfl (by omega) ⟨Nat.le_refl _, Nat.le_refl _⟩ (Nat.le_of_ble_eq_true rfl) (D_X2_test_0.at 13 rfl) (fun _ => rfl) T (fun r8 h9 T b10 => ?_)
  replace T := T b10
  refine J_if_eq 30 rfl 58 (inR_b b10) (D_X2_test_0.at 14 rfl) (by decide) (fun c20 => ?_) (fun c20 => ?_)
  · replace T := T.1 c20
    refine J_iload_n 59 rfl 1 1 rfl (D_X2_test_0.at 28 rfl) ?_
    obtain ⟨s11, T⟩ := T
    exact J_zret rfl s11 (D_X2_test_0.at 29 rfl) T
  replace T := T.2 c20
  refine J_aload_n 31 rfl 0 0 rfl ⟨by decide, by decide⟩ (D_X2_test_0.at 15 rfl) ?_
  refine J_callV (d' := (e + 1)) (sr := fun z => [vI z]) (as := []) (st := []) (o := 5) 34 rfl ok_X2_both im_X2_both se_X2_both ml_2_74 isC_2 ob_5 (Ob.lt ob_5) rfl (by omega) ⟨Nat.le_refl _, Nat.le_refl _⟩ (Nat.le_of_ble_eq_true rfl) (D_X2_test_0.at 16 rfl) (fun _ => rfl) T (fun r12 h13 T b14 => ?_)
  replace T := T b14
  refine J_if_eq 37 rfl 50 (inR_b b14) (D_X2_test_0.at 17 rfl) (by decide) (fun c19 => ?_) (fun c19 => ?_)
  · replace T := T.1 c19
    refine J_iconst 51 rfl (D_X2_test_0.at 24 rfl) ?_
    refine J_istore_n (lv' := [(1, vI 0), (0, vR 5), (2, vI v2)]) 52 rfl 1 (by decide) rfl (D_X2_test_0.at 25 rfl) ?_
    refine J_iinc (v := (v2 + 1)) (lv' := [(2, vI (v2 + 1)), (1, vI 0), (0, vR 5)]) 55 rfl 2 2 1 rfl rfl (by decide) rfl (D_X2_test_0.at 26 rfl) ?_
    refine J_goto 7 (D_X2_test_0.at 27 rfl) (by decide) ?_
    exact J_sub (lv' := [(0, vR 5), (1, vI 0), (2, vI (v2 + 1))]) [2, 1, 0] rfl T
  replace T := T.2 c19
  refine J_aload_n 38 rfl 0 0 rfl ⟨by decide, by decide⟩ (D_X2_test_0.at 18 rfl) ?_
  refine J_bipush 40 rfl ⟨by decide, by decide⟩ (D_X2_test_0.at 19 rfl) ?_
  refine J_callV (d' := 2) (sr := fun z => [vI z]) (as := [vI (-11)]) (st := []) (o := 5) 43 rfl ok_X2_put im_X2_put se_X2_put ml_2_79 isC_2 ob_5 (Ob.lt ob_5) rfl (by omega) ⟨Nat.le_refl _, Nat.le_refl _⟩ (Nat.le_of_ble_eq_true rfl) (D_X2_test_0.at 20 rfl) (fun _ => rfl) T (fun r15 h16 T b17 => ?_)
  replace T := T b17
  refine J_if_eq 46 rfl 50 (inR_b b17) (D_X2_test_0.at 21 rfl) (by decide) (fun c18 => ?_) (fun c18 => ?_)
  · replace T := T.1 c18
    refine J_iconst 51 rfl (D_X2_test_0.at 24 rfl) ?_
    refine J_istore_n (lv' := [(1, vI 0), (0, vR 5), (2, vI v2)]) 52 rfl 1 (by decide) rfl (D_X2_test_0.at 25 rfl) ?_
    refine J_iinc (v := (v2 + 1)) (lv' := [(2, vI (v2 + 1)), (1, vI 0), (0, vR 5)]) 55 rfl 2 2 1 rfl rfl (by decide) rfl (D_X2_test_0.at 26 rfl) ?_
    refine J_goto 7 (D_X2_test_0.at 27 rfl) (by decide) ?_
    exact J_sub (lv' := [(0, vR 5), (1, vI 0), (2, vI (v2 + 1))]) [2, 1, 0] rfl T
  replace T := T.2 c18
  refine J_iconst 47 rfl (D_X2_test_0.at 22 rfl) ?_
  refine J_goto 51 (D_X2_test_0.at 23 rfl) (by decide) ?_
  refine J_istore_n (lv' := [(1, vI 1), (0, vR 5), (2, vI v2)]) 52 rfl 1 (by decide) rfl (D_X2_test_0.at 25 rfl) ?_
  refine J_iinc (v := (v2 + 1)) (lv' := [(2, vI (v2 + 1)), (1, vI 1), (0, vR 5)]) 55 rfl 2 2 1 rfl rfl (by decide) rfl (D_X2_test_0.at 26 rfl) ?_
  refine J_goto 7 (D_X2_test_0.at 27 rfl) (by decide) ?_
  exact J_sub (lv' := [(0, vR 5), (1, vI 1), (2, vI (v2 + 1))]) [2, 1, 0] rfl T
theorem c_X2_both {w : Wd} {e : Nat} (he : 12 ≤ e) {h : Hp} {K : Int → Hp → Prop} (T : C_X2_fact w e h (fun r1 h2 => (r1 = 0 ∨ r1 = 1) → L_X2_both_7 w (e + 1) r1 0 h2 K)) : C_X2_both w (e + 1) h K := by
  refine CGm_of2 (by decide) (by decide) trivial (Nat.le_of_ble_eq_true rfl) ?_
  refine J_aload_n 1 rfl 0 0 rfl ⟨by decide, by decide⟩ (D_X2_both_0.at 0 rfl) ?_
  refine J_callV (d' := (e + 1)) (sr := fun z => [vI z]) (as := []) (st := []) (o := 5) 4 rfl ok_X2_fact im_X2_fact se_X2_fact ml_2_83 isC_2 ob_5 (Ob.lt ob_5) rfl (by omega) ⟨Nat.le_refl _, Nat.le_refl _⟩ (Nat.le_of_ble_eq_true rfl) (D_X2_both_0.at 1 rfl) (fun _ => rfl) T (fun r1 h2 T b3 => ?_)
  replace T := T b3
  refine J_istore_n (lv' := [(1, vI r1), (0, vR 5)]) 5 rfl 1 (by decide) rfl (D_X2_both_0.at 2 rfl) ?_
  refine J_iconst 6 rfl (D_X2_both_0.at 3 rfl) ?_
  refine J_istore_n (lv' := [(2, vI 0), (1, vI r1), (0, vR 5)]) 7 rfl 2 (by decide) rfl (D_X2_both_0.at 4 rfl) ?_
  exact J_sub (lv' := [(0, vR 5), (1, vI r1), (2, vI 0)]) [2, 1, 0] rfl T
theorem l_X2_both_7 {w : Wd} {e : Nat} (he : 12 ≤ e) {v1 v2 : Int} {h : Hp} {K : Int → Hp → Prop} (T : (inR v1) ∧ (((v1 = 0) → ((v1 = 0 ∨ v1 = 1) ∧ (K v1 h))) ∧ (¬ (v1 = 0) → ((inR v2) ∧ (((v2 ≥ 1600) → ((v1 = 0 ∨ v1 = 1) ∧ (K v1 h))) ∧ (¬ (v2 ≥ 1600) → (C_X10_word w 1034 h (fun r8 h9 => (r8 = 0 ∨ r8 = 1) → ((r8 = 0) → ((v1 = 0 ∨ v1 = 1) ∧ (K v1 h9))) ∧ (¬ (r8 = 0) → (C_X2_fact w e h9 (fun r12 h13 => (r12 = 0 ∨ r12 = 1) → ((r12 = 0) → (L_X2_both_7 w (e + 1) 0 (v2 + 1) h13 K)) ∧ (¬ (r12 = 0) → (C_X2_put w (-10) h13 (fun r15 h16 => (r15 = 0 ∨ r15 = 1) → ((r15 = 0) → (L_X2_both_7 w (e + 1) 0 (v2 + 1) h16 K)) ∧ (¬ (r15 = 0) → (L_X2_both_7 w (e + 1) 1 (v2 + 1) h16 K)))))))))))))))) : L_X2_both_7 w (e + 1) v1 v2 h K := by
  unfold L_X2_both_7
  refine J_iload_n 8 rfl 1 1 rfl (D_X2_both_0.at 5 rfl) ?_
  obtain ⟨s4, T⟩ := T
  refine J_if_eq 11 rfl 58 s4 (D_X2_both_0.at 6 rfl) (by decide) (fun c22 => ?_) (fun c22 => ?_)
  · replace T := T.1 c22
    refine J_iload_n 59 rfl 1 1 rfl (D_X2_both_0.at 28 rfl) ?_
    obtain ⟨s5, T⟩ := T
    exact J_zret rfl s5 (D_X2_both_0.at 29 rfl) T
  replace T := T.2 c22
  refine J_iload_n 12 rfl 2 2 rfl (D_X2_both_0.at 7 rfl) ?_
  refine J_sipush 15 rfl ⟨by decide, by decide⟩ (D_X2_both_0.at 8 rfl) ?_
  obtain ⟨s6, T⟩ := T
  refine J_icmp_ge 18 rfl 58 s6 ⟨by decide, by decide⟩ (D_X2_both_0.at 9 rfl) (by decide) (fun c21 => ?_) (fun c21 => ?_)
  · replace T := T.1 c21
    refine J_iload_n 59 rfl 1 1 rfl (D_X2_both_0.at 28 rfl) ?_
    obtain ⟨s7, T⟩ := T
    exact J_zret rfl s7 (D_X2_both_0.at 29 rfl) T
  replace T := T.2 c21
  refine J_aload_n 19 rfl 0 0 rfl ⟨by decide, by decide⟩ (D_X2_both_0.at 10 rfl) ?_
  refine J_getF (ov := 1) (dd := 996) 22 rfl fl_2_9 rfl (by decide) rfl ob_5 (Ob.lt ob_5) (D_X2_both_0.at 11 rfl) ?_
  refine J_ldcsE (tx := "and") 24 rfl 34 (v := 1034) rfl (by decide) (List.mem_of_getElem? (i := 36) rfl) (D_X2_both_0.at 12 rfl) ?_
  refine J_callV (d' := 7) (sr := fun z => [vI z]) (as := [vR 1034]) (st := []) (o := 1) 27 rfl ok_X10_word im_X10_word se_X10_word ml_2_60 isC_10 ob_1 (Ob.lt ob_1) rfl (by omega) ⟨Nat.le_refl _, Nat.le_refl _⟩ (Nat.le_of_ble_eq_true rfl) (D_X2_both_0.at 13 rfl) (fun _ => rfl) T (fun r8 h9 T b10 => ?_)
  replace T := T b10
  refine J_if_eq 30 rfl 58 (inR_b b10) (D_X2_both_0.at 14 rfl) (by decide) (fun c20 => ?_) (fun c20 => ?_)
  · replace T := T.1 c20
    refine J_iload_n 59 rfl 1 1 rfl (D_X2_both_0.at 28 rfl) ?_
    obtain ⟨s11, T⟩ := T
    exact J_zret rfl s11 (D_X2_both_0.at 29 rfl) T
  replace T := T.2 c20
  refine J_aload_n 31 rfl 0 0 rfl ⟨by decide, by decide⟩ (D_X2_both_0.at 15 rfl) ?_
  refine J_callV (d' := (e + 1)) (sr := fun z => [vI z]) (as := []) (st := []) (o := 5) 34 rfl ok_X2_fact im_X2_fact se_X2_fact ml_2_83 isC_2 ob_5 (Ob.lt ob_5) rfl (by omega) ⟨Nat.le_refl _, Nat.le_refl _⟩ (Nat.le_of_ble_eq_true rfl) (D_X2_both_0.at 16 rfl) (fun _ => rfl) T (fun r12 h13 T b14 => ?_)
  replace T := T b14
  refine J_if_eq 37 rfl 50 (inR_b b14) (D_X2_both_0.at 17 rfl) (by decide) (fun c19 => ?_) (fun c19 => ?_)
  · replace T := T.1 c19
    refine J_iconst 51 rfl (D_X2_both_0.at 24 rfl) ?_
    refine J_istore_n (lv' := [(1, vI 0), (0, vR 5), (2, vI v2)]) 52 rfl 1 (by decide) rfl (D_X2_both_0.at 25 rfl) ?_
    refine J_iinc (v := (v2 + 1)) (lv' := [(2, vI (v2 + 1)), (1, vI 0), (0, vR 5)]) 55 rfl 2 2 1 rfl rfl (by decide) rfl (D_X2_both_0.at 26 rfl) ?_
    refine J_goto 7 (D_X2_both_0.at 27 rfl) (by decide) ?_
    exact J_sub (lv' := [(0, vR 5), (1, vI 0), (2, vI (v2 + 1))]) [2, 1, 0] rfl T
  replace T := T.2 c19
  refine J_aload_n 38 rfl 0 0 rfl ⟨by decide, by decide⟩ (D_X2_both_0.at 18 rfl) ?_
  refine J_bipush 40 rfl ⟨by decide, by decide⟩ (D_X2_both_0.at 19 rfl) ?_
  refine J_callV (d' := 2) (sr := fun z => [vI z]) (as := [vI (-10)]) (st := []) (o := 5) 43 rfl ok_X2_put im_X2_put se_X2_put ml_2_79 isC_2 ob_5 (Ob.lt ob_5) rfl (by omega) ⟨Nat.le_refl _, Nat.le_refl _⟩ (Nat.le_of_ble_eq_true rfl) (D_X2_both_0.at 20 rfl) (fun _ => rfl) T (fun r15 h16 T b17 => ?_)
  replace T := T b17
  refine J_if_eq 46 rfl 50 (inR_b b17) (D_X2_both_0.at 21 rfl) (by decide) (fun c18 => ?_) (fun c18 => ?_)
  · replace T := T.1 c18
    refine J_iconst 51 rfl (D_X2_both_0.at 24 rfl) ?_
    refine J_istore_n (lv' := [(1, vI 0), (0, vR 5), (2, vI v2)]) 52 rfl 1 (by decide) rfl (D_X2_both_0.at 25 rfl) ?_
    refine J_iinc (v := (v2 + 1)) (lv' := [(2, vI (v2 + 1)), (1, vI 0), (0, vR 5)]) 55 rfl 2 2 1 rfl rfl (by decide) rfl (D_X2_both_0.at 26 rfl) ?_
    refine J_goto 7 (D_X2_both_0.at 27 rfl) (by decide) ?_
    exact J_sub (lv' := [(0, vR 5), (1, vI 0), (2, vI (v2 + 1))]) [2, 1, 0] rfl T
  replace T := T.2 c18
  refine J_iconst 47 rfl (D_X2_both_0.at 22 rfl) ?_
  refine J_goto 51 (D_X2_both_0.at 23 rfl) (by decide) ?_
  refine J_istore_n (lv' := [(1, vI 1), (0, vR 5), (2, vI v2)]) 52 rfl 1 (by decide) rfl (D_X2_both_0.at 25 rfl) ?_
  refine J_iinc (v := (v2 + 1)) (lv' := [(2, vI (v2 + 1)), (1, vI 1), (0, vR 5)]) 55 rfl 2 2 1 rfl rfl (by decide) rfl (D_X2_both_0.at 26 rfl) ?_
  refine J_goto 7 (D_X2_both_0.at 27 rfl) (by decide) ?_
  exact J_sub (lv' := [(0, vR 5), (1, vI 1), (2, vI (v2 + 1))]) [2, 1, 0] rfl T
theorem c_X2_fact {w : Wd} {e : Nat} (he : 12 ≤ e) {h : Hp} {K : Int → Hp → Prop} (T : C_X10_word w 1032 h (fun r1 h2 => (r1 = 0 ∨ r1 = 1) → ((r1 = 0) → (C_X10_sign w 91 h2 (fun r4 h5 => (r4 = 0 ∨ r4 = 1) → ((r4 = 0) → (C_X10_word w 1033 h5 (fun r7 h8 => (r7 = 0 ∨ r7 = 1) → ((r7 = 0) → (C_X2_sum w e h8 (fun r10 h11 => (r10 = 0 ∨ r10 = 1) → ((r10 = 0) → (K 0 h11)) ∧ (¬ (r10 = 0) → (C_X2_comparison w e h11 (fun r13 h14 => (r13 = 0 ∨ r13 = 1) → ((r13 = 0) → (K 0 h14)) ∧ (¬ (r13 = 0) → (K 1 h14)))))))) ∧ (¬ (r7 = 0) → (C_X2_put w 1 h8 (fun r18 h19 => (r18 = 0 ∨ r18 = 1) → K r18 h19)))))) ∧ (¬ (r4 = 0) → (C_X2_goIn w h5 (fun r22 h23 => (r22 = 0 ∨ r22 = 1) → ((r22 = 0) → (K 0 h23)) ∧ (¬ (r22 = 0) → (C_X2_test w e h23 (fun r25 h26 => (r25 = 0 ∨ r25 = 1) → ((r25 = 0) → (K 0 h26)) ∧ (¬ (r25 = 0) → (C_X10_needSign w 93 h26 (fun r28 h29 => (r28 = 0 ∨ r28 = 1) → ((r28 = 0) → (K 0 h29)) ∧ (¬ (r28 = 0) → (C_X2_goOut w h29 (fun r31 h32 => (r31 = 0 ∨ r31 = 1) → ((r31 = 0) → (K 0 h32)) ∧ (¬ (r31 = 0) → (K 1 h32))))))))))))))))) ∧ (¬ (r1 = 0) → (C_X2_goIn w h2 (fun r39 h40 => (r39 = 0 ∨ r39 = 1) → ((r39 = 0) → (K 0 h40)) ∧ (¬ (r39 = 0) → (C_X2_fact w e h40 (fun r42 h43 => (r42 = 0 ∨ r42 = 1) → ((r42 = 0) → (K 0 h43)) ∧ (¬ (r42 = 0) → (C_X2_goOut w h43 (fun r45 h46 => (r45 = 0 ∨ r45 = 1) → ((r45 = 0) → (K 0 h46)) ∧ (¬ (r45 = 0) → (C_X2_put w (-12) h46 (fun r48 h49 => (r48 = 0 ∨ r48 = 1) → ((r48 = 0) → (K 0 h49)) ∧ (¬ (r48 = 0) → (K 1 h49)))))))))))))))) : C_X2_fact w (e + 1) h K := by
  refine CGm_of2 (by decide) (by decide) trivial (Nat.le_of_ble_eq_true rfl) ?_
  refine J_aload_n 1 rfl 0 0 rfl ⟨by decide, by decide⟩ (D_X2_fact_0.at 0 rfl) ?_
  refine J_getF (ov := 1) (dd := 996) 4 rfl fl_2_9 rfl (by decide) rfl ob_5 (Ob.lt ob_5) (D_X2_fact_0.at 1 rfl) ?_
  refine J_ldcsE (tx := "not") 6 rfl 32 (v := 1032) rfl (by decide) (List.mem_of_getElem? (i := 34) rfl) (D_X2_fact_0.at 2 rfl) ?_
  refine J_callV (d' := 7) (sr := fun z => [vI z]) (as := [vR 1032]) (st := []) (o := 1) 9 rfl ok_X10_word im_X10_word se_X10_word ml_2_60 isC_10 ob_1 (Ob.lt ob_1) rfl (by omega) ⟨Nat.le_refl _, Nat.le_refl _⟩ (Nat.le_of_ble_eq_true rfl) (D_X2_fact_0.at 3 rfl) (fun _ => rfl) T (fun r1 h2 T b3 => ?_)
  replace T := T b3
  refine J_if_eq 12 rfl 48 (inR_b b3) (D_X2_fact_0.at 4 rfl) (by decide) (fun c55 => ?_) (fun c55 => ?_)
  · replace T := T.1 c55
    refine J_aload_n 49 rfl 0 0 rfl ⟨by decide, by decide⟩ (D_X2_fact_0.at 22 rfl) ?_
    refine J_getF (ov := 1) (dd := 996) 52 rfl fl_2_9 rfl (by decide) rfl ob_5 (Ob.lt ob_5) (D_X2_fact_0.at 23 rfl) ?_
    refine J_bipush 54 rfl ⟨by decide, by decide⟩ (D_X2_fact_0.at 24 rfl) ?_
    refine J_callV (d' := 2) (sr := fun z => [vI z]) (as := [vI 91]) (st := []) (o := 1) 57 rfl ok_X10_sign im_X10_sign se_X10_sign ml_2_96 isC_10 ob_1 (Ob.lt ob_1) rfl (by omega) ⟨Nat.le_refl _, Nat.le_refl _⟩ (Nat.le_of_ble_eq_true rfl) (D_X2_fact_0.at 25 rfl) (fun _ => rfl) T (fun r4 h5 T b6 => ?_)
    replace T := T b6
    refine J_if_eq 60 rfl 99 (inR_b b6) (D_X2_fact_0.at 26 rfl) (by decide) (fun c38 => ?_) (fun c38 => ?_)
    · replace T := T.1 c38
      refine J_aload_n 100 rfl 0 0 rfl ⟨by decide, by decide⟩ (D_X2_fact_0.at 45 rfl) ?_
      refine J_getF (ov := 1) (dd := 996) 103 rfl fl_2_9 rfl (by decide) rfl ob_5 (Ob.lt ob_5) (D_X2_fact_0.at 46 rfl) ?_
      refine J_ldcsE (tx := "all") 105 rfl 33 (v := 1033) rfl (by decide) (List.mem_of_getElem? (i := 35) rfl) (D_X2_fact_0.at 47 rfl) ?_
      refine J_callV (d' := 7) (sr := fun z => [vI z]) (as := [vR 1033]) (st := []) (o := 1) 108 rfl ok_X10_word im_X10_word se_X10_word ml_2_60 isC_10 ob_1 (Ob.lt ob_1) rfl (by omega) ⟨Nat.le_refl _, Nat.le_refl _⟩ (Nat.le_of_ble_eq_true rfl) (D_X2_fact_1.at 0 rfl) (fun _ => rfl) T (fun r7 h8 T b9 => ?_)
      replace T := T b9
      refine J_if_eq 111 rfl 117 (inR_b b9) (D_X2_fact_1.at 1 rfl) (by decide) (fun c21 => ?_) (fun c21 => ?_)
      · replace T := T.1 c21
        refine J_aload_n 118 rfl 0 0 rfl ⟨by decide, by decide⟩ (D_X2_fact_1.at 6 rfl) ?_
        refine J_callV (d' := (e + 1)) (sr := fun z => [vI z]) (as := []) (st := []) (o := 5) 121 rfl ok_X2_sum im_X2_sum se_X2_sum ml_2_26 isC_2 ob_5 (Ob.lt ob_5) rfl (by omega) ⟨Nat.le_refl _, Nat.le_refl _⟩ (Nat.le_of_ble_eq_true rfl) (D_X2_fact_1.at 7 rfl) (fun _ => rfl) T (fun r10 h11 T b12 => ?_)
        replace T := T b12
        refine J_if_eq 124 rfl 135 (inR_b b12) (D_X2_fact_1.at 8 rfl) (by decide) (fun c17 => ?_) (fun c17 => ?_)
        · replace T := T.1 c17
          refine J_iconst 136 rfl (D_X2_fact_1.at 14 rfl) ?_
          exact J_zret rfl (Or.inl rfl) (D_X2_fact_1.at 15 rfl) T
        replace T := T.2 c17
        refine J_aload_n 125 rfl 0 0 rfl ⟨by decide, by decide⟩ (D_X2_fact_1.at 9 rfl) ?_
        refine J_callV (d' := (e + 1)) (sr := fun z => [vI z]) (as := []) (st := []) (o := 5) 128 rfl ok_X2_comparison im_X2_comparison se_X2_comparison ml_2_105 isC_2 ob_5 (Ob.lt ob_5) rfl (by omega) ⟨Nat.le_refl _, Nat.le_refl _⟩ (Nat.le_of_ble_eq_true rfl) (D_X2_fact_1.at 10 rfl) (fun _ => rfl) T (fun r13 h14 T b15 => ?_)
        replace T := T b15
        refine J_if_eq 131 rfl 135 (inR_b b15) (D_X2_fact_1.at 11 rfl) (by decide) (fun c16 => ?_) (fun c16 => ?_)
        · replace T := T.1 c16
          refine J_iconst 136 rfl (D_X2_fact_1.at 14 rfl) ?_
          exact J_zret rfl (Or.inl rfl) (D_X2_fact_1.at 15 rfl) T
        replace T := T.2 c16
        refine J_iconst 132 rfl (D_X2_fact_1.at 12 rfl) ?_
        refine J_goto 136 (D_X2_fact_1.at 13 rfl) (by decide) ?_
        exact J_zret rfl (Or.inr rfl) (D_X2_fact_1.at 15 rfl) T
      replace T := T.2 c21
      refine J_aload_n 112 rfl 0 0 rfl ⟨by decide, by decide⟩ (D_X2_fact_1.at 2 rfl) ?_
      refine J_iconst 113 rfl (D_X2_fact_1.at 3 rfl) ?_
      refine J_callV (d' := 2) (sr := fun z => [vI z]) (as := [vI 1]) (st := []) (o := 5) 116 rfl ok_X2_put im_X2_put se_X2_put ml_2_79 isC_2 ob_5 (Ob.lt ob_5) rfl (by omega) ⟨Nat.le_refl _, Nat.le_refl _⟩ (Nat.le_of_ble_eq_true rfl) (D_X2_fact_1.at 4 rfl) (fun _ => rfl) T (fun r18 h19 T b20 => ?_)
      replace T := T b20
      exact J_zret rfl b20 (D_X2_fact_1.at 5 rfl) T
    replace T := T.2 c38
    refine J_aload_n 61 rfl 0 0 rfl ⟨by decide, by decide⟩ (D_X2_fact_0.at 27 rfl) ?_
    refine J_callV (d' := 2) (sr := fun z => [vI z]) (as := []) (st := []) (o := 5) 64 rfl ok_X2_goIn im_X2_goIn se_X2_goIn ml_2_90 isC_2 ob_5 (Ob.lt ob_5) rfl (by omega) ⟨Nat.le_refl _, Nat.le_refl _⟩ (Nat.le_of_ble_eq_true rfl) (D_X2_fact_0.at 28 rfl) (fun _ => rfl) T (fun r22 h23 T b24 => ?_)
    replace T := T b24
    refine J_if_eq 67 rfl 97 (inR_b b24) (D_X2_fact_0.at 29 rfl) (by decide) (fun c37 => ?_) (fun c37 => ?_)
    · replace T := T.1 c37
      refine J_iconst 98 rfl (D_X2_fact_0.at 43 rfl) ?_
      exact J_zret rfl (Or.inl rfl) (D_X2_fact_0.at 44 rfl) T
    replace T := T.2 c37
    refine J_aload_n 68 rfl 0 0 rfl ⟨by decide, by decide⟩ (D_X2_fact_0.at 30 rfl) ?_
    refine J_callV (d' := (e + 1)) (sr := fun z => [vI z]) (as := []) (st := []) (o := 5) 71 rfl ok_X2_test im_X2_test se_X2_test ml_2_34 isC_2 ob_5 (Ob.lt ob_5) rfl (by omega) ⟨Nat.le_refl _, Nat.le_refl _⟩ (Nat.le_of_ble_eq_true rfl) (D_X2_fact_0.at 31 rfl) (fun _ => rfl) T (fun r25 h26 T b27 => ?_)
    replace T := T b27
    refine J_if_eq 74 rfl 97 (inR_b b27) (D_X2_fact_0.at 32 rfl) (by decide) (fun c36 => ?_) (fun c36 => ?_)
    · replace T := T.1 c36
      refine J_iconst 98 rfl (D_X2_fact_0.at 43 rfl) ?_
      exact J_zret rfl (Or.inl rfl) (D_X2_fact_0.at 44 rfl) T
    replace T := T.2 c36
    refine J_aload_n 75 rfl 0 0 rfl ⟨by decide, by decide⟩ (D_X2_fact_0.at 33 rfl) ?_
    refine J_getF (ov := 1) (dd := 996) 78 rfl fl_2_9 rfl (by decide) rfl ob_5 (Ob.lt ob_5) (D_X2_fact_0.at 34 rfl) ?_
    refine J_bipush 80 rfl ⟨by decide, by decide⟩ (D_X2_fact_0.at 35 rfl) ?_
    refine J_callV (d' := 3) (sr := fun z => [vI z]) (as := [vI 93]) (st := []) (o := 1) 83 rfl ok_X10_needSign im_X10_needSign se_X10_needSign ml_2_100 isC_10 ob_1 (Ob.lt ob_1) rfl (by omega) ⟨Nat.le_refl _, Nat.le_refl _⟩ (Nat.le_of_ble_eq_true rfl) (D_X2_fact_0.at 36 rfl) (fun _ => rfl) T (fun r28 h29 T b30 => ?_)
    replace T := T b30
    refine J_if_eq 86 rfl 97 (inR_b b30) (D_X2_fact_0.at 37 rfl) (by decide) (fun c35 => ?_) (fun c35 => ?_)
    · replace T := T.1 c35
      refine J_iconst 98 rfl (D_X2_fact_0.at 43 rfl) ?_
      exact J_zret rfl (Or.inl rfl) (D_X2_fact_0.at 44 rfl) T
    replace T := T.2 c35
    refine J_aload_n 87 rfl 0 0 rfl ⟨by decide, by decide⟩ (D_X2_fact_0.at 38 rfl) ?_
    refine J_callV (d' := 1) (sr := fun z => [vI z]) (as := []) (st := []) (o := 5) 90 rfl ok_X2_goOut im_X2_goOut se_X2_goOut ml_2_93 isC_2 ob_5 (Ob.lt ob_5) rfl (by omega) ⟨Nat.le_refl _, Nat.le_refl _⟩ (Nat.le_of_ble_eq_true rfl) (D_X2_fact_0.at 39 rfl) (fun _ => rfl) T (fun r31 h32 T b33 => ?_)
    replace T := T b33
    refine J_if_eq 93 rfl 97 (inR_b b33) (D_X2_fact_0.at 40 rfl) (by decide) (fun c34 => ?_) (fun c34 => ?_)
    · replace T := T.1 c34
      refine J_iconst 98 rfl (D_X2_fact_0.at 43 rfl) ?_
      exact J_zret rfl (Or.inl rfl) (D_X2_fact_0.at 44 rfl) T
    replace T := T.2 c34
    refine J_iconst 94 rfl (D_X2_fact_0.at 41 rfl) ?_
    refine J_goto 98 (D_X2_fact_0.at 42 rfl) (by decide) ?_
    exact J_zret rfl (Or.inr rfl) (D_X2_fact_0.at 44 rfl) T
  replace T := T.2 c55
  refine J_aload_n 13 rfl 0 0 rfl ⟨by decide, by decide⟩ (D_X2_fact_0.at 5 rfl) ?_
  refine J_callV (d' := 2) (sr := fun z => [vI z]) (as := []) (st := []) (o := 5) 16 rfl ok_X2_goIn im_X2_goIn se_X2_goIn ml_2_90 isC_2 ob_5 (Ob.lt ob_5) rfl (by omega) ⟨Nat.le_refl _, Nat.le_refl _⟩ (Nat.le_of_ble_eq_true rfl) (D_X2_fact_0.at 6 rfl) (fun _ => rfl) T (fun r39 h40 T b41 => ?_)
  replace T := T b41
  refine J_if_eq 19 rfl 46 (inR_b b41) (D_X2_fact_0.at 7 rfl) (by decide) (fun c54 => ?_) (fun c54 => ?_)
  · replace T := T.1 c54
    refine J_iconst 47 rfl (D_X2_fact_0.at 20 rfl) ?_
    exact J_zret rfl (Or.inl rfl) (D_X2_fact_0.at 21 rfl) T
  replace T := T.2 c54
  refine J_aload_n 20 rfl 0 0 rfl ⟨by decide, by decide⟩ (D_X2_fact_0.at 8 rfl) ?_
  refine J_callV (d' := (e + 1)) (sr := fun z => [vI z]) (as := []) (st := []) (o := 5) 23 rfl ok_X2_fact im_X2_fact se_X2_fact ml_2_83 isC_2 ob_5 (Ob.lt ob_5) rfl (by omega) ⟨Nat.le_refl _, Nat.le_refl _⟩ (Nat.le_of_ble_eq_true rfl) (D_X2_fact_0.at 9 rfl) (fun _ => rfl) T (fun r42 h43 T b44 => ?_)
  replace T := T b44
  refine J_if_eq 26 rfl 46 (inR_b b44) (D_X2_fact_0.at 10 rfl) (by decide) (fun c53 => ?_) (fun c53 => ?_)
  · replace T := T.1 c53
    refine J_iconst 47 rfl (D_X2_fact_0.at 20 rfl) ?_
    exact J_zret rfl (Or.inl rfl) (D_X2_fact_0.at 21 rfl) T
  replace T := T.2 c53
  refine J_aload_n 27 rfl 0 0 rfl ⟨by decide, by decide⟩ (D_X2_fact_0.at 11 rfl) ?_
  refine J_callV (d' := 1) (sr := fun z => [vI z]) (as := []) (st := []) (o := 5) 30 rfl ok_X2_goOut im_X2_goOut se_X2_goOut ml_2_93 isC_2 ob_5 (Ob.lt ob_5) rfl (by omega) ⟨Nat.le_refl _, Nat.le_refl _⟩ (Nat.le_of_ble_eq_true rfl) (D_X2_fact_0.at 12 rfl) (fun _ => rfl) T (fun r45 h46 T b47 => ?_)
  replace T := T b47
  refine J_if_eq 33 rfl 46 (inR_b b47) (D_X2_fact_0.at 13 rfl) (by decide) (fun c52 => ?_) (fun c52 => ?_)
  · replace T := T.1 c52
    refine J_iconst 47 rfl (D_X2_fact_0.at 20 rfl) ?_
    exact J_zret rfl (Or.inl rfl) (D_X2_fact_0.at 21 rfl) T
  replace T := T.2 c52
  refine J_aload_n 34 rfl 0 0 rfl ⟨by decide, by decide⟩ (D_X2_fact_0.at 14 rfl) ?_
  refine J_bipush 36 rfl ⟨by decide, by decide⟩ (D_X2_fact_0.at 15 rfl) ?_
  refine J_callV (d' := 2) (sr := fun z => [vI z]) (as := [vI (-12)]) (st := []) (o := 5) 39 rfl ok_X2_put im_X2_put se_X2_put ml_2_79 isC_2 ob_5 (Ob.lt ob_5) rfl (by omega) ⟨Nat.le_refl _, Nat.le_refl _⟩ (Nat.le_of_ble_eq_true rfl) (D_X2_fact_0.at 16 rfl) (fun _ => rfl) T (fun r48 h49 T b50 => ?_)
  replace T := T b50
  refine J_if_eq 42 rfl 46 (inR_b b50) (D_X2_fact_0.at 17 rfl) (by decide) (fun c51 => ?_) (fun c51 => ?_)
  · replace T := T.1 c51
    refine J_iconst 47 rfl (D_X2_fact_0.at 20 rfl) ?_
    exact J_zret rfl (Or.inl rfl) (D_X2_fact_0.at 21 rfl) T
  replace T := T.2 c51
  refine J_iconst 43 rfl (D_X2_fact_0.at 18 rfl) ?_
  refine J_goto 47 (D_X2_fact_0.at 19 rfl) (by decide) ?_
  exact J_zret rfl (Or.inr rfl) (D_X2_fact_0.at 21 rfl) T
theorem c_X2_comparison {w : Wd} {e : Nat} (he : 12 ≤ e) {h : Hp} {K : Int → Hp → Prop} (T : C_X10_sign w 60 h (fun r1 h2 => (r1 = 0 ∨ r1 = 1) → ((r1 = 0) → (C_X10_sign w 62 h2 (fun r4 h5 => (r4 = 0 ∨ r4 = 1) → ((r4 = 0) → (C_X10_sign w 61 h5 (fun r7 h8 => (r7 = 0 ∨ r7 = 1) → ((r7 = 0) → (C_X10_failHere w h8 (fun r10 h11 => (r10 = 0 ∨ r10 = 1) → K r10 h11))) ∧ (¬ (r7 = 0) → (C_X2_sum w e h8 (fun r13 h14 => (r13 = 0 ∨ r13 = 1) → ((r13 = 0) → (K 0 h14)) ∧ (¬ (r13 = 0) → (C_X2_put w (-9) h14 (fun r16 h17 => (r16 = 0 ∨ r16 = 1) → ((r16 = 0) → (K 0 h17)) ∧ (¬ (r16 = 0) → (K 1 h17))))))))))) ∧ (¬ (r4 = 0) → (C_X2_sum w e h5 (fun r22 h23 => (r22 = 0 ∨ r22 = 1) → ((r22 = 0) → (K 0 h23)) ∧ (¬ (r22 = 0) → (C_X2_put w (-8) h23 (fun r25 h26 => (r25 = 0 ∨ r25 = 1) → ((r25 = 0) → (K 0 h26)) ∧ (¬ (r25 = 0) → (K 1 h26))))))))))) ∧ (¬ (r1 = 0) → (C_X2_sum w e h2 (fun r31 h32 => (r31 = 0 ∨ r31 = 1) → ((r31 = 0) → (K 0 h32)) ∧ (¬ (r31 = 0) → (C_X2_put w (-7) h32 (fun r34 h35 => (r34 = 0 ∨ r34 = 1) → ((r34 = 0) → (K 0 h35)) ∧ (¬ (r34 = 0) → (K 1 h35)))))))))) : C_X2_comparison w (e + 1) h K := by
  refine CGm_of2 (by decide) (by decide) trivial (Nat.le_of_ble_eq_true rfl) ?_
  refine J_aload_n 1 rfl 0 0 rfl ⟨by decide, by decide⟩ (D_X2_comparison_0.at 0 rfl) ?_
  refine J_getF (ov := 1) (dd := 996) 4 rfl fl_2_9 rfl (by decide) rfl ob_5 (Ob.lt ob_5) (D_X2_comparison_0.at 1 rfl) ?_
  refine J_bipush 6 rfl ⟨by decide, by decide⟩ (D_X2_comparison_0.at 2 rfl) ?_
  refine J_callV (d' := 2) (sr := fun z => [vI z]) (as := [vI 60]) (st := []) (o := 1) 9 rfl ok_X10_sign im_X10_sign se_X10_sign ml_2_96 isC_10 ob_1 (Ob.lt ob_1) rfl (by omega) ⟨Nat.le_refl _, Nat.le_refl _⟩ (Nat.le_of_ble_eq_true rfl) (D_X2_comparison_0.at 3 rfl) (fun _ => rfl) T (fun r1 h2 T b3 => ?_)
  replace T := T b3
  refine J_if_eq 12 rfl 34 (inR_b b3) (D_X2_comparison_0.at 4 rfl) (by decide) (fun c39 => ?_) (fun c39 => ?_)
  · replace T := T.1 c39
    refine J_aload_n 35 rfl 0 0 rfl ⟨by decide, by decide⟩ (D_X2_comparison_0.at 16 rfl) ?_
    refine J_getF (ov := 1) (dd := 996) 38 rfl fl_2_9 rfl (by decide) rfl ob_5 (Ob.lt ob_5) (D_X2_comparison_0.at 17 rfl) ?_
    refine J_bipush 40 rfl ⟨by decide, by decide⟩ (D_X2_comparison_0.at 18 rfl) ?_
    refine J_callV (d' := 2) (sr := fun z => [vI z]) (as := [vI 62]) (st := []) (o := 1) 43 rfl ok_X10_sign im_X10_sign se_X10_sign ml_2_96 isC_10 ob_1 (Ob.lt ob_1) rfl (by omega) ⟨Nat.le_refl _, Nat.le_refl _⟩ (Nat.le_of_ble_eq_true rfl) (D_X2_comparison_0.at 19 rfl) (fun _ => rfl) T (fun r4 h5 T b6 => ?_)
    replace T := T b6
    refine J_if_eq 46 rfl 68 (inR_b b6) (D_X2_comparison_0.at 20 rfl) (by decide) (fun c30 => ?_) (fun c30 => ?_)
    · replace T := T.1 c30
      refine J_aload_n 69 rfl 0 0 rfl ⟨by decide, by decide⟩ (D_X2_comparison_0.at 32 rfl) ?_
      refine J_getF (ov := 1) (dd := 996) 72 rfl fl_2_9 rfl (by decide) rfl ob_5 (Ob.lt ob_5) (D_X2_comparison_0.at 33 rfl) ?_
      refine J_bipush 74 rfl ⟨by decide, by decide⟩ (D_X2_comparison_0.at 34 rfl) ?_
      refine J_callV (d' := 2) (sr := fun z => [vI z]) (as := [vI 61]) (st := []) (o := 1) 77 rfl ok_X10_sign im_X10_sign se_X10_sign ml_2_96 isC_10 ob_1 (Ob.lt ob_1) rfl (by omega) ⟨Nat.le_refl _, Nat.le_refl _⟩ (Nat.le_of_ble_eq_true rfl) (D_X2_comparison_0.at 35 rfl) (fun _ => rfl) T (fun r7 h8 T b9 => ?_)
      replace T := T b9
      refine J_if_eq 80 rfl 102 (inR_b b9) (D_X2_comparison_0.at 36 rfl) (by decide) (fun c21 => ?_) (fun c21 => ?_)
      · replace T := T.1 c21
        refine J_aload_n 103 rfl 0 0 rfl ⟨by decide, by decide⟩ (D_X2_comparison_1.at 0 rfl) ?_
        refine J_getF (ov := 1) (dd := 996) 106 rfl fl_2_9 rfl (by decide) rfl ob_5 (Ob.lt ob_5) (D_X2_comparison_1.at 1 rfl) ?_
        refine J_callV (d' := 2) (sr := fun z => [vI z]) (as := []) (st := []) (o := 1) 109 rfl ok_X10_failHere im_X10_failHere se_X10_failHere ml_2_42 isC_10 ob_1 (Ob.lt ob_1) rfl (by omega) ⟨Nat.le_refl _, Nat.le_refl _⟩ (Nat.le_of_ble_eq_true rfl) (D_X2_comparison_1.at 2 rfl) (fun _ => rfl) T (fun r10 h11 T b12 => ?_)
        replace T := T b12
        exact J_zret rfl b12 (D_X2_comparison_1.at 3 rfl) T
      replace T := T.2 c21
      refine J_aload_n 81 rfl 0 0 rfl ⟨by decide, by decide⟩ (D_X2_comparison_0.at 37 rfl) ?_
      refine J_callV (d' := (e + 1)) (sr := fun z => [vI z]) (as := []) (st := []) (o := 5) 84 rfl ok_X2_sum im_X2_sum se_X2_sum ml_2_26 isC_2 ob_5 (Ob.lt ob_5) rfl (by omega) ⟨Nat.le_refl _, Nat.le_refl _⟩ (Nat.le_of_ble_eq_true rfl) (D_X2_comparison_0.at 38 rfl) (fun _ => rfl) T (fun r13 h14 T b15 => ?_)
      replace T := T b15
      refine J_if_eq 87 rfl 100 (inR_b b15) (D_X2_comparison_0.at 39 rfl) (by decide) (fun c20 => ?_) (fun c20 => ?_)
      · replace T := T.1 c20
        refine J_iconst 101 rfl (D_X2_comparison_0.at 46 rfl) ?_
        exact J_zret rfl (Or.inl rfl) (D_X2_comparison_0.at 47 rfl) T
      replace T := T.2 c20
      refine J_aload_n 88 rfl 0 0 rfl ⟨by decide, by decide⟩ (D_X2_comparison_0.at 40 rfl) ?_
      refine J_bipush 90 rfl ⟨by decide, by decide⟩ (D_X2_comparison_0.at 41 rfl) ?_
      refine J_callV (d' := 2) (sr := fun z => [vI z]) (as := [vI (-9)]) (st := []) (o := 5) 93 rfl ok_X2_put im_X2_put se_X2_put ml_2_79 isC_2 ob_5 (Ob.lt ob_5) rfl (by omega) ⟨Nat.le_refl _, Nat.le_refl _⟩ (Nat.le_of_ble_eq_true rfl) (D_X2_comparison_0.at 42 rfl) (fun _ => rfl) T (fun r16 h17 T b18 => ?_)
      replace T := T b18
      refine J_if_eq 96 rfl 100 (inR_b b18) (D_X2_comparison_0.at 43 rfl) (by decide) (fun c19 => ?_) (fun c19 => ?_)
      · replace T := T.1 c19
        refine J_iconst 101 rfl (D_X2_comparison_0.at 46 rfl) ?_
        exact J_zret rfl (Or.inl rfl) (D_X2_comparison_0.at 47 rfl) T
      replace T := T.2 c19
      refine J_iconst 97 rfl (D_X2_comparison_0.at 44 rfl) ?_
      refine J_goto 101 (D_X2_comparison_0.at 45 rfl) (by decide) ?_
      exact J_zret rfl (Or.inr rfl) (D_X2_comparison_0.at 47 rfl) T
    replace T := T.2 c30
    refine J_aload_n 47 rfl 0 0 rfl ⟨by decide, by decide⟩ (D_X2_comparison_0.at 21 rfl) ?_
    refine J_callV (d' := (e + 1)) (sr := fun z => [vI z]) (as := []) (st := []) (o := 5) 50 rfl ok_X2_sum im_X2_sum se_X2_sum ml_2_26 isC_2 ob_5 (Ob.lt ob_5) rfl (by omega) ⟨Nat.le_refl _, Nat.le_refl _⟩ (Nat.le_of_ble_eq_true rfl) (D_X2_comparison_0.at 22 rfl) (fun _ => rfl) T (fun r22 h23 T b24 => ?_)
    replace T := T b24
    refine J_if_eq 53 rfl 66 (inR_b b24) (D_X2_comparison_0.at 23 rfl) (by decide) (fun c29 => ?_) (fun c29 => ?_)
    · replace T := T.1 c29
      refine J_iconst 67 rfl (D_X2_comparison_0.at 30 rfl) ?_
      exact J_zret rfl (Or.inl rfl) (D_X2_comparison_0.at 31 rfl) T
    replace T := T.2 c29
    refine J_aload_n 54 rfl 0 0 rfl ⟨by decide, by decide⟩ (D_X2_comparison_0.at 24 rfl) ?_
    refine J_bipush 56 rfl ⟨by decide, by decide⟩ (D_X2_comparison_0.at 25 rfl) ?_
    refine J_callV (d' := 2) (sr := fun z => [vI z]) (as := [vI (-8)]) (st := []) (o := 5) 59 rfl ok_X2_put im_X2_put se_X2_put ml_2_79 isC_2 ob_5 (Ob.lt ob_5) rfl (by omega) ⟨Nat.le_refl _, Nat.le_refl _⟩ (Nat.le_of_ble_eq_true rfl) (D_X2_comparison_0.at 26 rfl) (fun _ => rfl) T (fun r25 h26 T b27 => ?_)
    replace T := T b27
    refine J_if_eq 62 rfl 66 (inR_b b27) (D_X2_comparison_0.at 27 rfl) (by decide) (fun c28 => ?_) (fun c28 => ?_)
    · replace T := T.1 c28
      refine J_iconst 67 rfl (D_X2_comparison_0.at 30 rfl) ?_
      exact J_zret rfl (Or.inl rfl) (D_X2_comparison_0.at 31 rfl) T
    replace T := T.2 c28
    refine J_iconst 63 rfl (D_X2_comparison_0.at 28 rfl) ?_
    refine J_goto 67 (D_X2_comparison_0.at 29 rfl) (by decide) ?_
    exact J_zret rfl (Or.inr rfl) (D_X2_comparison_0.at 31 rfl) T
  replace T := T.2 c39
  refine J_aload_n 13 rfl 0 0 rfl ⟨by decide, by decide⟩ (D_X2_comparison_0.at 5 rfl) ?_
  refine J_callV (d' := (e + 1)) (sr := fun z => [vI z]) (as := []) (st := []) (o := 5) 16 rfl ok_X2_sum im_X2_sum se_X2_sum ml_2_26 isC_2 ob_5 (Ob.lt ob_5) rfl (by omega) ⟨Nat.le_refl _, Nat.le_refl _⟩ (Nat.le_of_ble_eq_true rfl) (D_X2_comparison_0.at 6 rfl) (fun _ => rfl) T (fun r31 h32 T b33 => ?_)
  replace T := T b33
  refine J_if_eq 19 rfl 32 (inR_b b33) (D_X2_comparison_0.at 7 rfl) (by decide) (fun c38 => ?_) (fun c38 => ?_)
  · replace T := T.1 c38
    refine J_iconst 33 rfl (D_X2_comparison_0.at 14 rfl) ?_
    exact J_zret rfl (Or.inl rfl) (D_X2_comparison_0.at 15 rfl) T
  replace T := T.2 c38
  refine J_aload_n 20 rfl 0 0 rfl ⟨by decide, by decide⟩ (D_X2_comparison_0.at 8 rfl) ?_
  refine J_bipush 22 rfl ⟨by decide, by decide⟩ (D_X2_comparison_0.at 9 rfl) ?_
  refine J_callV (d' := 2) (sr := fun z => [vI z]) (as := [vI (-7)]) (st := []) (o := 5) 25 rfl ok_X2_put im_X2_put se_X2_put ml_2_79 isC_2 ob_5 (Ob.lt ob_5) rfl (by omega) ⟨Nat.le_refl _, Nat.le_refl _⟩ (Nat.le_of_ble_eq_true rfl) (D_X2_comparison_0.at 10 rfl) (fun _ => rfl) T (fun r34 h35 T b36 => ?_)
  replace T := T b36
  refine J_if_eq 28 rfl 32 (inR_b b36) (D_X2_comparison_0.at 11 rfl) (by decide) (fun c37 => ?_) (fun c37 => ?_)
  · replace T := T.1 c37
    refine J_iconst 33 rfl (D_X2_comparison_0.at 14 rfl) ?_
    exact J_zret rfl (Or.inl rfl) (D_X2_comparison_0.at 15 rfl) T
  replace T := T.2 c37
  refine J_iconst 29 rfl (D_X2_comparison_0.at 12 rfl) ?_
  refine J_goto 33 (D_X2_comparison_0.at 13 rfl) (by decide) ?_
  exact J_zret rfl (Or.inr rfl) (D_X2_comparison_0.at 15 rfl) T
theorem c_X2_sumInto {w : Wd} {a1 : Int} (ha1 : Ob 1 a1) {h : Hp} {K : Int → Hp → Prop} (T : C_X2_begin w a1 0 h (fun _ h2 => C_X2_sum w 59 h2 (fun r4 h5 => (r4 = 0 ∨ r4 = 1) → K r4 h5))) : C_X2_sumInto w a1 h K := by
  refine CGm_of2 (by decide) (by decide) trivial (Nat.le_of_ble_eq_true rfl) ?_
  refine J_aload_n 1 rfl 0 0 rfl ⟨by decide, by decide⟩ (D_X2_sumInto_0.at 0 rfl) ?_
  refine J_aload_n 2 rfl 1 1 rfl (Ob.rng ha1) (D_X2_sumInto_0.at 1 rfl) ?_
  refine J_iconst 3 rfl (D_X2_sumInto_0.at 2 rfl) ?_
  refine J_callV (d' := 1) (sr := fun z => []) (as := [vR a1, vI 0]) (st := []) (o := 5) 6 rfl ok_X2_begin im_X2_begin se_X2_begin ml_2_22 isC_2 ob_5 (Ob.lt ob_5) rfl (by decide) ⟨Nat.le_refl _, Nat.le_refl _⟩ (Nat.le_of_ble_eq_true rfl) (D_X2_sumInto_0.at 3 rfl) (fun _ => rfl) T (fun r1 h2 T b3 => ?_)
  refine J_aload_n 7 rfl 0 0 rfl ⟨by decide, by decide⟩ (D_X2_sumInto_0.at 4 rfl) ?_
  refine J_callV (d' := 60) (sr := fun z => [vI z]) (as := []) (st := []) (o := 5) 10 rfl ok_X2_sum im_X2_sum se_X2_sum ml_2_26 isC_2 ob_5 (Ob.lt ob_5) rfl (by decide) ⟨Nat.le_refl _, Nat.le_refl _⟩ (Nat.le_of_ble_eq_true rfl) (D_X2_sumInto_0.at 5 rfl) (fun _ => rfl) T (fun r4 h5 T b6 => ?_)
  replace T := T b6
  exact J_zret rfl b6 (D_X2_sumInto_0.at 6 rfl) T
theorem c_X2_question {w : Wd} {h : Hp} {K : Int → Hp → Prop} (T : C_X2_begin w 3 1 h (fun _ h2 => C_X2_kind w h2 (fun r4 h5 => (inR r4) ∧ (((r4 = (-1)) → (K (-1) h5)) ∧ (¬ (r4 = (-1)) → ((inR r4) ∧ (((r4 > 2) → (C_X2_sum w 59 h5 (fun r9 h10 => (r9 = 0 ∨ r9 = 1) → ((r9 ≠ 0) → (C_X10_isMore w h10 (fun r12 h13 => (r12 = 0 ∨ r12 = 1) → ((r12 = 0) → (K r4 h13)) ∧ (¬ (r12 = 0) → (C_X10_failHere w h13 (fun r15 h16 => (r15 = 0 ∨ r15 = 1) → K (-1) h16)))))) ∧ (¬ (r9 ≠ 0) → (K (-1) h10))))) ∧ (¬ (r4 > 2) → (C_X2_test w 59 h5 (fun r20 h21 => (r20 = 0 ∨ r20 = 1) → ((r20 = 0) → (K (-1) h21)) ∧ (¬ (r20 = 0) → (C_X10_isMore w h21 (fun r23 h24 => (r23 = 0 ∨ r23 = 1) → ((r23 = 0) → (K r4 h24)) ∧ (¬ (r23 = 0) → (C_X10_failHere w h24 (fun r26 h27 => (r26 = 0 ∨ r26 = 1) → K (-1) h27)))))))))))))))) : C_X2_question w h K := by
  refine CGm_of2 (by decide) (by decide) trivial (Nat.le_of_ble_eq_true rfl) ?_
  refine J_aload_n 1 rfl 0 0 rfl ⟨by decide, by decide⟩ (D_X2_question_0.at 0 rfl) ?_
  refine J_aload_n 2 rfl 0 0 rfl ⟨by decide, by decide⟩ (D_X2_question_0.at 1 rfl) ?_
  refine J_getF (ov := 3) (dd := 998) 5 rfl fl_2_15 rfl (by decide) rfl ob_5 (Ob.lt ob_5) (D_X2_question_0.at 2 rfl) ?_
  refine J_iconst 6 rfl (D_X2_question_0.at 3 rfl) ?_
  refine J_callV (d' := 1) (sr := fun z => []) (as := [vR 3, vI 1]) (st := []) (o := 5) 9 rfl ok_X2_begin im_X2_begin se_X2_begin ml_2_22 isC_2 ob_5 (Ob.lt ob_5) rfl (by decide) ⟨Nat.le_refl _, Nat.le_refl _⟩ (Nat.le_of_ble_eq_true rfl) (D_X2_question_0.at 4 rfl) (fun _ => rfl) T (fun r1 h2 T b3 => ?_)
  refine J_aload_n 10 rfl 0 0 rfl ⟨by decide, by decide⟩ (D_X2_question_0.at 5 rfl) ?_
  refine J_callV (d' := 8) (sr := fun z => [vI z]) (as := []) (st := []) (o := 5) 13 rfl ok_X2_kind im_X2_kind se_X2_kind ml_2_30 isC_2 ob_5 (Ob.lt ob_5) rfl (by decide) ⟨Nat.le_refl _, Nat.le_refl _⟩ (Nat.le_of_ble_eq_true rfl) (D_X2_question_0.at 6 rfl) (fun _ => rfl) T (fun r4 h5 T b6 => ?_)
  refine J_istore_n (lv' := [(1, vI r4), (0, vR 5)]) 14 rfl 1 (by decide) rfl (D_X2_question_0.at 7 rfl) ?_
  refine J_iload_n 15 rfl 1 0 rfl (D_X2_question_0.at 8 rfl) ?_
  refine J_iconst 16 rfl (D_X2_question_0.at 9 rfl) ?_
  obtain ⟨s7, T⟩ := T
  refine J_icmp_eq 19 rfl 41 s7 ⟨by decide, by decide⟩ (D_X2_question_0.at 10 rfl) (by decide) (fun c32 => ?_) (fun c32 => ?_)
  · replace T := T.1 c32
    refine J_iconst 42 rfl (D_X2_question_0.at 21 rfl) ?_
    exact J_iret rfl (D_X2_question_0.at 22 rfl) T
  replace T := T.2 c32
  refine J_iload_n 20 rfl 1 0 rfl (D_X2_question_0.at 11 rfl) ?_
  refine J_iconst 21 rfl (D_X2_question_0.at 12 rfl) ?_
  obtain ⟨s8, T⟩ := T
  refine J_icmp_gt 24 rfl 34 s8 ⟨by decide, by decide⟩ (D_X2_question_0.at 13 rfl) (by decide) (fun c31 => ?_) (fun c31 => ?_)
  · replace T := T.1 c31
    refine J_aload_n 35 rfl 0 1 rfl ⟨by decide, by decide⟩ (D_X2_question_0.at 18 rfl) ?_
    refine J_callV (d' := 60) (sr := fun z => [vI z]) (as := []) (st := []) (o := 5) 38 rfl ok_X2_sum im_X2_sum se_X2_sum ml_2_26 isC_2 ob_5 (Ob.lt ob_5) rfl (by decide) ⟨Nat.le_refl _, Nat.le_refl _⟩ (Nat.le_of_ble_eq_true rfl) (D_X2_question_0.at 19 rfl) (fun _ => rfl) T (fun r9 h10 T b11 => ?_)
    replace T := T b11
    refine J_if_ne 41 rfl 43 (inR_b b11) (D_X2_question_0.at 20 rfl) (by decide) (fun c19 => ?_) (fun c19 => ?_)
    · replace T := T.1 c19
      refine J_aload_n 44 rfl 0 1 rfl ⟨by decide, by decide⟩ (D_X2_question_0.at 23 rfl) ?_
      refine J_getF (ov := 1) (dd := 996) 47 rfl fl_2_9 rfl (by decide) rfl ob_5 (Ob.lt ob_5) (D_X2_question_0.at 24 rfl) ?_
      refine J_callV (d' := 2) (sr := fun z => [vI z]) (as := []) (st := []) (o := 1) 50 rfl ok_X10_isMore im_X10_isMore se_X10_isMore ml_2_37 isC_10 ob_1 (Ob.lt ob_1) rfl (by decide) ⟨Nat.le_refl _, Nat.le_refl _⟩ (Nat.le_of_ble_eq_true rfl) (D_X2_question_0.at 25 rfl) (fun _ => rfl) T (fun r12 h13 T b14 => ?_)
      replace T := T b14
      refine J_if_eq 53 rfl 63 (inR_b b14) (D_X2_question_0.at 26 rfl) (by decide) (fun c18 => ?_) (fun c18 => ?_)
      · replace T := T.1 c18
        refine J_iload_n 64 rfl 1 0 rfl (D_X2_question_0.at 33 rfl) ?_
        exact J_iret rfl (D_X2_question_0.at 34 rfl) T
      replace T := T.2 c18
      refine J_aload_n 54 rfl 0 1 rfl ⟨by decide, by decide⟩ (D_X2_question_0.at 27 rfl) ?_
      refine J_getF (ov := 1) (dd := 996) 57 rfl fl_2_9 rfl (by decide) rfl ob_5 (Ob.lt ob_5) (D_X2_question_0.at 28 rfl) ?_
      refine J_callV (d' := 2) (sr := fun z => [vI z]) (as := []) (st := []) (o := 1) 60 rfl ok_X10_failHere im_X10_failHere se_X10_failHere ml_2_42 isC_10 ob_1 (Ob.lt ob_1) rfl (by decide) ⟨Nat.le_refl _, Nat.le_refl _⟩ (Nat.le_of_ble_eq_true rfl) (D_X2_question_0.at 29 rfl) (fun _ => rfl) T (fun r15 h16 T b17 => ?_)
      replace T := T b17
      refine J_pop 61 rfl rfl (D_X2_question_0.at 30 rfl) ?_
      refine J_iconst 62 rfl (D_X2_question_0.at 31 rfl) ?_
      exact J_iret rfl (D_X2_question_0.at 32 rfl) T
    replace T := T.2 c19
    refine J_iconst 42 rfl (D_X2_question_0.at 21 rfl) ?_
    exact J_iret rfl (D_X2_question_0.at 22 rfl) T
  replace T := T.2 c31
  refine J_aload_n 25 rfl 0 1 rfl ⟨by decide, by decide⟩ (D_X2_question_0.at 14 rfl) ?_
  refine J_callV (d' := 60) (sr := fun z => [vI z]) (as := []) (st := []) (o := 5) 28 rfl ok_X2_test im_X2_test se_X2_test ml_2_34 isC_2 ob_5 (Ob.lt ob_5) rfl (by decide) ⟨Nat.le_refl _, Nat.le_refl _⟩ (Nat.le_of_ble_eq_true rfl) (D_X2_question_0.at 15 rfl) (fun _ => rfl) T (fun r20 h21 T b22 => ?_)
  replace T := T b22
  refine J_if_eq 31 rfl 41 (inR_b b22) (D_X2_question_0.at 16 rfl) (by decide) (fun c30 => ?_) (fun c30 => ?_)
  · replace T := T.1 c30
    refine J_iconst 42 rfl (D_X2_question_0.at 21 rfl) ?_
    exact J_iret rfl (D_X2_question_0.at 22 rfl) T
  replace T := T.2 c30
  refine J_goto 43 (D_X2_question_0.at 17 rfl) (by decide) ?_
  refine J_aload_n 44 rfl 0 1 rfl ⟨by decide, by decide⟩ (D_X2_question_0.at 23 rfl) ?_
  refine J_getF (ov := 1) (dd := 996) 47 rfl fl_2_9 rfl (by decide) rfl ob_5 (Ob.lt ob_5) (D_X2_question_0.at 24 rfl) ?_
  refine J_callV (d' := 2) (sr := fun z => [vI z]) (as := []) (st := []) (o := 1) 50 rfl ok_X10_isMore im_X10_isMore se_X10_isMore ml_2_37 isC_10 ob_1 (Ob.lt ob_1) rfl (by decide) ⟨Nat.le_refl _, Nat.le_refl _⟩ (Nat.le_of_ble_eq_true rfl) (D_X2_question_0.at 25 rfl) (fun _ => rfl) T (fun r23 h24 T b25 => ?_)
  replace T := T b25
  refine J_if_eq 53 rfl 63 (inR_b b25) (D_X2_question_0.at 26 rfl) (by decide) (fun c29 => ?_) (fun c29 => ?_)
  · replace T := T.1 c29
    refine J_iload_n 64 rfl 1 0 rfl (D_X2_question_0.at 33 rfl) ?_
    exact J_iret rfl (D_X2_question_0.at 34 rfl) T
  replace T := T.2 c29
  refine J_aload_n 54 rfl 0 1 rfl ⟨by decide, by decide⟩ (D_X2_question_0.at 27 rfl) ?_
  refine J_getF (ov := 1) (dd := 996) 57 rfl fl_2_9 rfl (by decide) rfl ob_5 (Ob.lt ob_5) (D_X2_question_0.at 28 rfl) ?_
  refine J_callV (d' := 2) (sr := fun z => [vI z]) (as := []) (st := []) (o := 1) 60 rfl ok_X10_failHere im_X10_failHere se_X10_failHere ml_2_42 isC_10 ob_1 (Ob.lt ob_1) rfl (by decide) ⟨Nat.le_refl _, Nat.le_refl _⟩ (Nat.le_of_ble_eq_true rfl) (D_X2_question_0.at 29 rfl) (fun _ => rfl) T (fun r26 h27 T b28 => ?_)
  replace T := T b28
  refine J_pop 61 rfl rfl (D_X2_question_0.at 30 rfl) ?_
  refine J_iconst 62 rfl (D_X2_question_0.at 31 rfl) ?_
  exact J_iret rfl (D_X2_question_0.at 32 rfl) T
theorem c_X8_statement {w : Wd} {h : Hp} {K : Int → Hp → Prop} (T : C_X10_word w 1001 h (fun r1 h2 => (r1 = 0 ∨ r1 = 1) → ((r1 = 0) → (C_X10_word w 1003 h2 (fun r4 h5 => (r4 = 0 ∨ r4 = 1) → ((r4 = 0) → (C_X10_word w 1005 h5 (fun r7 h8 => (r7 = 0 ∨ r7 = 1) → ((r7 = 0) → (C_X10_word w 1006 h8 (fun r10 h11 => (r10 = 0 ∨ r10 = 1) → ((r10 = 0) → (C_X10_word w 1010 h11 (fun r13 h14 => (r13 = 0 ∨ r13 = 1) → ((r13 = 0) → (C_X10_word w 1022 h14 (fun r16 h17 => (r16 = 0 ∨ r16 = 1) → ((r16 = 0) → (C_X10_word w 1023 h17 (fun r19 h20 => (r19 = 0 ∨ r19 = 1) → ((r19 = 0) → (C_X10_word w 1024 h20 (fun r22 h23 => (r22 = 0 ∨ r22 = 1) → ((r22 = 0) → (C_X10_word w 1025 h23 (fun r25 h26 => (r25 = 0 ∨ r25 = 1) → ((r25 = 0) → (C_X10_failHere w h26 (fun r28 h29 => (r28 = 0 ∨ r28 = 1) → L_X8_statement_419 w h29 K))) ∧ (¬ (r25 = 0) → ((Ob 7 (h26 60 2)) ∧ (C_X10_number w 0 50 h26 (fun r32 h33 => ∀ h35 : Hp, h35 = hu h33 (h26 60 2) 15 r32 → L_X8_statement_419 w h35 K))))))) ∧ (¬ (r22 = 0) → ((Ob 7 (h23 60 2)) ∧ (C_X10_number w 1 99 h23 (fun r39 h40 => ∀ h42 : Hp, h42 = hu h40 (h23 60 2) 14 r39 → L_X8_statement_419 w h42 K))))))) ∧ (¬ (r19 = 0) → ((Ob 7 (h20 60 2)) ∧ (C_X10_number w 1 99 h20 (fun r46 h47 => ∀ h49 : Hp, h49 = hu h47 (h20 60 2) 13 r46 → L_X8_statement_419 w h49 K))))))) ∧ (¬ (r16 = 0) → ((Ob 7 (h17 60 2)) ∧ ((inR (h17 ((h17 60 2) + 15) 1)) ∧ ((((h17 ((h17 60 2) + 15) 1) ≤ 0) → (C_X8_isRoom w 1 h17 (fun r54 h55 => (r54 = 0 ∨ r54 = 1) → ((r54 = 0) → (L_X8_statement_313 w h55 K)) ∧ (¬ (r54 = 0) → ((Ob 7 (h55 60 2)) ∧ (C_X2_sumInto w ((h55 60 2) + 15) h55 (fun r58 h59 => (r58 = 0 ∨ r58 = 1) → ((r58 = 0) → (L_X8_statement_313 w h59 K)) ∧ (¬ (r58 = 0) → (K 1 h59))))))))) ∧ (¬ ((h17 ((h17 60 2) + 15) 1) ≤ 0) → (C_X8_isRoom w 0 h17 (fun r63 h64 => (r63 = 0 ∨ r63 = 1) → ((r63 = 0) → (L_X8_statement_313 w h64 K)) ∧ (¬ (r63 = 0) → ((Ob 7 (h64 60 2)) ∧ (C_X2_sumInto w ((h64 60 2) + 15) h64 (fun r67 h68 => (r67 = 0 ∨ r67 = 1) → ((r67 = 0) → (L_X8_statement_313 w h68 K)) ∧ (¬ (r67 = 0) → (K 1 h68)))))))))))))))) ∧ (¬ (r13 = 0) → ((Ob 7 (h14 60 2)) ∧ ((inR (h14 ((h14 60 2) + 13) 1)) ∧ ((((h14 ((h14 60 2) + 13) 1) ≤ 0) → (C_X8_isRoom w 1 h14 (fun r76 h77 => (r76 = 0 ∨ r76 = 1) → ((r76 = 0) → (L_X8_statement_253 w h77 K)) ∧ (¬ (r76 = 0) → ((Ob 7 (h77 60 2)) ∧ (C_X2_sumInto w ((h77 60 2) + 13) h77 (fun r80 h81 => (r80 = 0 ∨ r80 = 1) → ((r80 = 0) → (L_X8_statement_253 w h81 K)) ∧ (¬ (r80 = 0) → (K 1 h81))))))))) ∧ (¬ ((h14 ((h14 60 2) + 13) 1) ≤ 0) → (C_X8_isRoom w 0 h14 (fun r85 h86 => (r85 = 0 ∨ r85 = 1) → ((r85 = 0) → (L_X8_statement_253 w h86 K)) ∧ (¬ (r85 = 0) → ((Ob 7 (h86 60 2)) ∧ (C_X2_sumInto w ((h86 60 2) + 13) h86 (fun r89 h90 => (r89 = 0 ∨ r89 = 1) → ((r89 = 0) → (L_X8_statement_253 w h90 K)) ∧ (¬ (r89 = 0) → (K 1 h90)))))))))))))))) ∧ (¬ (r10 = 0) → ((Ob 7 (h11 60 2)) ∧ (C_X4_isFull w ((h11 60 2) + 5) h11 (fun r97 h98 => (r97 = 0 ∨ r97 = 1) → ((r97 ≠ 0) → (C_X8_isRoom w 0 h98 (fun r100 h101 => (r100 = 0 ∨ r100 = 1) → ((r100 = 0) → (L_X8_statement_193 w h101 K)) ∧ (¬ (r100 = 0) → ((Ob 7 (h101 60 2)) ∧ (C_X8_given w ((h101 60 2) + 5) h101 (fun r104 h105 => (r104 = 0 ∨ r104 = 1) → ((r104 = 0) → (L_X8_statement_193 w h105 K)) ∧ (¬ (r104 = 0) → (C_X8_bankTold w h105 (fun r107 h108 => (r107 = 0 ∨ r107 = 1) → ((r107 = 0) → (L_X8_statement_193 w h108 K)) ∧ (¬ (r107 = 0) → (K 1 h108)))))))))))) ∧ (¬ (r97 ≠ 0) → (C_X8_isRoom w 1 h98 (fun r113 h114 => (r113 = 0 ∨ r113 = 1) → ((r113 = 0) → (L_X8_statement_193 w h114 K)) ∧ (¬ (r113 = 0) → ((Ob 7 (h114 60 2)) ∧ (C_X8_given w ((h114 60 2) + 5) h114 (fun r117 h118 => (r117 = 0 ∨ r117 = 1) → ((r117 = 0) → (L_X8_statement_193 w h118 K)) ∧ (¬ (r117 = 0) → (C_X8_bankTold w h118 (fun r120 h121 => (r120 = 0 ∨ r120 = 1) → ((r120 = 0) → (L_X8_statement_193 w h121 K)) ∧ (¬ (r120 = 0) → (K 1 h121))))))))))))))))))) ∧ (¬ (r7 = 0) → ((Ob 7 (h8 60 2)) ∧ (C_X4_isFull w ((h8 60 2) + 3) h8 (fun r129 h130 => (r129 = 0 ∨ r129 = 1) → ((r129 ≠ 0) → (C_X8_isRoom w 0 h130 (fun r132 h133 => (r132 = 0 ∨ r132 = 1) → ((r132 = 0) → (L_X8_statement_129 w h133 K)) ∧ (¬ (r132 = 0) → ((Ob 7 (h133 60 2)) ∧ (C_X8_given w ((h133 60 2) + 3) h133 (fun r136 h137 => (r136 = 0 ∨ r136 = 1) → ((r136 = 0) → (L_X8_statement_129 w h137 K)) ∧ (¬ (r136 = 0) → (K 1 h137))))))))) ∧ (¬ (r129 ≠ 0) → (C_X8_isRoom w 1 h130 (fun r141 h142 => (r141 = 0 ∨ r141 = 1) → ((r141 = 0) → (L_X8_statement_129 w h142 K)) ∧ (¬ (r141 = 0) → ((Ob 7 (h142 60 2)) ∧ (C_X8_given w ((h142 60 2) + 3) h142 (fun r145 h146 => (r145 = 0 ∨ r145 = 1) → ((r145 = 0) → (L_X8_statement_129 w h146 K)) ∧ (¬ (r145 = 0) → (K 1 h146)))))))))))))))) ∧ (¬ (r4 = 0) → ((Ob 7 (h5 60 2)) ∧ (C_X4_isFull w ((h5 60 2) + 1) h5 (fun r153 h154 => (r153 = 0 ∨ r153 = 1) → ((r153 ≠ 0) → (C_X8_isRoom w 0 h154 (fun r156 h157 => (r156 = 0 ∨ r156 = 1) → ((r156 = 0) → (L_X8_statement_72 w h157 K)) ∧ (¬ (r156 = 0) → ((Ob 7 (h157 60 2)) ∧ (C_X8_given w ((h157 60 2) + 1) h157 (fun r160 h161 => (r160 = 0 ∨ r160 = 1) → ((r160 = 0) → (L_X8_statement_72 w h161 K)) ∧ (¬ (r160 = 0) → (K 1 h161))))))))) ∧ (¬ (r153 ≠ 0) → (C_X8_isRoom w 1 h154 (fun r165 h166 => (r165 = 0 ∨ r165 = 1) → ((r165 = 0) → (L_X8_statement_72 w h166 K)) ∧ (¬ (r165 = 0) → ((Ob 7 (h166 60 2)) ∧ (C_X8_given w ((h166 60 2) + 1) h166 (fun r169 h170 => (r169 = 0 ∨ r169 = 1) → ((r169 = 0) → (L_X8_statement_72 w h170 K)) ∧ (¬ (r169 = 0) → (K 1 h170)))))))))))))))) ∧ (¬ (r1 = 0) → (C_X8_slope w h2 (fun r176 h177 => (r176 = 0 ∨ r176 = 1) → K r176 h177))))) : C_X8_statement w h K := by
  refine CGm_of2 (by decide) (by decide) trivial (Nat.le_of_ble_eq_true rfl) ?_
  refine J_aload_n 1 rfl 0 0 rfl ⟨by decide, by decide⟩ (D_X8_statement_0.at 0 rfl) ?_
  refine J_getF (ov := 1) (dd := 941) 4 rfl fl_8_9 rfl (by decide) rfl ob_60 (Ob.lt ob_60) (D_X8_statement_0.at 1 rfl) ?_
  refine J_ldcsE (tx := "slope") 6 rfl 1 (v := 1001) rfl (by decide) (List.mem_of_getElem? (i := 1) rfl) (D_X8_statement_0.at 2 rfl) ?_
  refine J_callV (d' := 7) (sr := fun z => [vI z]) (as := [vR 1001]) (st := []) (o := 1) 9 rfl ok_X10_word im_X10_word se_X10_word ml_8_80 isC_10 ob_1 (Ob.lt ob_1) rfl (by decide) ⟨Nat.le_refl _, Nat.le_refl _⟩ (Nat.le_of_ble_eq_true rfl) (D_X8_statement_0.at 3 rfl) (fun _ => rfl) T (fun r1 h2 T b3 => ?_)
  replace T := T b3
  refine J_if_eq 12 rfl 17 (inR_b b3) (D_X8_statement_0.at 4 rfl) (by decide) (fun c179 => ?_) (fun c179 => ?_)
  · replace T := T.1 c179
    refine J_aload_n 18 rfl 0 0 rfl ⟨by decide, by decide⟩ (D_X8_statement_0.at 8 rfl) ?_
    refine J_getF (ov := 1) (dd := 941) 21 rfl fl_8_9 rfl (by decide) rfl ob_60 (Ob.lt ob_60) (D_X8_statement_0.at 9 rfl) ?_
    refine J_ldcsE (tx := "owner") 23 rfl 3 (v := 1003) rfl (by decide) (List.mem_of_getElem? (i := 3) rfl) (D_X8_statement_0.at 10 rfl) ?_
    refine J_callV (d' := 7) (sr := fun z => [vI z]) (as := [vR 1003]) (st := []) (o := 1) 26 rfl ok_X10_word im_X10_word se_X10_word ml_8_80 isC_10 ob_1 (Ob.lt ob_1) rfl (by decide) ⟨Nat.le_refl _, Nat.le_refl _⟩ (Nat.le_of_ble_eq_true rfl) (D_X8_statement_0.at 11 rfl) (fun _ => rfl) T (fun r4 h5 T b6 => ?_)
    replace T := T b6
    refine J_if_eq 29 rfl 74 (inR_b b6) (D_X8_statement_0.at 12 rfl) (by decide) (fun c175 => ?_) (fun c175 => ?_)
    · replace T := T.1 c175
      refine J_aload_n 75 rfl 0 0 rfl ⟨by decide, by decide⟩ (D_X8_statement_0.at 34 rfl) ?_
      refine J_getF (ov := 1) (dd := 941) 78 rfl fl_8_9 rfl (by decide) rfl ob_60 (Ob.lt ob_60) (D_X8_statement_0.at 35 rfl) ?_
      refine J_ldcsE (tx := "colour") 80 rfl 5 (v := 1005) rfl (by decide) (List.mem_of_getElem? (i := 5) rfl) (D_X8_statement_0.at 36 rfl) ?_
      refine J_callV (d' := 7) (sr := fun z => [vI z]) (as := [vR 1005]) (st := []) (o := 1) 83 rfl ok_X10_word im_X10_word se_X10_word ml_8_80 isC_10 ob_1 (Ob.lt ob_1) rfl (by decide) ⟨Nat.le_refl _, Nat.le_refl _⟩ (Nat.le_of_ble_eq_true rfl) (D_X8_statement_0.at 37 rfl) (fun _ => rfl) T (fun r7 h8 T b9 => ?_)
      replace T := T b9
      refine J_if_eq 86 rfl 131 (inR_b b9) (D_X8_statement_0.at 38 rfl) (by decide) (fun c151 => ?_) (fun c151 => ?_)
      · replace T := T.1 c151
        refine J_aload_n 132 rfl 0 0 rfl ⟨by decide, by decide⟩ (D_X8_statement_1.at 12 rfl) ?_
        refine J_getF (ov := 1) (dd := 941) 135 rfl fl_8_9 rfl (by decide) rfl ob_60 (Ob.lt ob_60) (D_X8_statement_1.at 13 rfl) ?_
        refine J_ldcsE (tx := "bank") 137 rfl 6 (v := 1006) rfl (by decide) (List.mem_of_getElem? (i := 6) rfl) (D_X8_statement_1.at 14 rfl) ?_
        refine J_callV (d' := 7) (sr := fun z => [vI z]) (as := [vR 1006]) (st := []) (o := 1) 140 rfl ok_X10_word im_X10_word se_X10_word ml_8_80 isC_10 ob_1 (Ob.lt ob_1) rfl (by decide) ⟨Nat.le_refl _, Nat.le_refl _⟩ (Nat.le_of_ble_eq_true rfl) (D_X8_statement_1.at 15 rfl) (fun _ => rfl) T (fun r10 h11 T b12 => ?_)
        replace T := T b12
        refine J_if_eq 143 rfl 195 (inR_b b12) (D_X8_statement_1.at 16 rfl) (by decide) (fun c127 => ?_) (fun c127 => ?_)
        · replace T := T.1 c127
          refine J_aload_n 196 rfl 0 0 rfl ⟨by decide, by decide⟩ (D_X8_statement_1.at 41 rfl) ?_
          refine J_getF (ov := 1) (dd := 941) 199 rfl fl_8_9 rfl (by decide) rfl ob_60 (Ob.lt ob_60) (D_X8_statement_1.at 42 rfl) ?_
          refine J_ldcsE (tx := "cut") 201 rfl 10 (v := 1010) rfl (by decide) (List.mem_of_getElem? (i := 10) rfl) (D_X8_statement_1.at 43 rfl) ?_
          refine J_callV (d' := 7) (sr := fun z => [vI z]) (as := [vR 1010]) (st := []) (o := 1) 204 rfl ok_X10_word im_X10_word se_X10_word ml_8_80 isC_10 ob_1 (Ob.lt ob_1) rfl (by decide) ⟨Nat.le_refl _, Nat.le_refl _⟩ (Nat.le_of_ble_eq_true rfl) (D_X8_statement_1.at 44 rfl) (fun _ => rfl) T (fun r13 h14 T b15 => ?_)
          replace T := T b15
          refine J_if_eq 207 rfl 255 (inR_b b15) (D_X8_statement_1.at 45 rfl) (by decide) (fun c95 => ?_) (fun c95 => ?_)
          · replace T := T.1 c95
            refine J_aload_n 256 rfl 0 0 rfl ⟨by decide, by decide⟩ (D_X8_statement_2.at 20 rfl) ?_
            refine J_getF (ov := 1) (dd := 941) 259 rfl fl_8_9 rfl (by decide) rfl ob_60 (Ob.lt ob_60) (D_X8_statement_2.at 21 rfl) ?_
            refine J_ldcsE (tx := "settle") 261 rfl 22 (v := 1022) rfl (by decide) (List.mem_of_getElem? (i := 24) rfl) (D_X8_statement_2.at 22 rfl) ?_
            refine J_callV (d' := 7) (sr := fun z => [vI z]) (as := [vR 1022]) (st := []) (o := 1) 264 rfl ok_X10_word im_X10_word se_X10_word ml_8_80 isC_10 ob_1 (Ob.lt ob_1) rfl (by decide) ⟨Nat.le_refl _, Nat.le_refl _⟩ (Nat.le_of_ble_eq_true rfl) (D_X8_statement_2.at 23 rfl) (fun _ => rfl) T (fun r16 h17 T b18 => ?_)
            replace T := T b18
            refine J_if_eq 267 rfl 315 (inR_b b18) (D_X8_statement_2.at 24 rfl) (by decide) (fun c73 => ?_) (fun c73 => ?_)
            · replace T := T.1 c73
              refine J_aload_n 316 rfl 0 0 rfl ⟨by decide, by decide⟩ (D_X8_statement_2.at 47 rfl) ?_
              refine J_getF (ov := 1) (dd := 941) 319 rfl fl_8_9 rfl (by decide) rfl ob_60 (Ob.lt ob_60) (D_X8_statement_3.at 0 rfl) ?_
              refine J_ldcsE (tx := "rises") 321 rfl 23 (v := 1023) rfl (by decide) (List.mem_of_getElem? (i := 25) rfl) (D_X8_statement_3.at 1 rfl) ?_
              refine J_callV (d' := 7) (sr := fun z => [vI z]) (as := [vR 1023]) (st := []) (o := 1) 324 rfl ok_X10_word im_X10_word se_X10_word ml_8_80 isC_10 ob_1 (Ob.lt ob_1) rfl (by decide) ⟨Nat.le_refl _, Nat.le_refl _⟩ (Nat.le_of_ble_eq_true rfl) (D_X8_statement_3.at 2 rfl) (fun _ => rfl) T (fun r19 h20 T b21 => ?_)
              replace T := T b21
              refine J_if_eq 327 rfl 347 (inR_b b21) (D_X8_statement_3.at 3 rfl) (by decide) (fun c51 => ?_) (fun c51 => ?_)
              · replace T := T.1 c51
                refine J_aload_n 348 rfl 0 0 rfl ⟨by decide, by decide⟩ (D_X8_statement_3.at 13 rfl) ?_
                refine J_getF (ov := 1) (dd := 941) 351 rfl fl_8_9 rfl (by decide) rfl ob_60 (Ob.lt ob_60) (D_X8_statement_3.at 14 rfl) ?_
                refine J_ldcsE (tx := "joins") 353 rfl 24 (v := 1024) rfl (by decide) (List.mem_of_getElem? (i := 26) rfl) (D_X8_statement_3.at 15 rfl) ?_
                refine J_callV (d' := 7) (sr := fun z => [vI z]) (as := [vR 1024]) (st := []) (o := 1) 356 rfl ok_X10_word im_X10_word se_X10_word ml_8_80 isC_10 ob_1 (Ob.lt ob_1) rfl (by decide) ⟨Nat.le_refl _, Nat.le_refl _⟩ (Nat.le_of_ble_eq_true rfl) (D_X8_statement_3.at 16 rfl) (fun _ => rfl) T (fun r22 h23 T b24 => ?_)
                replace T := T b24
                refine J_if_eq 359 rfl 379 (inR_b b24) (D_X8_statement_3.at 17 rfl) (by decide) (fun c44 => ?_) (fun c44 => ?_)
                · replace T := T.1 c44
                  refine J_aload_n 380 rfl 0 0 rfl ⟨by decide, by decide⟩ (D_X8_statement_3.at 27 rfl) ?_
                  refine J_getF (ov := 1) (dd := 941) 383 rfl fl_8_9 rfl (by decide) rfl ob_60 (Ob.lt ob_60) (D_X8_statement_3.at 28 rfl) ?_
                  refine J_ldcsE (tx := "ebb") 385 rfl 25 (v := 1025) rfl (by decide) (List.mem_of_getElem? (i := 27) rfl) (D_X8_statement_3.at 29 rfl) ?_
                  refine J_callV (d' := 7) (sr := fun z => [vI z]) (as := [vR 1025]) (st := []) (o := 1) 388 rfl ok_X10_word im_X10_word se_X10_word ml_8_80 isC_10 ob_1 (Ob.lt ob_1) rfl (by decide) ⟨Nat.le_refl _, Nat.le_refl _⟩ (Nat.le_of_ble_eq_true rfl) (D_X8_statement_3.at 30 rfl) (fun _ => rfl) T (fun r25 h26 T b27 => ?_)
                  replace T := T b27
                  refine J_if_eq 391 rfl 411 (inR_b b27) (D_X8_statement_3.at 31 rfl) (by decide) (fun c37 => ?_) (fun c37 => ?_)
                  · replace T := T.1 c37
                    refine J_aload_n 412 rfl 0 0 rfl ⟨by decide, by decide⟩ (D_X8_statement_3.at 41 rfl) ?_
                    refine J_getF (ov := 1) (dd := 941) 415 rfl fl_8_9 rfl (by decide) rfl ob_60 (Ob.lt ob_60) (D_X8_statement_3.at 42 rfl) ?_
                    refine J_callV (d' := 2) (sr := fun z => [vI z]) (as := []) (st := []) (o := 1) 418 rfl ok_X10_failHere im_X10_failHere se_X10_failHere ml_8_55 isC_10 ob_1 (Ob.lt ob_1) rfl (by decide) ⟨Nat.le_refl _, Nat.le_refl _⟩ (Nat.le_of_ble_eq_true rfl) (D_X8_statement_3.at 43 rfl) (fun _ => rfl) T (fun r28 h29 T b30 => ?_)
                    replace T := T b30
                    refine J_pop 419 rfl rfl (D_X8_statement_3.at 44 rfl) ?_
                    exact T
                  replace T := T.2 c37
                  refine J_aload_n 392 rfl 0 0 rfl ⟨by decide, by decide⟩ (D_X8_statement_3.at 32 rfl) ?_
                  obtain ⟨s31, T⟩ := T
                  refine J_getR (z := (h26 60 2)) 395 rfl fl_8_19 rfl ob_60 (Ob.lt ob_60) (D_X8_statement_3.at 33 rfl) rfl ?_
                  refine J_aload_n 396 rfl 0 0 rfl ⟨by decide, by decide⟩ (D_X8_statement_3.at 34 rfl) ?_
                  refine J_getF (ov := 1) (dd := 941) 399 rfl fl_8_9 rfl (by decide) rfl ob_60 (Ob.lt ob_60) (D_X8_statement_3.at 35 rfl) ?_
                  refine J_iconst 400 rfl (D_X8_statement_3.at 36 rfl) ?_
                  refine J_bipush 402 rfl ⟨by decide, by decide⟩ (D_X8_statement_3.at 37 rfl) ?_
                  refine J_callV (d' := 3) (sr := fun z => [vI z, vR (h26 60 2)]) (as := [vI 0, vI 50]) (st := [vR (h26 60 2)]) (o := 1) 405 rfl ok_X10_number im_X10_number se_X10_number ml_8_64 isC_10 ob_1 (Ob.lt ob_1) rfl (by decide) ⟨Nat.le_refl _, Nat.le_refl _⟩ (Nat.le_of_ble_eq_true rfl) (D_X8_statement_3.at 38 rfl) (fun _ => rfl) T (fun r32 h33 T b34 => ?_)
                  refine J_putI 408 rfl fl_8_147 rfl rfl s31 (Ob.lt s31) (D_X8_statement_3.at 39 rfl) (fun h35 e36 => ?_)
                  replace T := T h35 e36
                  refine J_goto 419 (D_X8_statement_3.at 40 rfl) (by decide) ?_
                  exact T
                replace T := T.2 c44
                refine J_aload_n 360 rfl 0 0 rfl ⟨by decide, by decide⟩ (D_X8_statement_3.at 18 rfl) ?_
                obtain ⟨s38, T⟩ := T
                refine J_getR (z := (h23 60 2)) 363 rfl fl_8_19 rfl ob_60 (Ob.lt ob_60) (D_X8_statement_3.at 19 rfl) rfl ?_
                refine J_aload_n 364 rfl 0 0 rfl ⟨by decide, by decide⟩ (D_X8_statement_3.at 20 rfl) ?_
                refine J_getF (ov := 1) (dd := 941) 367 rfl fl_8_9 rfl (by decide) rfl ob_60 (Ob.lt ob_60) (D_X8_statement_3.at 21 rfl) ?_
                refine J_iconst 368 rfl (D_X8_statement_3.at 22 rfl) ?_
                refine J_bipush 370 rfl ⟨by decide, by decide⟩ (D_X8_statement_3.at 23 rfl) ?_
                refine J_callV (d' := 3) (sr := fun z => [vI z, vR (h23 60 2)]) (as := [vI 1, vI 99]) (st := [vR (h23 60 2)]) (o := 1) 373 rfl ok_X10_number im_X10_number se_X10_number ml_8_64 isC_10 ob_1 (Ob.lt ob_1) rfl (by decide) ⟨Nat.le_refl _, Nat.le_refl _⟩ (Nat.le_of_ble_eq_true rfl) (D_X8_statement_3.at 24 rfl) (fun _ => rfl) T (fun r39 h40 T b41 => ?_)
                refine J_putI 376 rfl fl_8_143 rfl rfl s38 (Ob.lt s38) (D_X8_statement_3.at 25 rfl) (fun h42 e43 => ?_)
                replace T := T h42 e43
                refine J_goto 419 (D_X8_statement_3.at 26 rfl) (by decide) ?_
                exact T
              replace T := T.2 c51
              refine J_aload_n 328 rfl 0 0 rfl ⟨by decide, by decide⟩ (D_X8_statement_3.at 4 rfl) ?_
              obtain ⟨s45, T⟩ := T
              refine J_getR (z := (h20 60 2)) 331 rfl fl_8_19 rfl ob_60 (Ob.lt ob_60) (D_X8_statement_3.at 5 rfl) rfl ?_
              refine J_aload_n 332 rfl 0 0 rfl ⟨by decide, by decide⟩ (D_X8_statement_3.at 6 rfl) ?_
              refine J_getF (ov := 1) (dd := 941) 335 rfl fl_8_9 rfl (by decide) rfl ob_60 (Ob.lt ob_60) (D_X8_statement_3.at 7 rfl) ?_
              refine J_iconst 336 rfl (D_X8_statement_3.at 8 rfl) ?_
              refine J_bipush 338 rfl ⟨by decide, by decide⟩ (D_X8_statement_3.at 9 rfl) ?_
              refine J_callV (d' := 3) (sr := fun z => [vI z, vR (h20 60 2)]) (as := [vI 1, vI 99]) (st := [vR (h20 60 2)]) (o := 1) 341 rfl ok_X10_number im_X10_number se_X10_number ml_8_64 isC_10 ob_1 (Ob.lt ob_1) rfl (by decide) ⟨Nat.le_refl _, Nat.le_refl _⟩ (Nat.le_of_ble_eq_true rfl) (D_X8_statement_3.at 10 rfl) (fun _ => rfl) T (fun r46 h47 T b48 => ?_)
              refine J_putI 344 rfl fl_8_139 rfl rfl s45 (Ob.lt s45) (D_X8_statement_3.at 11 rfl) (fun h49 e50 => ?_)
              replace T := T h49 e50
              refine J_goto 419 (D_X8_statement_3.at 12 rfl) (by decide) ?_
              exact T
            replace T := T.2 c73
            refine J_aload_n 268 rfl 0 0 rfl ⟨by decide, by decide⟩ (D_X8_statement_2.at 25 rfl) ?_
            refine J_aload_n 269 rfl 0 0 rfl ⟨by decide, by decide⟩ (D_X8_statement_2.at 26 rfl) ?_
            obtain ⟨s52, T⟩ := T
            refine J_getR (z := (h17 60 2)) 272 rfl fl_8_19 rfl ob_60 (Ob.lt ob_60) (D_X8_statement_2.at 27 rfl) rfl ?_
            refine J_getF (ov := ((h17 60 2) + 15)) (dd := 1015) 275 rfl fl_8_135 rfl (by decide) rfl s52 (Ob.lt s52) (D_X8_statement_2.at 28 rfl) ?_
            refine J_callV (d' := 1) (K1 := fun z h0 => rok (some .boolean) z → JG w true m_X8_statement 62 NT NT 278 [(0, vR 60)] [vI z, vR 60] h0 _) (sr := fun z => [vI z, vR 60]) (as := []) (st := [vR 60]) (o := ((h17 60 2) + 15)) 278 rfl ok_X1_isTold im_X1_isTold se_X1_isTold ml_8_122 isC_1 (of_7_10 s52) (Ob.lt (of_7_10 s52)) rfl (by decide) ⟨Nat.le_refl _, Nat.le_refl _⟩ (Nat.le_of_ble_eq_true rfl) (D_X8_statement_2.at 29 rfl) (fun _ => rfl) (CGm_of2 (by decide) (by decide) trivial (Nat.le_of_ble_eq_true rfl) ?_) (fun _ _ kq hb => kq hb)
            refine J_aload_n 1 rfl 0 0 rfl (Ob.rng (of_7_10 s52)) (D_X1_isTold_0.at 0 rfl) ?_
            refine J_getI (z := (h17 ((h17 60 2) + 15) 1)) 4 rfl fl_1_15 rfl (of_7_10 s52) (Ob.lt (of_7_10 s52)) (D_X1_isTold_0.at 1 rfl) rfl ?_
            obtain ⟨s53, T⟩ := T
            refine J_if_le 7 rfl 11 s53 (D_X1_isTold_0.at 2 rfl) (by decide) (fun c72 => ?_) (fun c72 => ?_)
            · replace T := T.1 c72
              refine J_iconst 12 rfl (D_X1_isTold_0.at 5 rfl) ?_
              refine J_zret rfl (Or.inl rfl) (D_X1_isTold_0.at 6 rfl) (fun _ => ?_)
              refine J_if_ne 281 rfl 285 ⟨by decide, by decide⟩ (D_X8_statement_2.at 30 rfl) (by decide) (fun c => absurd c (by decide)) (fun _ => ?_)
              refine J_iconst 282 rfl (D_X8_statement_2.at 31 rfl) ?_
              refine J_goto 286 (D_X8_statement_2.at 32 rfl) (by decide) ?_
              refine J_callV (d' := 2) (sr := fun z => [vI z]) (as := [vI 1]) (st := []) (o := 60) 289 rfl ok_X8_isRoom im_X8_isRoom se_X8_isRoom ml_8_96 isC_8 ob_60 (Ob.lt ob_60) rfl (by decide) ⟨Nat.le_refl _, Nat.le_refl _⟩ (Nat.le_of_ble_eq_true rfl) (D_X8_statement_2.at 34 rfl) (fun _ => rfl) T (fun r54 h55 T b56 => ?_)
              replace T := T b56
              refine J_if_eq 292 rfl 313 (inR_b b56) (D_X8_statement_2.at 35 rfl) (by decide) (fun c62 => ?_) (fun c62 => ?_)
              · replace T := T.1 c62
                exact J_sub (lv' := []) [] rfl T
              replace T := T.2 c62
              refine J_aload_n 293 rfl 0 0 rfl ⟨by decide, by decide⟩ (D_X8_statement_2.at 36 rfl) ?_
              refine J_getF (ov := 5) (dd := 945) 296 rfl fl_8_15 rfl (by decide) rfl ob_60 (Ob.lt ob_60) (D_X8_statement_2.at 37 rfl) ?_
              refine J_aload_n 297 rfl 0 0 rfl ⟨by decide, by decide⟩ (D_X8_statement_2.at 38 rfl) ?_
              obtain ⟨s57, T⟩ := T
              refine J_getR (z := (h55 60 2)) 300 rfl fl_8_19 rfl ob_60 (Ob.lt ob_60) (D_X8_statement_2.at 39 rfl) rfl ?_
              refine J_getF (ov := ((h55 60 2) + 15)) (dd := 1015) 303 rfl fl_8_135 rfl (by decide) rfl s57 (Ob.lt s57) (D_X8_statement_2.at 40 rfl) ?_
              refine J_callV (d' := 61) (sr := fun z => [vI z]) (as := [vR ((h55 60 2) + 15)]) (st := []) (o := 5) 306 rfl ok_X2_sumInto im_X2_sumInto se_X2_sumInto ml_8_127 isC_2 ob_5 (Ob.lt ob_5) rfl (by decide) ⟨Nat.le_refl _, Nat.le_refl _⟩ (Nat.le_of_ble_eq_true rfl) (D_X8_statement_2.at 41 rfl) (fun _ => rfl) T (fun r58 h59 T b60 => ?_)
              replace T := T b60
              refine J_if_eq 309 rfl 313 (inR_b b60) (D_X8_statement_2.at 42 rfl) (by decide) (fun c61 => ?_) (fun c61 => ?_)
              · replace T := T.1 c61
                exact J_sub (lv' := []) [] rfl T
              replace T := T.2 c61
              refine J_iconst 310 rfl (D_X8_statement_2.at 43 rfl) ?_
              refine J_goto 314 (D_X8_statement_2.at 44 rfl) (by decide) ?_
              exact J_zret rfl (Or.inr rfl) (D_X8_statement_2.at 46 rfl) T
            replace T := T.2 c72
            refine J_iconst 8 rfl (D_X1_isTold_0.at 3 rfl) ?_
            refine J_goto 12 (D_X1_isTold_0.at 4 rfl) (by decide) ?_
            refine J_zret rfl (Or.inr rfl) (D_X1_isTold_0.at 6 rfl) (fun _ => ?_)
            refine J_if_ne 281 rfl 285 ⟨by decide, by decide⟩ (D_X8_statement_2.at 30 rfl) (by decide) (fun _ => ?_) (fun c => absurd (by decide) c)
            refine J_iconst 286 rfl (D_X8_statement_2.at 33 rfl) ?_
            refine J_callV (d' := 2) (sr := fun z => [vI z]) (as := [vI 0]) (st := []) (o := 60) 289 rfl ok_X8_isRoom im_X8_isRoom se_X8_isRoom ml_8_96 isC_8 ob_60 (Ob.lt ob_60) rfl (by decide) ⟨Nat.le_refl _, Nat.le_refl _⟩ (Nat.le_of_ble_eq_true rfl) (D_X8_statement_2.at 34 rfl) (fun _ => rfl) T (fun r63 h64 T b65 => ?_)
            replace T := T b65
            refine J_if_eq 292 rfl 313 (inR_b b65) (D_X8_statement_2.at 35 rfl) (by decide) (fun c71 => ?_) (fun c71 => ?_)
            · replace T := T.1 c71
              exact J_sub (lv' := []) [] rfl T
            replace T := T.2 c71
            refine J_aload_n 293 rfl 0 0 rfl ⟨by decide, by decide⟩ (D_X8_statement_2.at 36 rfl) ?_
            refine J_getF (ov := 5) (dd := 945) 296 rfl fl_8_15 rfl (by decide) rfl ob_60 (Ob.lt ob_60) (D_X8_statement_2.at 37 rfl) ?_
            refine J_aload_n 297 rfl 0 0 rfl ⟨by decide, by decide⟩ (D_X8_statement_2.at 38 rfl) ?_
            obtain ⟨s66, T⟩ := T
            refine J_getR (z := (h64 60 2)) 300 rfl fl_8_19 rfl ob_60 (Ob.lt ob_60) (D_X8_statement_2.at 39 rfl) rfl ?_
            refine J_getF (ov := ((h64 60 2) + 15)) (dd := 1015) 303 rfl fl_8_135 rfl (by decide) rfl s66 (Ob.lt s66) (D_X8_statement_2.at 40 rfl) ?_
            refine J_callV (d' := 61) (sr := fun z => [vI z]) (as := [vR ((h64 60 2) + 15)]) (st := []) (o := 5) 306 rfl ok_X2_sumInto im_X2_sumInto se_X2_sumInto ml_8_127 isC_2 ob_5 (Ob.lt ob_5) rfl (by decide) ⟨Nat.le_refl _, Nat.le_refl _⟩ (Nat.le_of_ble_eq_true rfl) (D_X8_statement_2.at 41 rfl) (fun _ => rfl) T (fun r67 h68 T b69 => ?_)
            replace T := T b69
            refine J_if_eq 309 rfl 313 (inR_b b69) (D_X8_statement_2.at 42 rfl) (by decide) (fun c70 => ?_) (fun c70 => ?_)
            · replace T := T.1 c70
              exact J_sub (lv' := []) [] rfl T
            replace T := T.2 c70
            refine J_iconst 310 rfl (D_X8_statement_2.at 43 rfl) ?_
            refine J_goto 314 (D_X8_statement_2.at 44 rfl) (by decide) ?_
            exact J_zret rfl (Or.inr rfl) (D_X8_statement_2.at 46 rfl) T
          replace T := T.2 c95
          refine J_aload_n 208 rfl 0 0 rfl ⟨by decide, by decide⟩ (D_X8_statement_1.at 46 rfl) ?_
          refine J_aload_n 209 rfl 0 0 rfl ⟨by decide, by decide⟩ (D_X8_statement_1.at 47 rfl) ?_
          obtain ⟨s74, T⟩ := T
          refine J_getR (z := (h14 60 2)) 212 rfl fl_8_19 rfl ob_60 (Ob.lt ob_60) (D_X8_statement_2.at 0 rfl) rfl ?_
          refine J_getF (ov := ((h14 60 2) + 13)) (dd := 1013) 215 rfl fl_8_119 rfl (by decide) rfl s74 (Ob.lt s74) (D_X8_statement_2.at 1 rfl) ?_
          refine J_callV (d' := 1) (K1 := fun z h0 => rok (some .boolean) z → JG w true m_X8_statement 62 NT NT 218 [(0, vR 60)] [vI z, vR 60] h0 _) (sr := fun z => [vI z, vR 60]) (as := []) (st := [vR 60]) (o := ((h14 60 2) + 13)) 218 rfl ok_X1_isTold im_X1_isTold se_X1_isTold ml_8_122 isC_1 (of_7_9 s74) (Ob.lt (of_7_9 s74)) rfl (by decide) ⟨Nat.le_refl _, Nat.le_refl _⟩ (Nat.le_of_ble_eq_true rfl) (D_X8_statement_2.at 2 rfl) (fun _ => rfl) (CGm_of2 (by decide) (by decide) trivial (Nat.le_of_ble_eq_true rfl) ?_) (fun _ _ kq hb => kq hb)
          refine J_aload_n 1 rfl 0 0 rfl (Ob.rng (of_7_9 s74)) (D_X1_isTold_0.at 0 rfl) ?_
          refine J_getI (z := (h14 ((h14 60 2) + 13) 1)) 4 rfl fl_1_15 rfl (of_7_9 s74) (Ob.lt (of_7_9 s74)) (D_X1_isTold_0.at 1 rfl) rfl ?_
          obtain ⟨s75, T⟩ := T
          refine J_if_le 7 rfl 11 s75 (D_X1_isTold_0.at 2 rfl) (by decide) (fun c94 => ?_) (fun c94 => ?_)
          · replace T := T.1 c94
            refine J_iconst 12 rfl (D_X1_isTold_0.at 5 rfl) ?_
            refine J_zret rfl (Or.inl rfl) (D_X1_isTold_0.at 6 rfl) (fun _ => ?_)
            refine J_if_ne 221 rfl 225 ⟨by decide, by decide⟩ (D_X8_statement_2.at 3 rfl) (by decide) (fun c => absurd c (by decide)) (fun _ => ?_)
            refine J_iconst 222 rfl (D_X8_statement_2.at 4 rfl) ?_
            refine J_goto 226 (D_X8_statement_2.at 5 rfl) (by decide) ?_
            refine J_callV (d' := 2) (sr := fun z => [vI z]) (as := [vI 1]) (st := []) (o := 60) 229 rfl ok_X8_isRoom im_X8_isRoom se_X8_isRoom ml_8_96 isC_8 ob_60 (Ob.lt ob_60) rfl (by decide) ⟨Nat.le_refl _, Nat.le_refl _⟩ (Nat.le_of_ble_eq_true rfl) (D_X8_statement_2.at 7 rfl) (fun _ => rfl) T (fun r76 h77 T b78 => ?_)
            replace T := T b78
            refine J_if_eq 232 rfl 253 (inR_b b78) (D_X8_statement_2.at 8 rfl) (by decide) (fun c84 => ?_) (fun c84 => ?_)
            · replace T := T.1 c84
              exact J_sub (lv' := []) [] rfl T
            replace T := T.2 c84
            refine J_aload_n 233 rfl 0 0 rfl ⟨by decide, by decide⟩ (D_X8_statement_2.at 9 rfl) ?_
            refine J_getF (ov := 5) (dd := 945) 236 rfl fl_8_15 rfl (by decide) rfl ob_60 (Ob.lt ob_60) (D_X8_statement_2.at 10 rfl) ?_
            refine J_aload_n 237 rfl 0 0 rfl ⟨by decide, by decide⟩ (D_X8_statement_2.at 11 rfl) ?_
            obtain ⟨s79, T⟩ := T
            refine J_getR (z := (h77 60 2)) 240 rfl fl_8_19 rfl ob_60 (Ob.lt ob_60) (D_X8_statement_2.at 12 rfl) rfl ?_
            refine J_getF (ov := ((h77 60 2) + 13)) (dd := 1013) 243 rfl fl_8_119 rfl (by decide) rfl s79 (Ob.lt s79) (D_X8_statement_2.at 13 rfl) ?_
            refine J_callV (d' := 61) (sr := fun z => [vI z]) (as := [vR ((h77 60 2) + 13)]) (st := []) (o := 5) 246 rfl ok_X2_sumInto im_X2_sumInto se_X2_sumInto ml_8_127 isC_2 ob_5 (Ob.lt ob_5) rfl (by decide) ⟨Nat.le_refl _, Nat.le_refl _⟩ (Nat.le_of_ble_eq_true rfl) (D_X8_statement_2.at 14 rfl) (fun _ => rfl) T (fun r80 h81 T b82 => ?_)
            replace T := T b82
            refine J_if_eq 249 rfl 253 (inR_b b82) (D_X8_statement_2.at 15 rfl) (by decide) (fun c83 => ?_) (fun c83 => ?_)
            · replace T := T.1 c83
              exact J_sub (lv' := []) [] rfl T
            replace T := T.2 c83
            refine J_iconst 250 rfl (D_X8_statement_2.at 16 rfl) ?_
            refine J_goto 254 (D_X8_statement_2.at 17 rfl) (by decide) ?_
            exact J_zret rfl (Or.inr rfl) (D_X8_statement_2.at 19 rfl) T
          replace T := T.2 c94
          refine J_iconst 8 rfl (D_X1_isTold_0.at 3 rfl) ?_
          refine J_goto 12 (D_X1_isTold_0.at 4 rfl) (by decide) ?_
          refine J_zret rfl (Or.inr rfl) (D_X1_isTold_0.at 6 rfl) (fun _ => ?_)
          refine J_if_ne 221 rfl 225 ⟨by decide, by decide⟩ (D_X8_statement_2.at 3 rfl) (by decide) (fun _ => ?_) (fun c => absurd (by decide) c)
          refine J_iconst 226 rfl (D_X8_statement_2.at 6 rfl) ?_
          refine J_callV (d' := 2) (sr := fun z => [vI z]) (as := [vI 0]) (st := []) (o := 60) 229 rfl ok_X8_isRoom im_X8_isRoom se_X8_isRoom ml_8_96 isC_8 ob_60 (Ob.lt ob_60) rfl (by decide) ⟨Nat.le_refl _, Nat.le_refl _⟩ (Nat.le_of_ble_eq_true rfl) (D_X8_statement_2.at 7 rfl) (fun _ => rfl) T (fun r85 h86 T b87 => ?_)
          replace T := T b87
          refine J_if_eq 232 rfl 253 (inR_b b87) (D_X8_statement_2.at 8 rfl) (by decide) (fun c93 => ?_) (fun c93 => ?_)
          · replace T := T.1 c93
            exact J_sub (lv' := []) [] rfl T
          replace T := T.2 c93
          refine J_aload_n 233 rfl 0 0 rfl ⟨by decide, by decide⟩ (D_X8_statement_2.at 9 rfl) ?_
          refine J_getF (ov := 5) (dd := 945) 236 rfl fl_8_15 rfl (by decide) rfl ob_60 (Ob.lt ob_60) (D_X8_statement_2.at 10 rfl) ?_
          refine J_aload_n 237 rfl 0 0 rfl ⟨by decide, by decide⟩ (D_X8_statement_2.at 11 rfl) ?_
          obtain ⟨s88, T⟩ := T
          refine J_getR (z := (h86 60 2)) 240 rfl fl_8_19 rfl ob_60 (Ob.lt ob_60) (D_X8_statement_2.at 12 rfl) rfl ?_
          refine J_getF (ov := ((h86 60 2) + 13)) (dd := 1013) 243 rfl fl_8_119 rfl (by decide) rfl s88 (Ob.lt s88) (D_X8_statement_2.at 13 rfl) ?_
          refine J_callV (d' := 61) (sr := fun z => [vI z]) (as := [vR ((h86 60 2) + 13)]) (st := []) (o := 5) 246 rfl ok_X2_sumInto im_X2_sumInto se_X2_sumInto ml_8_127 isC_2 ob_5 (Ob.lt ob_5) rfl (by decide) ⟨Nat.le_refl _, Nat.le_refl _⟩ (Nat.le_of_ble_eq_true rfl) (D_X8_statement_2.at 14 rfl) (fun _ => rfl) T (fun r89 h90 T b91 => ?_)
          replace T := T b91
          refine J_if_eq 249 rfl 253 (inR_b b91) (D_X8_statement_2.at 15 rfl) (by decide) (fun c92 => ?_) (fun c92 => ?_)
          · replace T := T.1 c92
            exact J_sub (lv' := []) [] rfl T
          replace T := T.2 c92
          refine J_iconst 250 rfl (D_X8_statement_2.at 16 rfl) ?_
          refine J_goto 254 (D_X8_statement_2.at 17 rfl) (by decide) ?_
          exact J_zret rfl (Or.inr rfl) (D_X8_statement_2.at 19 rfl) T
        replace T := T.2 c127
        refine J_aload_n 144 rfl 0 0 rfl ⟨by decide, by decide⟩ (D_X8_statement_1.at 17 rfl) ?_
        refine J_aload_n 145 rfl 0 0 rfl ⟨by decide, by decide⟩ (D_X8_statement_1.at 18 rfl) ?_
        obtain ⟨s96, T⟩ := T
        refine J_getR (z := (h11 60 2)) 148 rfl fl_8_19 rfl ob_60 (Ob.lt ob_60) (D_X8_statement_1.at 19 rfl) rfl ?_
        refine J_getF (ov := ((h11 60 2) + 5)) (dd := 1005) 151 rfl fl_8_111 rfl (by decide) rfl s96 (Ob.lt s96) (D_X8_statement_1.at 20 rfl) ?_
        refine J_callV (d' := 1) (sr := fun z => [vI z, vR 60]) (as := []) (st := [vR 60]) (o := ((h11 60 2) + 5)) 154 rfl ok_X4_isFull im_X4_isFull se_X4_isFull ml_8_91 isC_4 (of_7_2 s96) (Ob.lt (of_7_2 s96)) rfl (by decide) ⟨Nat.le_refl _, Nat.le_refl _⟩ (Nat.le_of_ble_eq_true rfl) (D_X8_statement_1.at 21 rfl) (fun _ => rfl) T (fun r97 h98 T b99 => ?_)
        replace T := T b99
        refine J_if_ne 157 rfl 161 (inR_b b99) (D_X8_statement_1.at 22 rfl) (by decide) (fun c126 => ?_) (fun c126 => ?_)
        · replace T := T.1 c126
          refine J_iconst 162 rfl (D_X8_statement_1.at 25 rfl) ?_
          refine J_callV (d' := 2) (sr := fun z => [vI z]) (as := [vI 0]) (st := []) (o := 60) 165 rfl ok_X8_isRoom im_X8_isRoom se_X8_isRoom ml_8_96 isC_8 ob_60 (Ob.lt ob_60) rfl (by decide) ⟨Nat.le_refl _, Nat.le_refl _⟩ (Nat.le_of_ble_eq_true rfl) (D_X8_statement_1.at 26 rfl) (fun _ => rfl) T (fun r100 h101 T b102 => ?_)
          replace T := T b102
          refine J_if_eq 168 rfl 193 (inR_b b102) (D_X8_statement_1.at 27 rfl) (by decide) (fun c112 => ?_) (fun c112 => ?_)
          · replace T := T.1 c112
            exact J_sub (lv' := []) [] rfl T
          replace T := T.2 c112
          refine J_aload_n 169 rfl 0 0 rfl ⟨by decide, by decide⟩ (D_X8_statement_1.at 28 rfl) ?_
          refine J_aload_n 170 rfl 0 0 rfl ⟨by decide, by decide⟩ (D_X8_statement_1.at 29 rfl) ?_
          obtain ⟨s103, T⟩ := T
          refine J_getR (z := (h101 60 2)) 173 rfl fl_8_19 rfl ob_60 (Ob.lt ob_60) (D_X8_statement_1.at 30 rfl) rfl ?_
          refine J_getF (ov := ((h101 60 2) + 5)) (dd := 1005) 176 rfl fl_8_111 rfl (by decide) rfl s103 (Ob.lt s103) (D_X8_statement_1.at 31 rfl) ?_
          refine J_callV (d' := 9) (sr := fun z => [vI z]) (as := [vR ((h101 60 2) + 5)]) (st := []) (o := 60) 179 rfl ok_X8_given im_X8_given se_X8_given ml_8_100 isC_8 ob_60 (Ob.lt ob_60) rfl (by decide) ⟨Nat.le_refl _, Nat.le_refl _⟩ (Nat.le_of_ble_eq_true rfl) (D_X8_statement_1.at 32 rfl) (fun _ => rfl) T (fun r104 h105 T b106 => ?_)
          replace T := T b106
          refine J_if_eq 182 rfl 193 (inR_b b106) (D_X8_statement_1.at 33 rfl) (by decide) (fun c111 => ?_) (fun c111 => ?_)
          · replace T := T.1 c111
            exact J_sub (lv' := []) [] rfl T
          replace T := T.2 c111
          refine J_aload_n 183 rfl 0 0 rfl ⟨by decide, by decide⟩ (D_X8_statement_1.at 34 rfl) ?_
          refine J_callV (d' := 10) (sr := fun z => [vI z]) (as := []) (st := []) (o := 60) 186 rfl ok_X8_bankTold im_X8_bankTold se_X8_bankTold ml_8_114 isC_8 ob_60 (Ob.lt ob_60) rfl (by decide) ⟨Nat.le_refl _, Nat.le_refl _⟩ (Nat.le_of_ble_eq_true rfl) (D_X8_statement_1.at 35 rfl) (fun _ => rfl) T (fun r107 h108 T b109 => ?_)
          replace T := T b109
          refine J_if_eq 189 rfl 193 (inR_b b109) (D_X8_statement_1.at 36 rfl) (by decide) (fun c110 => ?_) (fun c110 => ?_)
          · replace T := T.1 c110
            exact J_sub (lv' := []) [] rfl T
          replace T := T.2 c110
          refine J_iconst 190 rfl (D_X8_statement_1.at 37 rfl) ?_
          refine J_goto 194 (D_X8_statement_1.at 38 rfl) (by decide) ?_
          exact J_zret rfl (Or.inr rfl) (D_X8_statement_1.at 40 rfl) T
        replace T := T.2 c126
        refine J_iconst 158 rfl (D_X8_statement_1.at 23 rfl) ?_
        refine J_goto 162 (D_X8_statement_1.at 24 rfl) (by decide) ?_
        refine J_callV (d' := 2) (sr := fun z => [vI z]) (as := [vI 1]) (st := []) (o := 60) 165 rfl ok_X8_isRoom im_X8_isRoom se_X8_isRoom ml_8_96 isC_8 ob_60 (Ob.lt ob_60) rfl (by decide) ⟨Nat.le_refl _, Nat.le_refl _⟩ (Nat.le_of_ble_eq_true rfl) (D_X8_statement_1.at 26 rfl) (fun _ => rfl) T (fun r113 h114 T b115 => ?_)
        replace T := T b115
        refine J_if_eq 168 rfl 193 (inR_b b115) (D_X8_statement_1.at 27 rfl) (by decide) (fun c125 => ?_) (fun c125 => ?_)
        · replace T := T.1 c125
          exact J_sub (lv' := []) [] rfl T
        replace T := T.2 c125
        refine J_aload_n 169 rfl 0 0 rfl ⟨by decide, by decide⟩ (D_X8_statement_1.at 28 rfl) ?_
        refine J_aload_n 170 rfl 0 0 rfl ⟨by decide, by decide⟩ (D_X8_statement_1.at 29 rfl) ?_
        obtain ⟨s116, T⟩ := T
        refine J_getR (z := (h114 60 2)) 173 rfl fl_8_19 rfl ob_60 (Ob.lt ob_60) (D_X8_statement_1.at 30 rfl) rfl ?_
        refine J_getF (ov := ((h114 60 2) + 5)) (dd := 1005) 176 rfl fl_8_111 rfl (by decide) rfl s116 (Ob.lt s116) (D_X8_statement_1.at 31 rfl) ?_
        refine J_callV (d' := 9) (sr := fun z => [vI z]) (as := [vR ((h114 60 2) + 5)]) (st := []) (o := 60) 179 rfl ok_X8_given im_X8_given se_X8_given ml_8_100 isC_8 ob_60 (Ob.lt ob_60) rfl (by decide) ⟨Nat.le_refl _, Nat.le_refl _⟩ (Nat.le_of_ble_eq_true rfl) (D_X8_statement_1.at 32 rfl) (fun _ => rfl) T (fun r117 h118 T b119 => ?_)
        replace T := T b119
        refine J_if_eq 182 rfl 193 (inR_b b119) (D_X8_statement_1.at 33 rfl) (by decide) (fun c124 => ?_) (fun c124 => ?_)
        · replace T := T.1 c124
          exact J_sub (lv' := []) [] rfl T
        replace T := T.2 c124
        refine J_aload_n 183 rfl 0 0 rfl ⟨by decide, by decide⟩ (D_X8_statement_1.at 34 rfl) ?_
        refine J_callV (d' := 10) (sr := fun z => [vI z]) (as := []) (st := []) (o := 60) 186 rfl ok_X8_bankTold im_X8_bankTold se_X8_bankTold ml_8_114 isC_8 ob_60 (Ob.lt ob_60) rfl (by decide) ⟨Nat.le_refl _, Nat.le_refl _⟩ (Nat.le_of_ble_eq_true rfl) (D_X8_statement_1.at 35 rfl) (fun _ => rfl) T (fun r120 h121 T b122 => ?_)
        replace T := T b122
        refine J_if_eq 189 rfl 193 (inR_b b122) (D_X8_statement_1.at 36 rfl) (by decide) (fun c123 => ?_) (fun c123 => ?_)
        · replace T := T.1 c123
          exact J_sub (lv' := []) [] rfl T
        replace T := T.2 c123
        refine J_iconst 190 rfl (D_X8_statement_1.at 37 rfl) ?_
        refine J_goto 194 (D_X8_statement_1.at 38 rfl) (by decide) ?_
        exact J_zret rfl (Or.inr rfl) (D_X8_statement_1.at 40 rfl) T
      replace T := T.2 c151
      refine J_aload_n 87 rfl 0 0 rfl ⟨by decide, by decide⟩ (D_X8_statement_0.at 39 rfl) ?_
      refine J_aload_n 88 rfl 0 0 rfl ⟨by decide, by decide⟩ (D_X8_statement_0.at 40 rfl) ?_
      obtain ⟨s128, T⟩ := T
      refine J_getR (z := (h8 60 2)) 91 rfl fl_8_19 rfl ob_60 (Ob.lt ob_60) (D_X8_statement_0.at 41 rfl) rfl ?_
      refine J_getF (ov := ((h8 60 2) + 3)) (dd := 1003) 94 rfl fl_8_106 rfl (by decide) rfl s128 (Ob.lt s128) (D_X8_statement_0.at 42 rfl) ?_
      refine J_callV (d' := 1) (sr := fun z => [vI z, vR 60]) (as := []) (st := [vR 60]) (o := ((h8 60 2) + 3)) 97 rfl ok_X4_isFull im_X4_isFull se_X4_isFull ml_8_91 isC_4 (of_7_1 s128) (Ob.lt (of_7_1 s128)) rfl (by decide) ⟨Nat.le_refl _, Nat.le_refl _⟩ (Nat.le_of_ble_eq_true rfl) (D_X8_statement_0.at 43 rfl) (fun _ => rfl) T (fun r129 h130 T b131 => ?_)
      replace T := T b131
      refine J_if_ne 100 rfl 104 (inR_b b131) (D_X8_statement_0.at 44 rfl) (by decide) (fun c150 => ?_) (fun c150 => ?_)
      · replace T := T.1 c150
        refine J_iconst 105 rfl (D_X8_statement_0.at 47 rfl) ?_
        refine J_callV (d' := 2) (sr := fun z => [vI z]) (as := [vI 0]) (st := []) (o := 60) 108 rfl ok_X8_isRoom im_X8_isRoom se_X8_isRoom ml_8_96 isC_8 ob_60 (Ob.lt ob_60) rfl (by decide) ⟨Nat.le_refl _, Nat.le_refl _⟩ (Nat.le_of_ble_eq_true rfl) (D_X8_statement_1.at 0 rfl) (fun _ => rfl) T (fun r132 h133 T b134 => ?_)
        replace T := T b134
        refine J_if_eq 111 rfl 129 (inR_b b134) (D_X8_statement_1.at 1 rfl) (by decide) (fun c140 => ?_) (fun c140 => ?_)
        · replace T := T.1 c140
          exact J_sub (lv' := []) [] rfl T
        replace T := T.2 c140
        refine J_aload_n 112 rfl 0 0 rfl ⟨by decide, by decide⟩ (D_X8_statement_1.at 2 rfl) ?_
        refine J_aload_n 113 rfl 0 0 rfl ⟨by decide, by decide⟩ (D_X8_statement_1.at 3 rfl) ?_
        obtain ⟨s135, T⟩ := T
        refine J_getR (z := (h133 60 2)) 116 rfl fl_8_19 rfl ob_60 (Ob.lt ob_60) (D_X8_statement_1.at 4 rfl) rfl ?_
        refine J_getF (ov := ((h133 60 2) + 3)) (dd := 1003) 119 rfl fl_8_106 rfl (by decide) rfl s135 (Ob.lt s135) (D_X8_statement_1.at 5 rfl) ?_
        refine J_callV (d' := 9) (sr := fun z => [vI z]) (as := [vR ((h133 60 2) + 3)]) (st := []) (o := 60) 122 rfl ok_X8_given im_X8_given se_X8_given ml_8_100 isC_8 ob_60 (Ob.lt ob_60) rfl (by decide) ⟨Nat.le_refl _, Nat.le_refl _⟩ (Nat.le_of_ble_eq_true rfl) (D_X8_statement_1.at 6 rfl) (fun _ => rfl) T (fun r136 h137 T b138 => ?_)
        replace T := T b138
        refine J_if_eq 125 rfl 129 (inR_b b138) (D_X8_statement_1.at 7 rfl) (by decide) (fun c139 => ?_) (fun c139 => ?_)
        · replace T := T.1 c139
          exact J_sub (lv' := []) [] rfl T
        replace T := T.2 c139
        refine J_iconst 126 rfl (D_X8_statement_1.at 8 rfl) ?_
        refine J_goto 130 (D_X8_statement_1.at 9 rfl) (by decide) ?_
        exact J_zret rfl (Or.inr rfl) (D_X8_statement_1.at 11 rfl) T
      replace T := T.2 c150
      refine J_iconst 101 rfl (D_X8_statement_0.at 45 rfl) ?_
      refine J_goto 105 (D_X8_statement_0.at 46 rfl) (by decide) ?_
      refine J_callV (d' := 2) (sr := fun z => [vI z]) (as := [vI 1]) (st := []) (o := 60) 108 rfl ok_X8_isRoom im_X8_isRoom se_X8_isRoom ml_8_96 isC_8 ob_60 (Ob.lt ob_60) rfl (by decide) ⟨Nat.le_refl _, Nat.le_refl _⟩ (Nat.le_of_ble_eq_true rfl) (D_X8_statement_1.at 0 rfl) (fun _ => rfl) T (fun r141 h142 T b143 => ?_)
      replace T := T b143
      refine J_if_eq 111 rfl 129 (inR_b b143) (D_X8_statement_1.at 1 rfl) (by decide) (fun c149 => ?_) (fun c149 => ?_)
      · replace T := T.1 c149
        exact J_sub (lv' := []) [] rfl T
      replace T := T.2 c149
      refine J_aload_n 112 rfl 0 0 rfl ⟨by decide, by decide⟩ (D_X8_statement_1.at 2 rfl) ?_
      refine J_aload_n 113 rfl 0 0 rfl ⟨by decide, by decide⟩ (D_X8_statement_1.at 3 rfl) ?_
      obtain ⟨s144, T⟩ := T
      refine J_getR (z := (h142 60 2)) 116 rfl fl_8_19 rfl ob_60 (Ob.lt ob_60) (D_X8_statement_1.at 4 rfl) rfl ?_
      refine J_getF (ov := ((h142 60 2) + 3)) (dd := 1003) 119 rfl fl_8_106 rfl (by decide) rfl s144 (Ob.lt s144) (D_X8_statement_1.at 5 rfl) ?_
      refine J_callV (d' := 9) (sr := fun z => [vI z]) (as := [vR ((h142 60 2) + 3)]) (st := []) (o := 60) 122 rfl ok_X8_given im_X8_given se_X8_given ml_8_100 isC_8 ob_60 (Ob.lt ob_60) rfl (by decide) ⟨Nat.le_refl _, Nat.le_refl _⟩ (Nat.le_of_ble_eq_true rfl) (D_X8_statement_1.at 6 rfl) (fun _ => rfl) T (fun r145 h146 T b147 => ?_)
      replace T := T b147
      refine J_if_eq 125 rfl 129 (inR_b b147) (D_X8_statement_1.at 7 rfl) (by decide) (fun c148 => ?_) (fun c148 => ?_)
      · replace T := T.1 c148
        exact J_sub (lv' := []) [] rfl T
      replace T := T.2 c148
      refine J_iconst 126 rfl (D_X8_statement_1.at 8 rfl) ?_
      refine J_goto 130 (D_X8_statement_1.at 9 rfl) (by decide) ?_
      exact J_zret rfl (Or.inr rfl) (D_X8_statement_1.at 11 rfl) T
    replace T := T.2 c175
    refine J_aload_n 30 rfl 0 0 rfl ⟨by decide, by decide⟩ (D_X8_statement_0.at 13 rfl) ?_
    refine J_aload_n 31 rfl 0 0 rfl ⟨by decide, by decide⟩ (D_X8_statement_0.at 14 rfl) ?_
    obtain ⟨s152, T⟩ := T
    refine J_getR (z := (h5 60 2)) 34 rfl fl_8_19 rfl ob_60 (Ob.lt ob_60) (D_X8_statement_0.at 15 rfl) rfl ?_
    refine J_getF (ov := ((h5 60 2) + 1)) (dd := 1001) 37 rfl fl_8_87 rfl (by decide) rfl s152 (Ob.lt s152) (D_X8_statement_0.at 16 rfl) ?_
    refine J_callV (d' := 1) (sr := fun z => [vI z, vR 60]) (as := []) (st := [vR 60]) (o := ((h5 60 2) + 1)) 40 rfl ok_X4_isFull im_X4_isFull se_X4_isFull ml_8_91 isC_4 (of_7_0 s152) (Ob.lt (of_7_0 s152)) rfl (by decide) ⟨Nat.le_refl _, Nat.le_refl _⟩ (Nat.le_of_ble_eq_true rfl) (D_X8_statement_0.at 17 rfl) (fun _ => rfl) T (fun r153 h154 T b155 => ?_)
    replace T := T b155
    refine J_if_ne 43 rfl 47 (inR_b b155) (D_X8_statement_0.at 18 rfl) (by decide) (fun c174 => ?_) (fun c174 => ?_)
    · replace T := T.1 c174
      refine J_iconst 48 rfl (D_X8_statement_0.at 21 rfl) ?_
      refine J_callV (d' := 2) (sr := fun z => [vI z]) (as := [vI 0]) (st := []) (o := 60) 51 rfl ok_X8_isRoom im_X8_isRoom se_X8_isRoom ml_8_96 isC_8 ob_60 (Ob.lt ob_60) rfl (by decide) ⟨Nat.le_refl _, Nat.le_refl _⟩ (Nat.le_of_ble_eq_true rfl) (D_X8_statement_0.at 22 rfl) (fun _ => rfl) T (fun r156 h157 T b158 => ?_)
      replace T := T b158
      refine J_if_eq 54 rfl 72 (inR_b b158) (D_X8_statement_0.at 23 rfl) (by decide) (fun c164 => ?_) (fun c164 => ?_)
      · replace T := T.1 c164
        exact J_sub (lv' := []) [] rfl T
      replace T := T.2 c164
      refine J_aload_n 55 rfl 0 0 rfl ⟨by decide, by decide⟩ (D_X8_statement_0.at 24 rfl) ?_
      refine J_aload_n 56 rfl 0 0 rfl ⟨by decide, by decide⟩ (D_X8_statement_0.at 25 rfl) ?_
      obtain ⟨s159, T⟩ := T
      refine J_getR (z := (h157 60 2)) 59 rfl fl_8_19 rfl ob_60 (Ob.lt ob_60) (D_X8_statement_0.at 26 rfl) rfl ?_
      refine J_getF (ov := ((h157 60 2) + 1)) (dd := 1001) 62 rfl fl_8_87 rfl (by decide) rfl s159 (Ob.lt s159) (D_X8_statement_0.at 27 rfl) ?_
      refine J_callV (d' := 9) (sr := fun z => [vI z]) (as := [vR ((h157 60 2) + 1)]) (st := []) (o := 60) 65 rfl ok_X8_given im_X8_given se_X8_given ml_8_100 isC_8 ob_60 (Ob.lt ob_60) rfl (by decide) ⟨Nat.le_refl _, Nat.le_refl _⟩ (Nat.le_of_ble_eq_true rfl) (D_X8_statement_0.at 28 rfl) (fun _ => rfl) T (fun r160 h161 T b162 => ?_)
      replace T := T b162
      refine J_if_eq 68 rfl 72 (inR_b b162) (D_X8_statement_0.at 29 rfl) (by decide) (fun c163 => ?_) (fun c163 => ?_)
      · replace T := T.1 c163
        exact J_sub (lv' := []) [] rfl T
      replace T := T.2 c163
      refine J_iconst 69 rfl (D_X8_statement_0.at 30 rfl) ?_
      refine J_goto 73 (D_X8_statement_0.at 31 rfl) (by decide) ?_
      exact J_zret rfl (Or.inr rfl) (D_X8_statement_0.at 33 rfl) T
    replace T := T.2 c174
    refine J_iconst 44 rfl (D_X8_statement_0.at 19 rfl) ?_
    refine J_goto 48 (D_X8_statement_0.at 20 rfl) (by decide) ?_
    refine J_callV (d' := 2) (sr := fun z => [vI z]) (as := [vI 1]) (st := []) (o := 60) 51 rfl ok_X8_isRoom im_X8_isRoom se_X8_isRoom ml_8_96 isC_8 ob_60 (Ob.lt ob_60) rfl (by decide) ⟨Nat.le_refl _, Nat.le_refl _⟩ (Nat.le_of_ble_eq_true rfl) (D_X8_statement_0.at 22 rfl) (fun _ => rfl) T (fun r165 h166 T b167 => ?_)
    replace T := T b167
    refine J_if_eq 54 rfl 72 (inR_b b167) (D_X8_statement_0.at 23 rfl) (by decide) (fun c173 => ?_) (fun c173 => ?_)
    · replace T := T.1 c173
      exact J_sub (lv' := []) [] rfl T
    replace T := T.2 c173
    refine J_aload_n 55 rfl 0 0 rfl ⟨by decide, by decide⟩ (D_X8_statement_0.at 24 rfl) ?_
    refine J_aload_n 56 rfl 0 0 rfl ⟨by decide, by decide⟩ (D_X8_statement_0.at 25 rfl) ?_
    obtain ⟨s168, T⟩ := T
    refine J_getR (z := (h166 60 2)) 59 rfl fl_8_19 rfl ob_60 (Ob.lt ob_60) (D_X8_statement_0.at 26 rfl) rfl ?_
    refine J_getF (ov := ((h166 60 2) + 1)) (dd := 1001) 62 rfl fl_8_87 rfl (by decide) rfl s168 (Ob.lt s168) (D_X8_statement_0.at 27 rfl) ?_
    refine J_callV (d' := 9) (sr := fun z => [vI z]) (as := [vR ((h166 60 2) + 1)]) (st := []) (o := 60) 65 rfl ok_X8_given im_X8_given se_X8_given ml_8_100 isC_8 ob_60 (Ob.lt ob_60) rfl (by decide) ⟨Nat.le_refl _, Nat.le_refl _⟩ (Nat.le_of_ble_eq_true rfl) (D_X8_statement_0.at 28 rfl) (fun _ => rfl) T (fun r169 h170 T b171 => ?_)
    replace T := T b171
    refine J_if_eq 68 rfl 72 (inR_b b171) (D_X8_statement_0.at 29 rfl) (by decide) (fun c172 => ?_) (fun c172 => ?_)
    · replace T := T.1 c172
      exact J_sub (lv' := []) [] rfl T
    replace T := T.2 c172
    refine J_iconst 69 rfl (D_X8_statement_0.at 30 rfl) ?_
    refine J_goto 73 (D_X8_statement_0.at 31 rfl) (by decide) ?_
    exact J_zret rfl (Or.inr rfl) (D_X8_statement_0.at 33 rfl) T
  replace T := T.2 c179
  refine J_aload_n 13 rfl 0 0 rfl ⟨by decide, by decide⟩ (D_X8_statement_0.at 5 rfl) ?_
  refine J_callV (d' := 9) (sr := fun z => [vI z]) (as := []) (st := []) (o := 60) 16 rfl ok_X8_slope im_X8_slope se_X8_slope ml_8_83 isC_8 ob_60 (Ob.lt ob_60) rfl (by decide) ⟨Nat.le_refl _, Nat.le_refl _⟩ (Nat.le_of_ble_eq_true rfl) (D_X8_statement_0.at 6 rfl) (fun _ => rfl) T (fun r176 h177 T b178 => ?_)
  replace T := T b178
  exact J_zret rfl b178 (D_X8_statement_0.at 7 rfl) T
theorem l_X8_statement_72 {w : Wd} {h : Hp} {K : Int → Hp → Prop} (T : K 0 h) : L_X8_statement_72 w h K := by
  unfold L_X8_statement_72
  refine J_iconst 73 rfl (D_X8_statement_0.at 32 rfl) ?_
  exact J_zret rfl (Or.inl rfl) (D_X8_statement_0.at 33 rfl) T
theorem l_X8_statement_129 {w : Wd} {h : Hp} {K : Int → Hp → Prop} (T : K 0 h) : L_X8_statement_129 w h K := by
  unfold L_X8_statement_129
  refine J_iconst 130 rfl (D_X8_statement_1.at 10 rfl) ?_
  exact J_zret rfl (Or.inl rfl) (D_X8_statement_1.at 11 rfl) T
theorem l_X8_statement_193 {w : Wd} {h : Hp} {K : Int → Hp → Prop} (T : K 0 h) : L_X8_statement_193 w h K := by
  unfold L_X8_statement_193
  refine J_iconst 194 rfl (D_X8_statement_1.at 39 rfl) ?_
  exact J_zret rfl (Or.inl rfl) (D_X8_statement_1.at 40 rfl) T
theorem l_X8_statement_253 {w : Wd} {h : Hp} {K : Int → Hp → Prop} (T : K 0 h) : L_X8_statement_253 w h K := by
  unfold L_X8_statement_253
  refine J_iconst 254 rfl (D_X8_statement_2.at 18 rfl) ?_
  exact J_zret rfl (Or.inl rfl) (D_X8_statement_2.at 19 rfl) T
theorem l_X8_statement_313 {w : Wd} {h : Hp} {K : Int → Hp → Prop} (T : K 0 h) : L_X8_statement_313 w h K := by
  unfold L_X8_statement_313
  refine J_iconst 314 rfl (D_X8_statement_2.at 45 rfl) ?_
  exact J_zret rfl (Or.inl rfl) (D_X8_statement_2.at 46 rfl) T
theorem l_X8_statement_419 {w : Wd} {h : Hp} {K : Int → Hp → Prop} (T : (inR (h 1 4)) ∧ ((((h 1 4) ≠ 0) → (K 0 h)) ∧ (¬ ((h 1 4) ≠ 0) → (K 1 h)))) : L_X8_statement_419 w h K := by
  unfold L_X8_statement_419
  refine J_aload_n 420 rfl 0 0 rfl ⟨by decide, by decide⟩ (D_X8_statement_3.at 45 rfl) ?_
  refine J_getF (ov := 1) (dd := 941) 423 rfl fl_8_9 rfl (by decide) rfl ob_60 (Ob.lt ob_60) (D_X8_statement_3.at 46 rfl) ?_
  refine J_getI (z := (h 1 4)) 426 rfl fl_8_75 rfl ob_1 (Ob.lt ob_1) (D_X8_statement_3.at 47 rfl) rfl ?_
  obtain ⟨s180, T⟩ := T
  refine J_if_ne 429 rfl 433 s180 (D_X8_statement_4.at 0 rfl) (by decide) (fun c181 => ?_) (fun c181 => ?_)
  · replace T := T.1 c181
    refine J_iconst 434 rfl (D_X8_statement_4.at 3 rfl) ?_
    exact J_zret rfl (Or.inl rfl) (D_X8_statement_4.at 4 rfl) T
  replace T := T.2 c181
  refine J_iconst 430 rfl (D_X8_statement_4.at 1 rfl) ?_
  refine J_goto 434 (D_X8_statement_4.at 2 rfl) (by decide) ?_
  exact J_zret rfl (Or.inr rfl) (D_X8_statement_4.at 4 rfl) T
theorem c_X8_read {w : Wd} {a1 : Int} (ha1 : Ob 7 a1) {h : Hp} {K : Int → Hp → Prop} (T : ∀ h1 : Hp, h1 = hu h 60 2 a1 → (Ob 7 (h1 60 2)) ∧ (C_X7_clear w (h1 60 2) h1 (fun _ h5 => L_X8_read_14 w 0 h5 K))) : C_X8_read w a1 h K := by
  refine CGm_of2 (by decide) (by decide) trivial (Nat.le_of_ble_eq_true rfl) ?_
  refine J_aload_n 1 rfl 0 0 rfl ⟨by decide, by decide⟩ (D_X8_read_0.at 0 rfl) ?_
  refine J_aload_n 2 rfl 1 1 rfl (Ob.rng ha1) (D_X8_read_0.at 1 rfl) ?_
  refine J_putR 5 rfl fl_8_19 rfl rfl (Ob.rng ha1) ob_60 (Ob.lt ob_60) (D_X8_read_0.at 2 rfl) (fun h1 e2 => ?_)
  replace T := T h1 e2
  refine J_aload_n 6 rfl 0 0 rfl ⟨by decide, by decide⟩ (D_X8_read_0.at 3 rfl) ?_
  obtain ⟨s3, T⟩ := T
  refine J_getR (z := (h1 60 2)) 9 rfl fl_8_19 rfl ob_60 (Ob.lt ob_60) (D_X8_read_0.at 4 rfl) rfl ?_
  refine J_callV (d' := 1) (sr := fun z => []) (as := []) (st := []) (o := (h1 60 2)) 12 rfl ok_X7_clear im_X7_clear se_X7_clear ml_8_23 isC_7 s3 (Ob.lt s3) rfl (by decide) ⟨Nat.le_refl _, Nat.le_refl _⟩ (Nat.le_of_ble_eq_true rfl) (D_X8_read_0.at 5 rfl) (fun _ => rfl) T (fun r4 h5 T b6 => ?_)
  refine J_iconst 13 rfl (D_X8_read_0.at 6 rfl) ?_
  refine J_istore_n (lv' := [(2, vI 0), (0, vR 60), (1, vR a1)]) 14 rfl 2 (by decide) rfl (D_X8_read_0.at 7 rfl) ?_
  exact J_sub (lv' := [(0, vR 60), (2, vI 0)]) [1, 0] rfl T
theorem l_X8_read_14 {w : Wd} {v2 : Int} {h : Hp} {K : Int → Hp → Prop} (T : (inR v2) ∧ (((v2 > 70) → ((Ob 7 (h 60 2)) ∧ ((inR (h (h 60 2) 11)) ∧ ((((h (h 60 2) 11) > 0) → (K 1 h)) ∧ (¬ ((h (h 60 2) 11) > 0) → (C_X10_failHere w h (fun r10 h11 => (r10 = 0 ∨ r10 = 1) → ((r10 = 0) → (K 0 h11)) ∧ (¬ (r10 = 0) → (K 1 h11))))))))) ∧ (¬ (v2 > 70) → (C_X10_isMore w h (fun r15 h16 => (r15 = 0 ∨ r15 = 1) → ((r15 = 0) → ((Ob 7 (h16 60 2)) ∧ ((inR (h16 (h16 60 2) 11)) ∧ ((((h16 (h16 60 2) 11) > 0) → (K 1 h16)) ∧ (¬ ((h16 (h16 60 2) 11) > 0) → (C_X10_failHere w h16 (fun r20 h21 => (r20 = 0 ∨ r20 = 1) → ((r20 = 0) → (K 0 h21)) ∧ (¬ (r20 = 0) → (K 1 h21))))))))) ∧ (¬ (r15 = 0) → ((inR v2) ∧ (((v2 ≠ 70) → ((inR v2) ∧ (((v2 ≠ 0) → (C_X8_statement w h16 (fun r27 h28 => (r27 = 0 ∨ r27 = 1) → ((r27 = 0) → (K 0 h28)) ∧ (¬ (r27 = 0) → (C_X10_needSign w 59 h28 (fun r30 h31 => (r30 = 0 ∨ r30 = 1) → ((r30 ≠ 0) → ((Ob 7 (h31 60 2)) ∧ (∀ h34 : Hp, h34 = hu h31 (h31 60 2) 11 ((h31 (h31 60 2) 11) + 1) → L_X8_read_14 w (v2 + 1) h34 K))) ∧ (¬ (r30 ≠ 0) → (K 0 h31)))))))) ∧ (¬ (v2 ≠ 0) → (C_X8_reaches w h16 (fun r38 h39 => (r38 = 0 ∨ r38 = 1) → ((r38 = 0) → (K 0 h39)) ∧ (¬ (r38 = 0) → (C_X10_needSign w 59 h39 (fun r41 h42 => (r41 = 0 ∨ r41 = 1) → ((r41 ≠ 0) → ((Ob 7 (h42 60 2)) ∧ (∀ h45 : Hp, h45 = hu h42 (h42 60 2) 11 ((h42 (h42 60 2) 11) + 1) → L_X8_read_14 w (v2 + 1) h45 K))) ∧ (¬ (r41 ≠ 0) → (K 0 h42))))))))))) ∧ (¬ (v2 ≠ 70) → (C_X10_fail w 5 (h16 1 2) h16 (fun r50 h51 => (r50 = 0 ∨ r50 = 1) → K r50 h51))))))))))) : L_X8_read_14 w v2 h K := by
  unfold L_X8_read_14
  refine J_iload_n 15 rfl 2 1 rfl (D_X8_read_0.at 8 rfl) ?_
  refine J_bipush 17 rfl ⟨by decide, by decide⟩ (D_X8_read_0.at 9 rfl) ?_
  obtain ⟨s7, T⟩ := T
  refine J_icmp_gt 20 rfl 106 s7 ⟨by decide, by decide⟩ (D_X8_read_0.at 10 rfl) (by decide) (fun c55 => ?_) (fun c55 => ?_)
  · replace T := T.1 c55
    refine J_aload_n 107 rfl 0 0 rfl ⟨by decide, by decide⟩ (D_X8_read_1.at 3 rfl) ?_
    obtain ⟨s8, T⟩ := T
    refine J_getR (z := (h 60 2)) 110 rfl fl_8_19 rfl ob_60 (Ob.lt ob_60) (D_X8_read_1.at 4 rfl) rfl ?_
    refine J_getI (z := (h (h 60 2) 11)) 113 rfl fl_8_52 rfl s8 (Ob.lt s8) (D_X8_read_1.at 5 rfl) rfl ?_
    obtain ⟨s9, T⟩ := T
    refine J_if_gt 116 rfl 126 s9 (D_X8_read_1.at 6 rfl) (by decide) (fun c14 => ?_) (fun c14 => ?_)
    · replace T := T.1 c14
      refine J_iconst 127 rfl (D_X8_read_1.at 11 rfl) ?_
      refine J_goto 131 (D_X8_read_1.at 12 rfl) (by decide) ?_
      exact J_zret rfl (Or.inr rfl) (D_X8_read_1.at 14 rfl) T
    replace T := T.2 c14
    refine J_aload_n 117 rfl 0 0 rfl ⟨by decide, by decide⟩ (D_X8_read_1.at 7 rfl) ?_
    refine J_getF (ov := 1) (dd := 941) 120 rfl fl_8_9 rfl (by decide) rfl ob_60 (Ob.lt ob_60) (D_X8_read_1.at 8 rfl) ?_
    refine J_callV (d' := 2) (sr := fun z => [vI z]) (as := []) (st := []) (o := 1) 123 rfl ok_X10_failHere im_X10_failHere se_X10_failHere ml_8_55 isC_10 ob_1 (Ob.lt ob_1) rfl (by decide) ⟨Nat.le_refl _, Nat.le_refl _⟩ (Nat.le_of_ble_eq_true rfl) (D_X8_read_1.at 9 rfl) (fun _ => rfl) T (fun r10 h11 T b12 => ?_)
    replace T := T b12
    refine J_if_eq 126 rfl 130 (inR_b b12) (D_X8_read_1.at 10 rfl) (by decide) (fun c13 => ?_) (fun c13 => ?_)
    · replace T := T.1 c13
      refine J_iconst 131 rfl (D_X8_read_1.at 13 rfl) ?_
      exact J_zret rfl (Or.inl rfl) (D_X8_read_1.at 14 rfl) T
    replace T := T.2 c13
    refine J_iconst 127 rfl (D_X8_read_1.at 11 rfl) ?_
    refine J_goto 131 (D_X8_read_1.at 12 rfl) (by decide) ?_
    exact J_zret rfl (Or.inr rfl) (D_X8_read_1.at 14 rfl) T
  replace T := T.2 c55
  refine J_aload_n 21 rfl 0 0 rfl ⟨by decide, by decide⟩ (D_X8_read_0.at 11 rfl) ?_
  refine J_getF (ov := 1) (dd := 941) 24 rfl fl_8_9 rfl (by decide) rfl ob_60 (Ob.lt ob_60) (D_X8_read_0.at 12 rfl) ?_
  refine J_callV (d' := 2) (sr := fun z => [vI z]) (as := []) (st := []) (o := 1) 27 rfl ok_X10_isMore im_X10_isMore se_X10_isMore ml_8_28 isC_10 ob_1 (Ob.lt ob_1) rfl (by decide) ⟨Nat.le_refl _, Nat.le_refl _⟩ (Nat.le_of_ble_eq_true rfl) (D_X8_read_0.at 13 rfl) (fun _ => rfl) T (fun r15 h16 T b17 => ?_)
  replace T := T b17
  refine J_if_eq 30 rfl 106 (inR_b b17) (D_X8_read_0.at 14 rfl) (by decide) (fun c54 => ?_) (fun c54 => ?_)
  · replace T := T.1 c54
    refine J_aload_n 107 rfl 0 0 rfl ⟨by decide, by decide⟩ (D_X8_read_1.at 3 rfl) ?_
    obtain ⟨s18, T⟩ := T
    refine J_getR (z := (h16 60 2)) 110 rfl fl_8_19 rfl ob_60 (Ob.lt ob_60) (D_X8_read_1.at 4 rfl) rfl ?_
    refine J_getI (z := (h16 (h16 60 2) 11)) 113 rfl fl_8_52 rfl s18 (Ob.lt s18) (D_X8_read_1.at 5 rfl) rfl ?_
    obtain ⟨s19, T⟩ := T
    refine J_if_gt 116 rfl 126 s19 (D_X8_read_1.at 6 rfl) (by decide) (fun c24 => ?_) (fun c24 => ?_)
    · replace T := T.1 c24
      refine J_iconst 127 rfl (D_X8_read_1.at 11 rfl) ?_
      refine J_goto 131 (D_X8_read_1.at 12 rfl) (by decide) ?_
      exact J_zret rfl (Or.inr rfl) (D_X8_read_1.at 14 rfl) T
    replace T := T.2 c24
    refine J_aload_n 117 rfl 0 0 rfl ⟨by decide, by decide⟩ (D_X8_read_1.at 7 rfl) ?_
    refine J_getF (ov := 1) (dd := 941) 120 rfl fl_8_9 rfl (by decide) rfl ob_60 (Ob.lt ob_60) (D_X8_read_1.at 8 rfl) ?_
    refine J_callV (d' := 2) (sr := fun z => [vI z]) (as := []) (st := []) (o := 1) 123 rfl ok_X10_failHere im_X10_failHere se_X10_failHere ml_8_55 isC_10 ob_1 (Ob.lt ob_1) rfl (by decide) ⟨Nat.le_refl _, Nat.le_refl _⟩ (Nat.le_of_ble_eq_true rfl) (D_X8_read_1.at 9 rfl) (fun _ => rfl) T (fun r20 h21 T b22 => ?_)
    replace T := T b22
    refine J_if_eq 126 rfl 130 (inR_b b22) (D_X8_read_1.at 10 rfl) (by decide) (fun c23 => ?_) (fun c23 => ?_)
    · replace T := T.1 c23
      refine J_iconst 131 rfl (D_X8_read_1.at 13 rfl) ?_
      exact J_zret rfl (Or.inl rfl) (D_X8_read_1.at 14 rfl) T
    replace T := T.2 c23
    refine J_iconst 127 rfl (D_X8_read_1.at 11 rfl) ?_
    refine J_goto 131 (D_X8_read_1.at 12 rfl) (by decide) ?_
    exact J_zret rfl (Or.inr rfl) (D_X8_read_1.at 14 rfl) T
  replace T := T.2 c54
  refine J_iload_n 31 rfl 2 1 rfl (D_X8_read_0.at 15 rfl) ?_
  refine J_bipush 33 rfl ⟨by decide, by decide⟩ (D_X8_read_0.at 16 rfl) ?_
  obtain ⟨s25, T⟩ := T
  refine J_icmp_ne 36 rfl 52 s25 ⟨by decide, by decide⟩ (D_X8_read_0.at 17 rfl) (by decide) (fun c53 => ?_) (fun c53 => ?_)
  · replace T := T.1 c53
    refine J_iload_n 53 rfl 2 1 rfl (D_X8_read_0.at 26 rfl) ?_
    obtain ⟨s26, T⟩ := T
    refine J_if_ne 56 rfl 66 s26 (D_X8_read_0.at 27 rfl) (by decide) (fun c49 => ?_) (fun c49 => ?_)
    · replace T := T.1 c49
      refine J_aload_n 67 rfl 0 0 rfl ⟨by decide, by decide⟩ (D_X8_read_0.at 32 rfl) ?_
      refine J_callV (d' := 62) (sr := fun z => [vI z]) (as := []) (st := []) (o := 60) 70 rfl ok_X8_statement im_X8_statement se_X8_statement ml_8_45 isC_8 ob_60 (Ob.lt ob_60) rfl (by decide) ⟨Nat.le_refl _, Nat.le_refl _⟩ (Nat.le_of_ble_eq_true rfl) (D_X8_read_0.at 33 rfl) (fun _ => rfl) T (fun r27 h28 T b29 => ?_)
      replace T := T b29
      refine J_if_eq 73 rfl 85 (inR_b b29) (D_X8_read_0.at 34 rfl) (by decide) (fun c37 => ?_) (fun c37 => ?_)
      · replace T := T.1 c37
        refine J_iconst 86 rfl (D_X8_read_0.at 40 rfl) ?_
        exact J_zret rfl (Or.inl rfl) (D_X8_read_0.at 41 rfl) T
      replace T := T.2 c37
      refine J_aload_n 74 rfl 0 0 rfl ⟨by decide, by decide⟩ (D_X8_read_0.at 35 rfl) ?_
      refine J_getF (ov := 1) (dd := 941) 77 rfl fl_8_9 rfl (by decide) rfl ob_60 (Ob.lt ob_60) (D_X8_read_0.at 36 rfl) ?_
      refine J_bipush 79 rfl ⟨by decide, by decide⟩ (D_X8_read_0.at 37 rfl) ?_
      refine J_callV (d' := 3) (sr := fun z => [vI z]) (as := [vI 59]) (st := []) (o := 1) 82 rfl ok_X10_needSign im_X10_needSign se_X10_needSign ml_8_48 isC_10 ob_1 (Ob.lt ob_1) rfl (by decide) ⟨Nat.le_refl _, Nat.le_refl _⟩ (Nat.le_of_ble_eq_true rfl) (D_X8_read_0.at 38 rfl) (fun _ => rfl) T (fun r30 h31 T b32 => ?_)
      replace T := T b32
      refine J_if_ne 85 rfl 87 (inR_b b32) (D_X8_read_0.at 39 rfl) (by decide) (fun c36 => ?_) (fun c36 => ?_)
      · replace T := T.1 c36
        refine J_aload_n 88 rfl 0 0 rfl ⟨by decide, by decide⟩ (D_X8_read_0.at 42 rfl) ?_
        obtain ⟨s33, T⟩ := T
        refine J_getR (z := (h31 60 2)) 91 rfl fl_8_19 rfl ob_60 (Ob.lt ob_60) (D_X8_read_0.at 43 rfl) rfl ?_
        refine J_dup 92 rfl rfl (D_X8_read_0.at 44 rfl) ?_
        refine J_getI (z := (h31 (h31 60 2) 11)) 95 rfl fl_8_52 rfl s33 (Ob.lt s33) (D_X8_read_0.at 45 rfl) rfl ?_
        refine J_iconst 96 rfl (D_X8_read_0.at 46 rfl) ?_
        refine J_iadd 97 rfl (D_X8_read_0.at 47 rfl) ?_
        refine J_putI 100 rfl fl_8_52 rfl rfl s33 (Ob.lt s33) (D_X8_read_1.at 0 rfl) (fun h34 e35 => ?_)
        replace T := T h34 e35
        refine J_iinc (v := (v2 + 1)) (lv' := [(2, vI (v2 + 1)), (0, vR 60)]) 103 rfl 2 1 1 rfl rfl (by decide) rfl (D_X8_read_1.at 1 rfl) ?_
        refine J_goto 14 (D_X8_read_1.at 2 rfl) (by decide) ?_
        exact J_sub (lv' := [(0, vR 60), (2, vI (v2 + 1))]) [1, 0] rfl T
      replace T := T.2 c36
      refine J_iconst 86 rfl (D_X8_read_0.at 40 rfl) ?_
      exact J_zret rfl (Or.inl rfl) (D_X8_read_0.at 41 rfl) T
    replace T := T.2 c49
    refine J_aload_n 57 rfl 0 0 rfl ⟨by decide, by decide⟩ (D_X8_read_0.at 28 rfl) ?_
    refine J_callV (d' := 9) (sr := fun z => [vI z]) (as := []) (st := []) (o := 60) 60 rfl ok_X8_reaches im_X8_reaches se_X8_reaches ml_8_42 isC_8 ob_60 (Ob.lt ob_60) rfl (by decide) ⟨Nat.le_refl _, Nat.le_refl _⟩ (Nat.le_of_ble_eq_true rfl) (D_X8_read_0.at 29 rfl) (fun _ => rfl) T (fun r38 h39 T b40 => ?_)
    replace T := T b40
    refine J_if_eq 63 rfl 85 (inR_b b40) (D_X8_read_0.at 30 rfl) (by decide) (fun c48 => ?_) (fun c48 => ?_)
    · replace T := T.1 c48
      refine J_iconst 86 rfl (D_X8_read_0.at 40 rfl) ?_
      exact J_zret rfl (Or.inl rfl) (D_X8_read_0.at 41 rfl) T
    replace T := T.2 c48
    refine J_goto 73 (D_X8_read_0.at 31 rfl) (by decide) ?_
    refine J_aload_n 74 rfl 0 0 rfl ⟨by decide, by decide⟩ (D_X8_read_0.at 35 rfl) ?_
    refine J_getF (ov := 1) (dd := 941) 77 rfl fl_8_9 rfl (by decide) rfl ob_60 (Ob.lt ob_60) (D_X8_read_0.at 36 rfl) ?_
    refine J_bipush 79 rfl ⟨by decide, by decide⟩ (D_X8_read_0.at 37 rfl) ?_
    refine J_callV (d' := 3) (sr := fun z => [vI z]) (as := [vI 59]) (st := []) (o := 1) 82 rfl ok_X10_needSign im_X10_needSign se_X10_needSign ml_8_48 isC_10 ob_1 (Ob.lt ob_1) rfl (by decide) ⟨Nat.le_refl _, Nat.le_refl _⟩ (Nat.le_of_ble_eq_true rfl) (D_X8_read_0.at 38 rfl) (fun _ => rfl) T (fun r41 h42 T b43 => ?_)
    replace T := T b43
    refine J_if_ne 85 rfl 87 (inR_b b43) (D_X8_read_0.at 39 rfl) (by decide) (fun c47 => ?_) (fun c47 => ?_)
    · replace T := T.1 c47
      refine J_aload_n 88 rfl 0 0 rfl ⟨by decide, by decide⟩ (D_X8_read_0.at 42 rfl) ?_
      obtain ⟨s44, T⟩ := T
      refine J_getR (z := (h42 60 2)) 91 rfl fl_8_19 rfl ob_60 (Ob.lt ob_60) (D_X8_read_0.at 43 rfl) rfl ?_
      refine J_dup 92 rfl rfl (D_X8_read_0.at 44 rfl) ?_
      refine J_getI (z := (h42 (h42 60 2) 11)) 95 rfl fl_8_52 rfl s44 (Ob.lt s44) (D_X8_read_0.at 45 rfl) rfl ?_
      refine J_iconst 96 rfl (D_X8_read_0.at 46 rfl) ?_
      refine J_iadd 97 rfl (D_X8_read_0.at 47 rfl) ?_
      refine J_putI 100 rfl fl_8_52 rfl rfl s44 (Ob.lt s44) (D_X8_read_1.at 0 rfl) (fun h45 e46 => ?_)
      replace T := T h45 e46
      refine J_iinc (v := (v2 + 1)) (lv' := [(2, vI (v2 + 1)), (0, vR 60)]) 103 rfl 2 1 1 rfl rfl (by decide) rfl (D_X8_read_1.at 1 rfl) ?_
      refine J_goto 14 (D_X8_read_1.at 2 rfl) (by decide) ?_
      exact J_sub (lv' := [(0, vR 60), (2, vI (v2 + 1))]) [1, 0] rfl T
    replace T := T.2 c47
    refine J_iconst 86 rfl (D_X8_read_0.at 40 rfl) ?_
    exact J_zret rfl (Or.inl rfl) (D_X8_read_0.at 41 rfl) T
  replace T := T.2 c53
  refine J_aload_n 37 rfl 0 0 rfl ⟨by decide, by decide⟩ (D_X8_read_0.at 18 rfl) ?_
  refine J_getF (ov := 1) (dd := 941) 40 rfl fl_8_9 rfl (by decide) rfl ob_60 (Ob.lt ob_60) (D_X8_read_0.at 19 rfl) ?_
  refine J_iconst 41 rfl (D_X8_read_0.at 20 rfl) ?_
  refine J_aload_n 42 rfl 0 0 rfl ⟨by decide, by decide⟩ (D_X8_read_0.at 21 rfl) ?_
  refine J_getF (ov := 1) (dd := 941) 45 rfl fl_8_9 rfl (by decide) rfl ob_60 (Ob.lt ob_60) (D_X8_read_0.at 22 rfl) ?_
  refine J_getI (z := (h16 1 2)) 48 rfl fl_8_34 rfl ob_1 (Ob.lt ob_1) (D_X8_read_0.at 23 rfl) rfl ?_
  refine J_callV (d' := 1) (sr := fun z => [vI z]) (as := [vI 5, vI (h16 1 2)]) (st := []) (o := 1) 51 rfl ok_X10_fail im_X10_fail se_X10_fail ml_8_38 isC_10 ob_1 (Ob.lt ob_1) rfl (by decide) ⟨Nat.le_refl _, Nat.le_refl _⟩ (Nat.le_of_ble_eq_true rfl) (D_X8_read_0.at 24 rfl) (fun _ => rfl) T (fun r50 h51 T b52 => ?_)
  replace T := T b52
  exact J_zret rfl b52 (D_X8_read_0.at 25 rfl) T
