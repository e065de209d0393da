/-! the class is made -/
def U_X10_init_1 : List Up := ((0, 1, 5, (-1)) :: ((0, 1, 0, 2) :: ((1, 2, 0, 0) :: [])))
theorem kc_X10_init_1 {w : Wd} {h : Hp} {K : Int → Hp → Prop} (T : K 0 (ap U_X10_init_1 h)) : CGm w false m_X10_init 1 2 3 [vR 1] h K := by
  refine CGm_of2 (by decide) (by decide) trivial (by decide) ?_
  show JG w false m_X10_init 1 3 2 0 [(0, vR 1)] [] (ap [] h) K
  refine J_aload_n 1 rfl 0 0 rfl ⟨by decide, by decide⟩ (D_X10_init_0.at 0 rfl) ?_
  refine J_objI 4 rfl ml_10_3 ⟨by decide, Ob.lt ob_1⟩ rfl (by decide) (D_X10_init_0.at 1 rfl) ?_
  refine J_aload_n 5 rfl 0 0 rfl ⟨by decide, by decide⟩ (D_X10_init_0.at 2 rfl) ?_
  refine J_sipush 8 rfl ⟨by decide, by decide⟩ (D_X10_init_0.at 3 rfl) ?_
  refine A_newarr (n2 := 3) (ov := 2) (at' := .byte) (len := 1600) (kd := 2) 10 rfl rfl rfl rfl (by decide) ac_2 rfl ar_2 (by decide) (by decide +kernel) (D_X10_init_0.at 4 rfl) ?_
  refine A_putFR (jj := 0) (dd := 1001) 13 rfl (Or.inr ⟨_, rfl⟩) fl_10_9 ⟨isC_10, rfl⟩ rfl rfl (by decide) ⟨by decide, by decide⟩ ob_1 (by decide) (D_X10_init_0.at 5 rfl) ?_
  refine J_aload_n 14 rfl 0 0 rfl ⟨by decide, by decide⟩ (D_X10_init_0.at 6 rfl) ?_
  refine J_iconst 15 rfl (D_X10_init_0.at 7 rfl) ?_
  refine A_putI (jj := 5) 18 rfl fl_10_15 rfl rfl ob_1 (by decide) (D_X10_init_0.at 8 rfl) ?_
  exact J_vret rfl (D_X10_init_0.at 9 rfl) T
def U_X1_init_3 : List Up := ((0, 3, 0, 4) :: ((1, 4, 0, 0) :: []))
theorem kc_X1_init_3 {w : Wd} {h : Hp} {K : Int → Hp → Prop} (T : K 0 (ap U_X1_init_3 h)) : CGm w false m_X1_init 1 4 5 [vR 3] h K := by
  refine CGm_of2 (by decide) (by decide) trivial (by decide) ?_
  show JG w false m_X1_init 1 5 4 0 [(0, vR 3)] [] (ap [] h) K
  refine J_aload_n 1 rfl 0 0 rfl ⟨by decide, by decide⟩ (D_X1_init_0.at 0 rfl) ?_
  refine J_objI 4 rfl ml_1_3 ⟨by decide, Ob.lt ob_3⟩ rfl (by decide) (D_X1_init_0.at 1 rfl) ?_
  refine J_aload_n 5 rfl 0 0 rfl ⟨by decide, by decide⟩ (D_X1_init_0.at 2 rfl) ?_
  refine J_sipush 8 rfl ⟨by decide, by decide⟩ (D_X1_init_0.at 3 rfl) ?_
  refine A_newarr (n2 := 5) (ov := 4) (at' := .int) (len := 1600) (kd := 0) 10 rfl rfl rfl rfl (by decide) ac_0 rfl ar_4 (by decide) (by decide +kernel) (D_X1_init_0.at 4 rfl) ?_
  refine A_putFR (jj := 0) (dd := 1001) 13 rfl (Or.inr ⟨_, rfl⟩) fl_1_9 ⟨isC_1, rfl⟩ rfl rfl (by decide) ⟨by decide, by decide⟩ ob_3 (by decide) (D_X1_init_0.at 5 rfl) ?_
  exact J_vret rfl (D_X1_init_0.at 6 rfl) T
def U_X2_init_5 : List Up := ((0, 5, 2, 3) :: ((0, 5, 1, 3) :: ((0, 5, 0, 1) :: [])))
theorem kc_X2_init_5 {w : Wd} {h : Hp} {K : Int → Hp → Prop} (T : K 0 (ap U_X2_init_5 h)) : CGm w false m_X2_init 1 6 6 [vR 5, vR 1, vR 3] h K := by
  refine CGm_of2 (by decide) (by decide) trivial (by decide) ?_
  show JG w false m_X2_init 1 6 6 0 [(0, vR 5), (1, vR 1), (2, vR 3)] [] (ap [] h) K
  refine J_aload_n 1 rfl 0 0 rfl ⟨by decide, by decide⟩ (D_X2_init_0.at 0 rfl) ?_
  refine J_objI 4 rfl ml_2_3 ⟨by decide, Ob.lt ob_5⟩ rfl (by decide) (D_X2_init_0.at 1 rfl) ?_
  refine J_aload_n 5 rfl 0 0 rfl ⟨by decide, by decide⟩ (D_X2_init_0.at 2 rfl) ?_
  refine J_aload_n 6 rfl 1 1 rfl ⟨by decide, by decide⟩ (D_X2_init_0.at 3 rfl) ?_
  refine A_putFR (jj := 0) (dd := 996) 9 rfl (Or.inl ⟨_, rfl⟩) fl_2_9 ⟨isC_2, rfl⟩ rfl rfl (by decide) ⟨by decide, by decide⟩ ob_5 (by decide) (D_X2_init_0.at 4 rfl) ?_
  refine J_aload_n 10 rfl 0 0 rfl ⟨by decide, by decide⟩ (D_X2_init_0.at 5 rfl) ?_
  refine J_aload_n 11 rfl 2 2 rfl ⟨by decide, by decide⟩ (D_X2_init_0.at 6 rfl) ?_
  refine A_putFR (jj := 1) (dd := 998) 14 rfl (Or.inl ⟨_, rfl⟩) fl_2_15 ⟨isC_2, rfl⟩ rfl rfl (by decide) ⟨by decide, by decide⟩ ob_5 (by decide) (D_X2_init_0.at 7 rfl) ?_
  refine J_aload_n 15 rfl 0 0 rfl ⟨by decide, by decide⟩ (D_X2_init_0.at 8 rfl) ?_
  refine J_aload_n 16 rfl 2 2 rfl ⟨by decide, by decide⟩ (D_X2_init_0.at 9 rfl) ?_
  refine A_putR (jj := 2) 19 rfl fl_2_19 rfl rfl ⟨by decide, by decide⟩ ob_5 (by decide) (D_X2_init_0.at 10 rfl) ?_
  exact J_vret rfl (D_X2_init_0.at 11 rfl) T
def U_X4_init_7 : List Up := ((0, 7, 0, 8) :: ((1, 8, 0, 0) :: []))
theorem kc_X4_init_7 {w : Wd} {h : Hp} {K : Int → Hp → Prop} (T : K 0 (ap U_X4_init_7 h)) : CGm w false m_X4_init 1 8 9 [vR 7, vI 5] h K := by
  refine CGm_of2 (by decide) (by decide) trivial (by decide) ?_
  show JG w false m_X4_init 1 9 8 0 [(0, vR 7), (1, vI 5)] [] (ap [] h) K
  refine J_aload_n 1 rfl 0 0 rfl ⟨by decide, by decide⟩ (D_X4_init_0.at 0 rfl) ?_
  refine J_objI 4 rfl ml_4_3 ⟨by decide, Ob.lt ob_7⟩ rfl (by decide) (D_X4_init_0.at 1 rfl) ?_
  refine J_aload_n 5 rfl 0 0 rfl ⟨by decide, by decide⟩ (D_X4_init_0.at 2 rfl) ?_
  refine J_iconst 6 rfl (D_X4_init_0.at 3 rfl) ?_
  refine J_iload_n 7 rfl 1 1 rfl (D_X4_init_0.at 4 rfl) ?_
  refine A_mmax (v := 5) 10 rfl (by decide) ml_4_9 ⟨by decide, by decide⟩ ⟨by decide, by decide⟩ (by decide) (by decide) (D_X4_init_0.at 5 rfl) ?_
  refine A_newarr (n2 := 9) (ov := 8) (at' := .int) (len := 5) (kd := 0) 12 rfl rfl rfl rfl (by decide) ac_0 rfl ar_8 (by decide) (by decide +kernel) (D_X4_init_0.at 6 rfl) ?_
  refine A_putFR (jj := 0) (dd := 1001) 15 rfl (Or.inr ⟨_, rfl⟩) fl_4_15 ⟨isC_4, rfl⟩ rfl rfl (by decide) ⟨by decide, by decide⟩ ob_7 (by decide) (D_X4_init_0.at 7 rfl) ?_
  exact J_vret rfl (D_X4_init_0.at 8 rfl) T
def U_X4_init_9 : List Up := ((0, 9, 0, 10) :: ((1, 10, 0, 0) :: []))
theorem kc_X4_init_9 {w : Wd} {h : Hp} {K : Int → Hp → Prop} (T : K 0 (ap U_X4_init_9 h)) : CGm w false m_X4_init 1 10 11 [vR 9, vI 5] h K := by
  refine CGm_of2 (by decide) (by decide) trivial (by decide) ?_
  show JG w false m_X4_init 1 11 10 0 [(0, vR 9), (1, vI 5)] [] (ap [] h) K
  refine J_aload_n 1 rfl 0 0 rfl ⟨by decide, by decide⟩ (D_X4_init_0.at 0 rfl) ?_
  refine J_objI 4 rfl ml_4_3 ⟨by decide, Ob.lt ob_9⟩ rfl (by decide) (D_X4_init_0.at 1 rfl) ?_
  refine J_aload_n 5 rfl 0 0 rfl ⟨by decide, by decide⟩ (D_X4_init_0.at 2 rfl) ?_
  refine J_iconst 6 rfl (D_X4_init_0.at 3 rfl) ?_
  refine J_iload_n 7 rfl 1 1 rfl (D_X4_init_0.at 4 rfl) ?_
  refine A_mmax (v := 5) 10 rfl (by decide) ml_4_9 ⟨by decide, by decide⟩ ⟨by decide, by decide⟩ (by decide) (by decide) (D_X4_init_0.at 5 rfl) ?_
  refine A_newarr (n2 := 11) (ov := 10) (at' := .int) (len := 5) (kd := 0) 12 rfl rfl rfl rfl (by decide) ac_0 rfl ar_10 (by decide) (by decide +kernel) (D_X4_init_0.at 6 rfl) ?_
  refine A_putFR (jj := 0) (dd := 1001) 15 rfl (Or.inr ⟨_, rfl⟩) fl_4_15 ⟨isC_4, rfl⟩ rfl rfl (by decide) ⟨by decide, by decide⟩ ob_9 (by decide) (D_X4_init_0.at 7 rfl) ?_
  exact J_vret rfl (D_X4_init_0.at 8 rfl) T
def U_X4_init_11 : List Up := ((0, 11, 0, 12) :: ((1, 12, 0, 0) :: []))
theorem kc_X4_init_11 {w : Wd} {h : Hp} {K : Int → Hp → Prop} (T : K 0 (ap U_X4_init_11 h)) : CGm w false m_X4_init 1 12 13 [vR 11, vI 10] h K := by
  refine CGm_of2 (by decide) (by decide) trivial (by decide) ?_
  show JG w false m_X4_init 1 13 12 0 [(0, vR 11), (1, vI 10)] [] (ap [] h) K
  refine J_aload_n 1 rfl 0 0 rfl ⟨by decide, by decide⟩ (D_X4_init_0.at 0 rfl) ?_
  refine J_objI 4 rfl ml_4_3 ⟨by decide, Ob.lt ob_11⟩ rfl (by decide) (D_X4_init_0.at 1 rfl) ?_
  refine J_aload_n 5 rfl 0 0 rfl ⟨by decide, by decide⟩ (D_X4_init_0.at 2 rfl) ?_
  refine J_iconst 6 rfl (D_X4_init_0.at 3 rfl) ?_
  refine J_iload_n 7 rfl 1 1 rfl (D_X4_init_0.at 4 rfl) ?_
  refine A_mmax (v := 10) 10 rfl (by decide) ml_4_9 ⟨by decide, by decide⟩ ⟨by decide, by decide⟩ (by decide) (by decide) (D_X4_init_0.at 5 rfl) ?_
  refine A_newarr (n2 := 13) (ov := 12) (at' := .int) (len := 10) (kd := 0) 12 rfl rfl rfl rfl (by decide) ac_0 rfl ar_12 (by decide) (by decide +kernel) (D_X4_init_0.at 6 rfl) ?_
  refine A_putFR (jj := 0) (dd := 1001) 15 rfl (Or.inr ⟨_, rfl⟩) fl_4_15 ⟨isC_4, rfl⟩ rfl rfl (by decide) ⟨by decide, by decide⟩ ob_11 (by decide) (D_X4_init_0.at 7 rfl) ?_
  exact J_vret rfl (D_X4_init_0.at 8 rfl) T
def U_X1_init_19 : List Up := ((0, 19, 0, 20) :: ((1, 20, 0, 0) :: []))
theorem kc_X1_init_19 {w : Wd} {h : Hp} {K : Int → Hp → Prop} (T : K 0 (ap U_X1_init_19 h)) : CGm w false m_X1_init 1 20 21 [vR 19] h K := by
  refine CGm_of2 (by decide) (by decide) trivial (by decide) ?_
  show JG w false m_X1_init 1 21 20 0 [(0, vR 19)] [] (ap [] h) K
  refine J_aload_n 1 rfl 0 0 rfl ⟨by decide, by decide⟩ (D_X1_init_0.at 0 rfl) ?_
  refine J_objI 4 rfl ml_1_3 ⟨by decide, Ob.lt ob_19⟩ rfl (by decide) (D_X1_init_0.at 1 rfl) ?_
  refine J_aload_n 5 rfl 0 0 rfl ⟨by decide, by decide⟩ (D_X1_init_0.at 2 rfl) ?_
  refine J_sipush 8 rfl ⟨by decide, by decide⟩ (D_X1_init_0.at 3 rfl) ?_
  refine A_newarr (n2 := 21) (ov := 20) (at' := .int) (len := 1600) (kd := 0) 10 rfl rfl rfl rfl (by decide) ac_0 rfl ar_20 (by decide) (by decide +kernel) (D_X1_init_0.at 4 rfl) ?_
  refine A_putFR (jj := 0) (dd := 1001) 13 rfl (Or.inr ⟨_, rfl⟩) fl_1_9 ⟨isC_1, rfl⟩ rfl rfl (by decide) ⟨by decide, by decide⟩ ob_19 (by decide) (D_X1_init_0.at 5 rfl) ?_
  exact J_vret rfl (D_X1_init_0.at 6 rfl) T
def U_X1_init_21 : List Up := ((0, 21, 0, 22) :: ((1, 22, 0, 0) :: []))
theorem kc_X1_init_21 {w : Wd} {h : Hp} {K : Int → Hp → Prop} (T : K 0 (ap U_X1_init_21 h)) : CGm w false m_X1_init 1 22 23 [vR 21] h K := by
  refine CGm_of2 (by decide) (by decide) trivial (by decide) ?_
  show JG w false m_X1_init 1 23 22 0 [(0, vR 21)] [] (ap [] h) K
  refine J_aload_n 1 rfl 0 0 rfl ⟨by decide, by decide⟩ (D_X1_init_0.at 0 rfl) ?_
  refine J_objI 4 rfl ml_1_3 ⟨by decide, Ob.lt ob_21⟩ rfl (by decide) (D_X1_init_0.at 1 rfl) ?_
  refine J_aload_n 5 rfl 0 0 rfl ⟨by decide, by decide⟩ (D_X1_init_0.at 2 rfl) ?_
  refine J_sipush 8 rfl ⟨by decide, by decide⟩ (D_X1_init_0.at 3 rfl) ?_
  refine A_newarr (n2 := 23) (ov := 22) (at' := .int) (len := 1600) (kd := 0) 10 rfl rfl rfl rfl (by decide) ac_0 rfl ar_22 (by decide) (by decide +kernel) (D_X1_init_0.at 4 rfl) ?_
  refine A_putFR (jj := 0) (dd := 1001) 13 rfl (Or.inr ⟨_, rfl⟩) fl_1_9 ⟨isC_1, rfl⟩ rfl rfl (by decide) ⟨by decide, by decide⟩ ob_21 (by decide) (D_X1_init_0.at 5 rfl) ?_
  exact J_vret rfl (D_X1_init_0.at 6 rfl) T
def U_X7_clear_6 : List Up := ((0, 6, 15, 0) :: ((0, 6, 14, 20) :: ((0, 6, 13, 10) :: ((0, 6, 12, 0) :: ((0, 6, 11, 0) :: ((0, 21, 1, 0) :: ((0, 19, 1, 0) :: ((0, 17, 9, 0) :: ((0, 17, 8, 0) :: ((0, 17, 7, 0) :: ((0, 17, 6, 0) :: ((0, 17, 5, 0) :: ((0, 17, 4, 0) :: ((0, 17, 3, 0) :: ((0, 17, 2, 0) :: ((0, 17, 1, 0) :: ((0, 17, 0, 0) :: ((0, 13, 7, 0) :: ((0, 13, 6, 0) :: ((0, 13, 5, 0) :: ((0, 13, 4, 0) :: ((0, 13, 3, 0) :: ((0, 13, 2, 0) :: ((0, 13, 1, 0) :: ((0, 13, 0, 0) :: ((0, 11, 1, 0) :: ((0, 9, 1, 0) :: ((0, 7, 1, 0) :: []))))))))))))))))))))))))))))
theorem kc_X7_clear_6 {w : Wd} {h : Hp} {K : Int → Hp → Prop} (e0 : h 6 0 = 7) (e1 : h 6 1 = 9) (e2 : h 6 2 = 11) (e3 : h 6 3 = 13) (e7 : h 6 7 = 17) (e9 : h 6 9 = 19) (e10 : h 6 10 = 21) (T : K 0 (ap U_X7_clear_6 h)) : CGm w false m_X7_clear 1 23 23 [vR 6] h K := by
  refine CGm_of2 (by decide) (by decide) trivial (by decide) ?_
  show JG w false m_X7_clear 1 23 23 0 [(0, vR 6)] [] (ap [] h) K
  refine J_aload_n 1 rfl 0 0 rfl ⟨by decide, by decide⟩ (D_X7_clear_0.at 0 rfl) ?_
  refine J_getFc (dd := 1001) (z := 7) 4 rfl fl_7_14 rfl (by decide) ob_6 (by decide) (D_X7_clear_0.at 1 rfl) (ap_none (by decide +kernel) e0) ?_
  refine J_iconst 5 rfl (D_X7_clear_0.at 2 rfl) ?_
  refine A_putI (jj := 1) 8 rfl fl_7_58 rfl rfl ob_7 (by decide) (D_X7_clear_0.at 3 rfl) ?_
  refine J_aload_n 9 rfl 0 0 rfl ⟨by decide, by decide⟩ (D_X7_clear_0.at 4 rfl) ?_
  refine J_getFc (dd := 1003) (z := 9) 12 rfl fl_7_20 rfl (by decide) ob_6 (by decide) (D_X7_clear_0.at 5 rfl) (ap_none (by decide +kernel) e1) ?_
  refine J_iconst 13 rfl (D_X7_clear_0.at 6 rfl) ?_
  refine A_putI (jj := 1) 16 rfl fl_7_58 rfl rfl ob_9 (by decide) (D_X7_clear_0.at 7 rfl) ?_
  refine J_aload_n 17 rfl 0 0 rfl ⟨by decide, by decide⟩ (D_X7_clear_0.at 8 rfl) ?_
  refine J_getFc (dd := 1005) (z := 11) 20 rfl fl_7_23 rfl (by decide) ob_6 (by decide) (D_X7_clear_0.at 9 rfl) (ap_none (by decide +kernel) e2) ?_
  refine J_iconst 21 rfl (D_X7_clear_0.at 10 rfl) ?_
  refine A_putI (jj := 1) 24 rfl fl_7_58 rfl rfl ob_11 (by decide) (D_X7_clear_0.at 11 rfl) ?_
  refine J_iconst 25 rfl (D_X7_clear_0.at 12 rfl) ?_
  refine J_istore_n (lv' := [(1, vI 0), (0, vR 6)]) 26 rfl 1 (by decide) rfl (D_X7_clear_0.at 13 rfl) ?_
  refine J_iload_n 27 rfl 1 0 rfl (D_X7_clear_0.at 14 rfl) ?_
  refine J_aload_n 28 rfl 0 1 rfl ⟨by decide, by decide⟩ (D_X7_clear_0.at 15 rfl) ?_
  refine J_getFc (dd := 1007) (z := 13) 31 rfl fl_7_26 rfl (by decide) ob_6 (by decide) (D_X7_clear_0.at 16 rfl) (ap_none (by decide +kernel) e3) ?_
  refine J_alenE (v := 8) 32 rfl rfl (by decide) ar_13 (by decide) (D_X7_clear_0.at 17 rfl) ?_
  refine J_icmp_ge 35 rfl 48 ⟨by decide, by decide⟩ ⟨by decide, by decide⟩ (D_X7_clear_0.at 18 rfl) (by decide) (fun c => absurd c (by decide)) (fun _ => ?_)
  refine J_aload_n 36 rfl 0 1 rfl ⟨by decide, by decide⟩ (D_X7_clear_0.at 19 rfl) ?_
  refine J_getFc (dd := 1007) (z := 13) 39 rfl fl_7_26 rfl (by decide) ob_6 (by decide) (D_X7_clear_0.at 20 rfl) (ap_none (by decide +kernel) e3) ?_
  refine J_iload_n 40 rfl 1 0 rfl (D_X7_clear_0.at 21 rfl) ?_
  refine J_iconst 41 rfl (D_X7_clear_0.at 22 rfl) ?_
  refine A_iast 42 rfl ar_13 (by decide) ⟨by decide, by decide⟩ (D_X7_clear_0.at 23 rfl) ?_
  refine J_iinc (v := 1) (lv' := [(1, vI 1), (0, vR 6)]) 45 rfl 1 0 1 rfl rfl (by decide) rfl (D_X7_clear_0.at 24 rfl) ?_
  refine J_goto 26 (D_X7_clear_0.at 25 rfl) (by decide) ?_
  refine J_iload_n 27 rfl 1 0 rfl (D_X7_clear_0.at 14 rfl) ?_
  refine J_aload_n 28 rfl 0 1 rfl ⟨by decide, by decide⟩ (D_X7_clear_0.at 15 rfl) ?_
  refine J_getFc (dd := 1007) (z := 13) 31 rfl fl_7_26 rfl (by decide) ob_6 (by decide) (D_X7_clear_0.at 16 rfl) (ap_none (by decide +kernel) e3) ?_
  refine J_alenE (v := 8) 32 rfl rfl (by decide) ar_13 (by decide) (D_X7_clear_0.at 17 rfl) ?_
  refine J_icmp_ge 35 rfl 48 ⟨by decide, by decide⟩ ⟨by decide, by decide⟩ (D_X7_clear_0.at 18 rfl) (by decide) (fun c => absurd c (by decide)) (fun _ => ?_)
  refine J_aload_n 36 rfl 0 1 rfl ⟨by decide, by decide⟩ (D_X7_clear_0.at 19 rfl) ?_
  refine J_getFc (dd := 1007) (z := 13) 39 rfl fl_7_26 rfl (by decide) ob_6 (by decide) (D_X7_clear_0.at 20 rfl) (ap_none (by decide +kernel) e3) ?_
  refine J_iload_n 40 rfl 1 0 rfl (D_X7_clear_0.at 21 rfl) ?_
  refine J_iconst 41 rfl (D_X7_clear_0.at 22 rfl) ?_
  refine A_iast 42 rfl ar_13 (by decide) ⟨by decide, by decide⟩ (D_X7_clear_0.at 23 rfl) ?_
  refine J_iinc (v := 2) (lv' := [(1, vI 2), (0, vR 6)]) 45 rfl 1 0 1 rfl rfl (by decide) rfl (D_X7_clear_0.at 24 rfl) ?_
  refine J_goto 26 (D_X7_clear_0.at 25 rfl) (by decide) ?_
  refine J_iload_n 27 rfl 1 0 rfl (D_X7_clear_0.at 14 rfl) ?_
  refine J_aload_n 28 rfl 0 1 rfl ⟨by decide, by decide⟩ (D_X7_clear_0.at 15 rfl) ?_
  refine J_getFc (dd := 1007) (z := 13) 31 rfl fl_7_26 rfl (by decide) ob_6 (by decide) (D_X7_clear_0.at 16 rfl) (ap_none (by decide +kernel) e3) ?_
  refine J_alenE (v := 8) 32 rfl rfl (by decide) ar_13 (by decide) (D_X7_clear_0.at 17 rfl) ?_
  refine J_icmp_ge 35 rfl 48 ⟨by decide, by decide⟩ ⟨by decide, by decide⟩ (D_X7_clear_0.at 18 rfl) (by decide) (fun c => absurd c (by decide)) (fun _ => ?_)
  refine J_aload_n 36 rfl 0 1 rfl ⟨by decide, by decide⟩ (D_X7_clear_0.at 19 rfl) ?_
  refine J_getFc (dd := 1007) (z := 13) 39 rfl fl_7_26 rfl (by decide) ob_6 (by decide) (D_X7_clear_0.at 20 rfl) (ap_none (by decide +kernel) e3) ?_
  refine J_iload_n 40 rfl 1 0 rfl (D_X7_clear_0.at 21 rfl) ?_
  refine J_iconst 41 rfl (D_X7_clear_0.at 22 rfl) ?_
  refine A_iast 42 rfl ar_13 (by decide) ⟨by decide, by decide⟩ (D_X7_clear_0.at 23 rfl) ?_
  refine J_iinc (v := 3) (lv' := [(1, vI 3), (0, vR 6)]) 45 rfl 1 0 1 rfl rfl (by decide) rfl (D_X7_clear_0.at 24 rfl) ?_
  refine J_goto 26 (D_X7_clear_0.at 25 rfl) (by decide) ?_
  refine J_iload_n 27 rfl 1 0 rfl (D_X7_clear_0.at 14 rfl) ?_
  refine J_aload_n 28 rfl 0 1 rfl ⟨by decide, by decide⟩ (D_X7_clear_0.at 15 rfl) ?_
  refine J_getFc (dd := 1007) (z := 13) 31 rfl fl_7_26 rfl (by decide) ob_6 (by decide) (D_X7_clear_0.at 16 rfl) (ap_none (by decide +kernel) e3) ?_
  refine J_alenE (v := 8) 32 rfl rfl (by decide) ar_13 (by decide) (D_X7_clear_0.at 17 rfl) ?_
  refine J_icmp_ge 35 rfl 48 ⟨by decide, by decide⟩ ⟨by decide, by decide⟩ (D_X7_clear_0.at 18 rfl) (by decide) (fun c => absurd c (by decide)) (fun _ => ?_)
  refine J_aload_n 36 rfl 0 1 rfl ⟨by decide, by decide⟩ (D_X7_clear_0.at 19 rfl) ?_
  refine J_getFc (dd := 1007) (z := 13) 39 rfl fl_7_26 rfl (by decide) ob_6 (by decide) (D_X7_clear_0.at 20 rfl) (ap_none (by decide +kernel) e3) ?_
  refine J_iload_n 40 rfl 1 0 rfl (D_X7_clear_0.at 21 rfl) ?_
  refine J_iconst 41 rfl (D_X7_clear_0.at 22 rfl) ?_
  refine A_iast 42 rfl ar_13 (by decide) ⟨by decide, by decide⟩ (D_X7_clear_0.at 23 rfl) ?_
  refine J_iinc (v := 4) (lv' := [(1, vI 4), (0, vR 6)]) 45 rfl 1 0 1 rfl rfl (by decide) rfl (D_X7_clear_0.at 24 rfl) ?_
  refine J_goto 26 (D_X7_clear_0.at 25 rfl) (by decide) ?_
  refine J_iload_n 27 rfl 1 0 rfl (D_X7_clear_0.at 14 rfl) ?_
  refine J_aload_n 28 rfl 0 1 rfl ⟨by decide, by decide⟩ (D_X7_clear_0.at 15 rfl) ?_
  refine J_getFc (dd := 1007) (z := 13) 31 rfl fl_7_26 rfl (by decide) ob_6 (by decide) (D_X7_clear_0.at 16 rfl) (ap_none (by decide +kernel) e3) ?_
  refine J_alenE (v := 8) 32 rfl rfl (by decide) ar_13 (by decide) (D_X7_clear_0.at 17 rfl) ?_
  refine J_icmp_ge 35 rfl 48 ⟨by decide, by decide⟩ ⟨by decide, by decide⟩ (D_X7_clear_0.at 18 rfl) (by decide) (fun c => absurd c (by decide)) (fun _ => ?_)
  refine J_aload_n 36 rfl 0 1 rfl ⟨by decide, by decide⟩ (D_X7_clear_0.at 19 rfl) ?_
  refine J_getFc (dd := 1007) (z := 13) 39 rfl fl_7_26 rfl (by decide) ob_6 (by decide) (D_X7_clear_0.at 20 rfl) (ap_none (by decide +kernel) e3) ?_
  refine J_iload_n 40 rfl 1 0 rfl (D_X7_clear_0.at 21 rfl) ?_
  refine J_iconst 41 rfl (D_X7_clear_0.at 22 rfl) ?_
  refine A_iast 42 rfl ar_13 (by decide) ⟨by decide, by decide⟩ (D_X7_clear_0.at 23 rfl) ?_
  refine J_iinc (v := 5) (lv' := [(1, vI 5), (0, vR 6)]) 45 rfl 1 0 1 rfl rfl (by decide) rfl (D_X7_clear_0.at 24 rfl) ?_
  refine J_goto 26 (D_X7_clear_0.at 25 rfl) (by decide) ?_
  refine J_iload_n 27 rfl 1 0 rfl (D_X7_clear_0.at 14 rfl) ?_
  refine J_aload_n 28 rfl 0 1 rfl ⟨by decide, by decide⟩ (D_X7_clear_0.at 15 rfl) ?_
  refine J_getFc (dd := 1007) (z := 13) 31 rfl fl_7_26 rfl (by decide) ob_6 (by decide) (D_X7_clear_0.at 16 rfl) (ap_none (by decide +kernel) e3) ?_
  refine J_alenE (v := 8) 32 rfl rfl (by decide) ar_13 (by decide) (D_X7_clear_0.at 17 rfl) ?_
  refine J_icmp_ge 35 rfl 48 ⟨by decide, by decide⟩ ⟨by decide, by decide⟩ (D_X7_clear_0.at 18 rfl) (by decide) (fun c => absurd c (by decide)) (fun _ => ?_)
  refine J_aload_n 36 rfl 0 1 rfl ⟨by decide, by decide⟩ (D_X7_clear_0.at 19 rfl) ?_
  refine J_getFc (dd := 1007) (z := 13) 39 rfl fl_7_26 rfl (by decide) ob_6 (by decide) (D_X7_clear_0.at 20 rfl) (ap_none (by decide +kernel) e3) ?_
  refine J_iload_n 40 rfl 1 0 rfl (D_X7_clear_0.at 21 rfl) ?_
  refine J_iconst 41 rfl (D_X7_clear_0.at 22 rfl) ?_
  refine A_iast 42 rfl ar_13 (by decide) ⟨by decide, by decide⟩ (D_X7_clear_0.at 23 rfl) ?_
  refine J_iinc (v := 6) (lv' := [(1, vI 6), (0, vR 6)]) 45 rfl 1 0 1 rfl rfl (by decide) rfl (D_X7_clear_0.at 24 rfl) ?_
  refine J_goto 26 (D_X7_clear_0.at 25 rfl) (by decide) ?_
  refine J_iload_n 27 rfl 1 0 rfl (D_X7_clear_0.at 14 rfl) ?_
  refine J_aload_n 28 rfl 0 1 rfl ⟨by decide, by decide⟩ (D_X7_clear_0.at 15 rfl) ?_
  refine J_getFc (dd := 1007) (z := 13) 31 rfl fl_7_26 rfl (by decide) ob_6 (by decide) (D_X7_clear_0.at 16 rfl) (ap_none (by decide +kernel) e3) ?_
  refine J_alenE (v := 8) 32 rfl rfl (by decide) ar_13 (by decide) (D_X7_clear_0.at 17 rfl) ?_
  refine J_icmp_ge 35 rfl 48 ⟨by decide, by decide⟩ ⟨by decide, by decide⟩ (D_X7_clear_0.at 18 rfl) (by decide) (fun c => absurd c (by decide)) (fun _ => ?_)
  refine J_aload_n 36 rfl 0 1 rfl ⟨by decide, by decide⟩ (D_X7_clear_0.at 19 rfl) ?_
  refine J_getFc (dd := 1007) (z := 13) 39 rfl fl_7_26 rfl (by decide) ob_6 (by decide) (D_X7_clear_0.at 20 rfl) (ap_none (by decide +kernel) e3) ?_
  refine J_iload_n 40 rfl 1 0 rfl (D_X7_clear_0.at 21 rfl) ?_
  refine J_iconst 41 rfl (D_X7_clear_0.at 22 rfl) ?_
  refine A_iast 42 rfl ar_13 (by decide) ⟨by decide, by decide⟩ (D_X7_clear_0.at 23 rfl) ?_
  refine J_iinc (v := 7) (lv' := [(1, vI 7), (0, vR 6)]) 45 rfl 1 0 1 rfl rfl (by decide) rfl (D_X7_clear_0.at 24 rfl) ?_
  refine J_goto 26 (D_X7_clear_0.at 25 rfl) (by decide) ?_
  refine J_iload_n 27 rfl 1 0 rfl (D_X7_clear_0.at 14 rfl) ?_
  refine J_aload_n 28 rfl 0 1 rfl ⟨by decide, by decide⟩ (D_X7_clear_0.at 15 rfl) ?_
  refine J_getFc (dd := 1007) (z := 13) 31 rfl fl_7_26 rfl (by decide) ob_6 (by decide) (D_X7_clear_0.at 16 rfl) (ap_none (by decide +kernel) e3) ?_
  refine J_alenE (v := 8) 32 rfl rfl (by decide) ar_13 (by decide) (D_X7_clear_0.at 17 rfl) ?_
  refine J_icmp_ge 35 rfl 48 ⟨by decide, by decide⟩ ⟨by decide, by decide⟩ (D_X7_clear_0.at 18 rfl) (by decide) (fun c => absurd c (by decide)) (fun _ => ?_)
  refine J_aload_n 36 rfl 0 1 rfl ⟨by decide, by decide⟩ (D_X7_clear_0.at 19 rfl) ?_
  refine J_getFc (dd := 1007) (z := 13) 39 rfl fl_7_26 rfl (by decide) ob_6 (by decide) (D_X7_clear_0.at 20 rfl) (ap_none (by decide +kernel) e3) ?_
  refine J_iload_n 40 rfl 1 0 rfl (D_X7_clear_0.at 21 rfl) ?_
  refine J_iconst 41 rfl (D_X7_clear_0.at 22 rfl) ?_
  refine A_iast 42 rfl ar_13 (by decide) ⟨by decide, by decide⟩ (D_X7_clear_0.at 23 rfl) ?_
  refine J_iinc (v := 8) (lv' := [(1, vI 8), (0, vR 6)]) 45 rfl 1 0 1 rfl rfl (by decide) rfl (D_X7_clear_0.at 24 rfl) ?_
  refine J_goto 26 (D_X7_clear_0.at 25 rfl) (by decide) ?_
  refine J_iload_n 27 rfl 1 0 rfl (D_X7_clear_0.at 14 rfl) ?_
  refine J_aload_n 28 rfl 0 1 rfl ⟨by decide, by decide⟩ (D_X7_clear_0.at 15 rfl) ?_
  refine J_getFc (dd := 1007) (z := 13) 31 rfl fl_7_26 rfl (by decide) ob_6 (by decide) (D_X7_clear_0.at 16 rfl) (ap_none (by decide +kernel) e3) ?_
  refine J_alenE (v := 8) 32 rfl rfl (by decide) ar_13 (by decide) (D_X7_clear_0.at 17 rfl) ?_
  refine J_icmp_ge 35 rfl 48 ⟨by decide, by decide⟩ ⟨by decide, by decide⟩ (D_X7_clear_0.at 18 rfl) (by decide) (fun _ => ?_) (fun c => absurd (by decide) c)
  refine J_iconst 49 rfl (D_X7_clear_0.at 26 rfl) ?_
  refine J_istore_n (lv' := [(1, vI 0), (0, vR 6)]) 50 rfl 1 (by decide) rfl (D_X7_clear_0.at 27 rfl) ?_
  refine J_iload_n 51 rfl 1 0 rfl (D_X7_clear_0.at 28 rfl) ?_
  refine J_aload_n 52 rfl 0 1 rfl ⟨by decide, by decide⟩ (D_X7_clear_0.at 29 rfl) ?_
  refine J_getFc (dd := 1011) (z := 17) 55 rfl fl_7_39 rfl (by decide) ob_6 (by decide) (D_X7_clear_0.at 30 rfl) (ap_none (by decide +kernel) e7) ?_
  refine J_alenE (v := 10) 56 rfl rfl (by decide) ar_17 (by decide) (D_X7_clear_0.at 31 rfl) ?_
  refine J_icmp_ge 59 rfl 72 ⟨by decide, by decide⟩ ⟨by decide, by decide⟩ (D_X7_clear_0.at 32 rfl) (by decide) (fun c => absurd c (by decide)) (fun _ => ?_)
  refine J_aload_n 60 rfl 0 1 rfl ⟨by decide, by decide⟩ (D_X7_clear_0.at 33 rfl) ?_
  refine J_getFc (dd := 1011) (z := 17) 63 rfl fl_7_39 rfl (by decide) ob_6 (by decide) (D_X7_clear_0.at 34 rfl) (ap_none (by decide +kernel) e7) ?_
  refine J_iload_n 64 rfl 1 0 rfl (D_X7_clear_0.at 35 rfl) ?_
  refine J_iconst 65 rfl (D_X7_clear_0.at 36 rfl) ?_
  refine A_iast 66 rfl ar_17 (by decide) ⟨by decide, by decide⟩ (D_X7_clear_0.at 37 rfl) ?_
  refine J_iinc (v := 1) (lv' := [(1, vI 1), (0, vR 6)]) 69 rfl 1 0 1 rfl rfl (by decide) rfl (D_X7_clear_0.at 38 rfl) ?_
  refine J_goto 50 (D_X7_clear_0.at 39 rfl) (by decide) ?_
  refine J_iload_n 51 rfl 1 0 rfl (D_X7_clear_0.at 28 rfl) ?_
  refine J_aload_n 52 rfl 0 1 rfl ⟨by decide, by decide⟩ (D_X7_clear_0.at 29 rfl) ?_
  refine J_getFc (dd := 1011) (z := 17) 55 rfl fl_7_39 rfl (by decide) ob_6 (by decide) (D_X7_clear_0.at 30 rfl) (ap_none (by decide +kernel) e7) ?_
  refine J_alenE (v := 10) 56 rfl rfl (by decide) ar_17 (by decide) (D_X7_clear_0.at 31 rfl) ?_
  refine J_icmp_ge 59 rfl 72 ⟨by decide, by decide⟩ ⟨by decide, by decide⟩ (D_X7_clear_0.at 32 rfl) (by decide) (fun c => absurd c (by decide)) (fun _ => ?_)
  refine J_aload_n 60 rfl 0 1 rfl ⟨by decide, by decide⟩ (D_X7_clear_0.at 33 rfl) ?_
  refine J_getFc (dd := 1011) (z := 17) 63 rfl fl_7_39 rfl (by decide) ob_6 (by decide) (D_X7_clear_0.at 34 rfl) (ap_none (by decide +kernel) e7) ?_
  refine J_iload_n 64 rfl 1 0 rfl (D_X7_clear_0.at 35 rfl) ?_
  refine J_iconst 65 rfl (D_X7_clear_0.at 36 rfl) ?_
  refine A_iast 66 rfl ar_17 (by decide) ⟨by decide, by decide⟩ (D_X7_clear_0.at 37 rfl) ?_
  refine J_iinc (v := 2) (lv' := [(1, vI 2), (0, vR 6)]) 69 rfl 1 0 1 rfl rfl (by decide) rfl (D_X7_clear_0.at 38 rfl) ?_
  refine J_goto 50 (D_X7_clear_0.at 39 rfl) (by decide) ?_
  refine J_iload_n 51 rfl 1 0 rfl (D_X7_clear_0.at 28 rfl) ?_
  refine J_aload_n 52 rfl 0 1 rfl ⟨by decide, by decide⟩ (D_X7_clear_0.at 29 rfl) ?_
  refine J_getFc (dd := 1011) (z := 17) 55 rfl fl_7_39 rfl (by decide) ob_6 (by decide) (D_X7_clear_0.at 30 rfl) (ap_none (by decide +kernel) e7) ?_
  refine J_alenE (v := 10) 56 rfl rfl (by decide) ar_17 (by decide) (D_X7_clear_0.at 31 rfl) ?_
  refine J_icmp_ge 59 rfl 72 ⟨by decide, by decide⟩ ⟨by decide, by decide⟩ (D_X7_clear_0.at 32 rfl) (by decide) (fun c => absurd c (by decide)) (fun _ => ?_)
  refine J_aload_n 60 rfl 0 1 rfl ⟨by decide, by decide⟩ (D_X7_clear_0.at 33 rfl) ?_
  refine J_getFc (dd := 1011) (z := 17) 63 rfl fl_7_39 rfl (by decide) ob_6 (by decide) (D_X7_clear_0.at 34 rfl) (ap_none (by decide +kernel) e7) ?_
  refine J_iload_n 64 rfl 1 0 rfl (D_X7_clear_0.at 35 rfl) ?_
  refine J_iconst 65 rfl (D_X7_clear_0.at 36 rfl) ?_
  refine A_iast 66 rfl ar_17 (by decide) ⟨by decide, by decide⟩ (D_X7_clear_0.at 37 rfl) ?_
  refine J_iinc (v := 3) (lv' := [(1, vI 3), (0, vR 6)]) 69 rfl 1 0 1 rfl rfl (by decide) rfl (D_X7_clear_0.at 38 rfl) ?_
  refine J_goto 50 (D_X7_clear_0.at 39 rfl) (by decide) ?_
  refine J_iload_n 51 rfl 1 0 rfl (D_X7_clear_0.at 28 rfl) ?_
  refine J_aload_n 52 rfl 0 1 rfl ⟨by decide, by decide⟩ (D_X7_clear_0.at 29 rfl) ?_
  refine J_getFc (dd := 1011) (z := 17) 55 rfl fl_7_39 rfl (by decide) ob_6 (by decide) (D_X7_clear_0.at 30 rfl) (ap_none (by decide +kernel) e7) ?_
  refine J_alenE (v := 10) 56 rfl rfl (by decide) ar_17 (by decide) (D_X7_clear_0.at 31 rfl) ?_
  refine J_icmp_ge 59 rfl 72 ⟨by decide, by decide⟩ ⟨by decide, by decide⟩ (D_X7_clear_0.at 32 rfl) (by decide) (fun c => absurd c (by decide)) (fun _ => ?_)
  refine J_aload_n 60 rfl 0 1 rfl ⟨by decide, by decide⟩ (D_X7_clear_0.at 33 rfl) ?_
  refine J_getFc (dd := 1011) (z := 17) 63 rfl fl_7_39 rfl (by decide) ob_6 (by decide) (D_X7_clear_0.at 34 rfl) (ap_none (by decide +kernel) e7) ?_
  refine J_iload_n 64 rfl 1 0 rfl (D_X7_clear_0.at 35 rfl) ?_
  refine J_iconst 65 rfl (D_X7_clear_0.at 36 rfl) ?_
  refine A_iast 66 rfl ar_17 (by decide) ⟨by decide, by decide⟩ (D_X7_clear_0.at 37 rfl) ?_
  refine J_iinc (v := 4) (lv' := [(1, vI 4), (0, vR 6)]) 69 rfl 1 0 1 rfl rfl (by decide) rfl (D_X7_clear_0.at 38 rfl) ?_
  refine J_goto 50 (D_X7_clear_0.at 39 rfl) (by decide) ?_
  refine J_iload_n 51 rfl 1 0 rfl (D_X7_clear_0.at 28 rfl) ?_
  refine J_aload_n 52 rfl 0 1 rfl ⟨by decide, by decide⟩ (D_X7_clear_0.at 29 rfl) ?_
  refine J_getFc (dd := 1011) (z := 17) 55 rfl fl_7_39 rfl (by decide) ob_6 (by decide) (D_X7_clear_0.at 30 rfl) (ap_none (by decide +kernel) e7) ?_
  refine J_alenE (v := 10) 56 rfl rfl (by decide) ar_17 (by decide) (D_X7_clear_0.at 31 rfl) ?_
  refine J_icmp_ge 59 rfl 72 ⟨by decide, by decide⟩ ⟨by decide, by decide⟩ (D_X7_clear_0.at 32 rfl) (by decide) (fun c => absurd c (by decide)) (fun _ => ?_)
  refine J_aload_n 60 rfl 0 1 rfl ⟨by decide, by decide⟩ (D_X7_clear_0.at 33 rfl) ?_
  refine J_getFc (dd := 1011) (z := 17) 63 rfl fl_7_39 rfl (by decide) ob_6 (by decide) (D_X7_clear_0.at 34 rfl) (ap_none (by decide +kernel) e7) ?_
  refine J_iload_n 64 rfl 1 0 rfl (D_X7_clear_0.at 35 rfl) ?_
  refine J_iconst 65 rfl (D_X7_clear_0.at 36 rfl) ?_
  refine A_iast 66 rfl ar_17 (by decide) ⟨by decide, by decide⟩ (D_X7_clear_0.at 37 rfl) ?_
  refine J_iinc (v := 5) (lv' := [(1, vI 5), (0, vR 6)]) 69 rfl 1 0 1 rfl rfl (by decide) rfl (D_X7_clear_0.at 38 rfl) ?_
  refine J_goto 50 (D_X7_clear_0.at 39 rfl) (by decide) ?_
  refine J_iload_n 51 rfl 1 0 rfl (D_X7_clear_0.at 28 rfl) ?_
  refine J_aload_n 52 rfl 0 1 rfl ⟨by decide, by decide⟩ (D_X7_clear_0.at 29 rfl) ?_
  refine J_getFc (dd := 1011) (z := 17) 55 rfl fl_7_39 rfl (by decide) ob_6 (by decide) (D_X7_clear_0.at 30 rfl) (ap_none (by decide +kernel) e7) ?_
  refine J_alenE (v := 10) 56 rfl rfl (by decide) ar_17 (by decide) (D_X7_clear_0.at 31 rfl) ?_
  refine J_icmp_ge 59 rfl 72 ⟨by decide, by decide⟩ ⟨by decide, by decide⟩ (D_X7_clear_0.at 32 rfl) (by decide) (fun c => absurd c (by decide)) (fun _ => ?_)
  refine J_aload_n 60 rfl 0 1 rfl ⟨by decide, by decide⟩ (D_X7_clear_0.at 33 rfl) ?_
  refine J_getFc (dd := 1011) (z := 17) 63 rfl fl_7_39 rfl (by decide) ob_6 (by decide) (D_X7_clear_0.at 34 rfl) (ap_none (by decide +kernel) e7) ?_
  refine J_iload_n 64 rfl 1 0 rfl (D_X7_clear_0.at 35 rfl) ?_
  refine J_iconst 65 rfl (D_X7_clear_0.at 36 rfl) ?_
  refine A_iast 66 rfl ar_17 (by decide) ⟨by decide, by decide⟩ (D_X7_clear_0.at 37 rfl) ?_
  refine J_iinc (v := 6) (lv' := [(1, vI 6), (0, vR 6)]) 69 rfl 1 0 1 rfl rfl (by decide) rfl (D_X7_clear_0.at 38 rfl) ?_
  refine J_goto 50 (D_X7_clear_0.at 39 rfl) (by decide) ?_
  refine J_iload_n 51 rfl 1 0 rfl (D_X7_clear_0.at 28 rfl) ?_
  refine J_aload_n 52 rfl 0 1 rfl ⟨by decide, by decide⟩ (D_X7_clear_0.at 29 rfl) ?_
  refine J_getFc (dd := 1011) (z := 17) 55 rfl fl_7_39 rfl (by decide) ob_6 (by decide) (D_X7_clear_0.at 30 rfl) (ap_none (by decide +kernel) e7) ?_
  refine J_alenE (v := 10) 56 rfl rfl (by decide) ar_17 (by decide) (D_X7_clear_0.at 31 rfl) ?_
  refine J_icmp_ge 59 rfl 72 ⟨by decide, by decide⟩ ⟨by decide, by decide⟩ (D_X7_clear_0.at 32 rfl) (by decide) (fun c => absurd c (by decide)) (fun _ => ?_)
  refine J_aload_n 60 rfl 0 1 rfl ⟨by decide, by decide⟩ (D_X7_clear_0.at 33 rfl) ?_
  refine J_getFc (dd := 1011) (z := 17) 63 rfl fl_7_39 rfl (by decide) ob_6 (by decide) (D_X7_clear_0.at 34 rfl) (ap_none (by decide +kernel) e7) ?_
  refine J_iload_n 64 rfl 1 0 rfl (D_X7_clear_0.at 35 rfl) ?_
  refine J_iconst 65 rfl (D_X7_clear_0.at 36 rfl) ?_
  refine A_iast 66 rfl ar_17 (by decide) ⟨by decide, by decide⟩ (D_X7_clear_0.at 37 rfl) ?_
  refine J_iinc (v := 7) (lv' := [(1, vI 7), (0, vR 6)]) 69 rfl 1 0 1 rfl rfl (by decide) rfl (D_X7_clear_0.at 38 rfl) ?_
  refine J_goto 50 (D_X7_clear_0.at 39 rfl) (by decide) ?_
  refine J_iload_n 51 rfl 1 0 rfl (D_X7_clear_0.at 28 rfl) ?_
  refine J_aload_n 52 rfl 0 1 rfl ⟨by decide, by decide⟩ (D_X7_clear_0.at 29 rfl) ?_
  refine J_getFc (dd := 1011) (z := 17) 55 rfl fl_7_39 rfl (by decide) ob_6 (by decide) (D_X7_clear_0.at 30 rfl) (ap_none (by decide +kernel) e7) ?_
  refine J_alenE (v := 10) 56 rfl rfl (by decide) ar_17 (by decide) (D_X7_clear_0.at 31 rfl) ?_
  refine J_icmp_ge 59 rfl 72 ⟨by decide, by decide⟩ ⟨by decide, by decide⟩ (D_X7_clear_0.at 32 rfl) (by decide) (fun c => absurd c (by decide)) (fun _ => ?_)
  refine J_aload_n 60 rfl 0 1 rfl ⟨by decide, by decide⟩ (D_X7_clear_0.at 33 rfl) ?_
  refine J_getFc (dd := 1011) (z := 17) 63 rfl fl_7_39 rfl (by decide) ob_6 (by decide) (D_X7_clear_0.at 34 rfl) (ap_none (by decide +kernel) e7) ?_
  refine J_iload_n 64 rfl 1 0 rfl (D_X7_clear_0.at 35 rfl) ?_
  refine J_iconst 65 rfl (D_X7_clear_0.at 36 rfl) ?_
  refine A_iast 66 rfl ar_17 (by decide) ⟨by decide, by decide⟩ (D_X7_clear_0.at 37 rfl) ?_
  refine J_iinc (v := 8) (lv' := [(1, vI 8), (0, vR 6)]) 69 rfl 1 0 1 rfl rfl (by decide) rfl (D_X7_clear_0.at 38 rfl) ?_
  refine J_goto 50 (D_X7_clear_0.at 39 rfl) (by decide) ?_
  refine J_iload_n 51 rfl 1 0 rfl (D_X7_clear_0.at 28 rfl) ?_
  refine J_aload_n 52 rfl 0 1 rfl ⟨by decide, by decide⟩ (D_X7_clear_0.at 29 rfl) ?_
  refine J_getFc (dd := 1011) (z := 17) 55 rfl fl_7_39 rfl (by decide) ob_6 (by decide) (D_X7_clear_0.at 30 rfl) (ap_none (by decide +kernel) e7) ?_
  refine J_alenE (v := 10) 56 rfl rfl (by decide) ar_17 (by decide) (D_X7_clear_0.at 31 rfl) ?_
  refine J_icmp_ge 59 rfl 72 ⟨by decide, by decide⟩ ⟨by decide, by decide⟩ (D_X7_clear_0.at 32 rfl) (by decide) (fun c => absurd c (by decide)) (fun _ => ?_)
  refine J_aload_n 60 rfl 0 1 rfl ⟨by decide, by decide⟩ (D_X7_clear_0.at 33 rfl) ?_
  refine J_getFc (dd := 1011) (z := 17) 63 rfl fl_7_39 rfl (by decide) ob_6 (by decide) (D_X7_clear_0.at 34 rfl) (ap_none (by decide +kernel) e7) ?_
  refine J_iload_n 64 rfl 1 0 rfl (D_X7_clear_0.at 35 rfl) ?_
  refine J_iconst 65 rfl (D_X7_clear_0.at 36 rfl) ?_
  refine A_iast 66 rfl ar_17 (by decide) ⟨by decide, by decide⟩ (D_X7_clear_0.at 37 rfl) ?_
  refine J_iinc (v := 9) (lv' := [(1, vI 9), (0, vR 6)]) 69 rfl 1 0 1 rfl rfl (by decide) rfl (D_X7_clear_0.at 38 rfl) ?_
  refine J_goto 50 (D_X7_clear_0.at 39 rfl) (by decide) ?_
  refine J_iload_n 51 rfl 1 0 rfl (D_X7_clear_0.at 28 rfl) ?_
  refine J_aload_n 52 rfl 0 1 rfl ⟨by decide, by decide⟩ (D_X7_clear_0.at 29 rfl) ?_
  refine J_getFc (dd := 1011) (z := 17) 55 rfl fl_7_39 rfl (by decide) ob_6 (by decide) (D_X7_clear_0.at 30 rfl) (ap_none (by decide +kernel) e7) ?_
  refine J_alenE (v := 10) 56 rfl rfl (by decide) ar_17 (by decide) (D_X7_clear_0.at 31 rfl) ?_
  refine J_icmp_ge 59 rfl 72 ⟨by decide, by decide⟩ ⟨by decide, by decide⟩ (D_X7_clear_0.at 32 rfl) (by decide) (fun c => absurd c (by decide)) (fun _ => ?_)
  refine J_aload_n 60 rfl 0 1 rfl ⟨by decide, by decide⟩ (D_X7_clear_0.at 33 rfl) ?_
  refine J_getFc (dd := 1011) (z := 17) 63 rfl fl_7_39 rfl (by decide) ob_6 (by decide) (D_X7_clear_0.at 34 rfl) (ap_none (by decide +kernel) e7) ?_
  refine J_iload_n 64 rfl 1 0 rfl (D_X7_clear_0.at 35 rfl) ?_
  refine J_iconst 65 rfl (D_X7_clear_0.at 36 rfl) ?_
  refine A_iast 66 rfl ar_17 (by decide) ⟨by decide, by decide⟩ (D_X7_clear_0.at 37 rfl) ?_
  refine J_iinc (v := 10) (lv' := [(1, vI 10), (0, vR 6)]) 69 rfl 1 0 1 rfl rfl (by decide) rfl (D_X7_clear_0.at 38 rfl) ?_
  refine J_goto 50 (D_X7_clear_0.at 39 rfl) (by decide) ?_
  refine J_iload_n 51 rfl 1 0 rfl (D_X7_clear_0.at 28 rfl) ?_
  refine J_aload_n 52 rfl 0 1 rfl ⟨by decide, by decide⟩ (D_X7_clear_0.at 29 rfl) ?_
  refine J_getFc (dd := 1011) (z := 17) 55 rfl fl_7_39 rfl (by decide) ob_6 (by decide) (D_X7_clear_0.at 30 rfl) (ap_none (by decide +kernel) e7) ?_
  refine J_alenE (v := 10) 56 rfl rfl (by decide) ar_17 (by decide) (D_X7_clear_0.at 31 rfl) ?_
  refine J_icmp_ge 59 rfl 72 ⟨by decide, by decide⟩ ⟨by decide, by decide⟩ (D_X7_clear_0.at 32 rfl) (by decide) (fun _ => ?_) (fun c => absurd (by decide) c)
  refine J_aload_n 73 rfl 0 1 rfl ⟨by decide, by decide⟩ (D_X7_clear_0.at 40 rfl) ?_
  refine J_getFc (dd := 1013) (z := 19) 76 rfl fl_7_48 rfl (by decide) ob_6 (by decide) (D_X7_clear_0.at 41 rfl) (ap_none (by decide +kernel) e9) ?_
  refine J_iconst 77 rfl (D_X7_clear_0.at 42 rfl) ?_
  refine A_putI (jj := 1) 80 rfl fl_7_62 rfl rfl ob_19 (by decide) (D_X7_clear_0.at 43 rfl) ?_
  refine J_aload_n 81 rfl 0 1 rfl ⟨by decide, by decide⟩ (D_X7_clear_0.at 44 rfl) ?_
  refine J_getFc (dd := 1015) (z := 21) 84 rfl fl_7_52 rfl (by decide) ob_6 (by decide) (D_X7_clear_0.at 45 rfl) (ap_none (by decide +kernel) e10) ?_
  refine J_iconst 85 rfl (D_X7_clear_0.at 46 rfl) ?_
  refine A_putI (jj := 1) 88 rfl fl_7_62 rfl rfl ob_21 (by decide) (D_X7_clear_0.at 47 rfl) ?_
  refine J_aload_n 89 rfl 0 1 rfl ⟨by decide, by decide⟩ (D_X7_clear_1.at 0 rfl) ?_
  refine J_iconst 90 rfl (D_X7_clear_1.at 1 rfl) ?_
  refine A_putI (jj := 11) 93 rfl fl_7_65 rfl rfl ob_6 (by decide) (D_X7_clear_1.at 2 rfl) ?_
  refine J_aload_n 94 rfl 0 1 rfl ⟨by decide, by decide⟩ (D_X7_clear_1.at 3 rfl) ?_
  refine J_iconst 95 rfl (D_X7_clear_1.at 4 rfl) ?_
  refine A_putI (jj := 12) 98 rfl fl_7_68 rfl rfl ob_6 (by decide) (D_X7_clear_1.at 5 rfl) ?_
  refine J_aload_n 99 rfl 0 1 rfl ⟨by decide, by decide⟩ (D_X7_clear_1.at 6 rfl) ?_
  refine J_bipush 101 rfl ⟨by decide, by decide⟩ (D_X7_clear_1.at 7 rfl) ?_
  refine A_putI (jj := 13) 104 rfl fl_7_71 rfl rfl ob_6 (by decide) (D_X7_clear_1.at 8 rfl) ?_
  refine J_aload_n 105 rfl 0 1 rfl ⟨by decide, by decide⟩ (D_X7_clear_1.at 9 rfl) ?_
  refine J_bipush 107 rfl ⟨by decide, by decide⟩ (D_X7_clear_1.at 10 rfl) ?_
  refine A_putI (jj := 14) 110 rfl fl_7_74 rfl rfl ob_6 (by decide) (D_X7_clear_1.at 11 rfl) ?_
  refine J_aload_n 111 rfl 0 1 rfl ⟨by decide, by decide⟩ (D_X7_clear_1.at 12 rfl) ?_
  refine J_iconst 112 rfl (D_X7_clear_1.at 13 rfl) ?_
  refine A_putI (jj := 15) 115 rfl fl_7_77 rfl rfl ob_6 (by decide) (D_X7_clear_1.at 14 rfl) ?_
  exact J_vret rfl (D_X7_clear_1.at 15 rfl) T
def U_X7_init_6 : List Up := (U_X7_clear_6 ++ ((0, 6, 10, 21) :: (U_X1_init_21 ++ ((2, 21, 1, 0) :: ((0, 6, 9, 19) :: (U_X1_init_19 ++ ((2, 19, 1, 0) :: ((0, 6, 8, 18) :: ((1, 18, 0, 0) :: ((0, 6, 7, 17) :: ((1, 17, 0, 0) :: ((0, 6, 6, 16) :: ((1, 16, 0, 0) :: ((0, 6, 5, 15) :: ((1, 15, 0, 0) :: ((0, 6, 4, 14) :: ((1, 14, 0, 0) :: ((0, 6, 3, 13) :: ((1, 13, 0, 0) :: ((0, 6, 2, 11) :: (U_X4_init_11 ++ ((2, 11, 4, 0) :: ((0, 6, 1, 9) :: (U_X4_init_9 ++ ((2, 9, 4, 0) :: ((0, 6, 0, 7) :: (U_X4_init_7 ++ ((2, 7, 4, 0) :: []))))))))))))))))))))))))))))
theorem kc_X7_init_6 {w : Wd} {h : Hp} {K : Int → Hp → Prop} (T : K 0 (ap U_X7_init_6 h)) : CGm w false m_X7_init 2 7 23 [vR 6] h K := by
  refine CGm_of2 (by decide) (by decide) trivial (by decide) ?_
  show JG w false m_X7_init 2 23 7 0 [(0, vR 6)] [] (ap [] h) K
  refine J_aload_n 1 rfl 0 0 rfl ⟨by decide, by decide⟩ (D_X7_init_0.at 0 rfl) ?_
  refine J_objI 4 rfl ml_7_3 ⟨by decide, Ob.lt ob_6⟩ rfl (by decide) (D_X7_init_0.at 1 rfl) ?_
  refine J_aload_n 5 rfl 0 0 rfl ⟨by decide, by decide⟩ (D_X7_init_0.at 2 rfl) ?_
  refine A_new (n2 := 8) (ov := 7) 8 rfl 4 rfl rfl rfl kl_4 df_4 cl_7_9 inst_4 ini_4 ob_7 (by decide) (by decide +kernel) (D_X7_init_0.at 3 rfl) ?_
  refine J_dup 9 rfl rfl (D_X7_init_0.at 4 rfl) ?_
  refine J_iconst 10 rfl (D_X7_init_0.at 5 rfl) ?_
  refine A_callI (M' := m_X4_init) (d' := 1) (n' := 9) (as := [vI 5]) (st := [vR 7, vR 6]) (o := 7) 13 rfl U_X4_init_7 ok_X4_init im_X4_init ⟨rfl, rfl⟩ ml_7_11 ob_7 rfl (by decide) ⟨by decide, by decide⟩ (by decide) (D_X7_init_0.at 6 rfl) (fun K1 T1 => kc_X4_init_7 T1) ?_
  refine A_putFR (jj := 0) (dd := 1001) 16 rfl (Or.inl ⟨_, rfl⟩) fl_7_14 ⟨isC_7, rfl⟩ rfl rfl (by decide) ⟨by decide, by decide⟩ ob_6 (by decide) (D_X7_init_0.at 7 rfl) ?_
  refine J_aload_n 17 rfl 0 0 rfl ⟨by decide, by decide⟩ (D_X7_init_0.at 8 rfl) ?_
  refine A_new (n2 := 10) (ov := 9) 20 rfl 4 rfl rfl rfl kl_4 df_4 cl_7_9 inst_4 ini_4 ob_9 (by decide) (by decide +kernel) (D_X7_init_0.at 9 rfl) ?_
  refine J_dup 21 rfl rfl (D_X7_init_0.at 10 rfl) ?_
  refine J_iconst 22 rfl (D_X7_init_0.at 11 rfl) ?_
  refine A_callI (M' := m_X4_init) (d' := 1) (n' := 11) (as := [vI 5]) (st := [vR 9, vR 6]) (o := 9) 25 rfl U_X4_init_9 ok_X4_init im_X4_init ⟨rfl, rfl⟩ ml_7_11 ob_9 rfl (by decide) ⟨by decide, by decide⟩ (by decide) (D_X7_init_0.at 12 rfl) (fun K1 T1 => kc_X4_init_9 T1) ?_
  refine A_putFR (jj := 1) (dd := 1003) 28 rfl (Or.inl ⟨_, rfl⟩) fl_7_20 ⟨isC_7, rfl⟩ rfl rfl (by decide) ⟨by decide, by decide⟩ ob_6 (by decide) (D_X7_init_0.at 13 rfl) ?_
  refine J_aload_n 29 rfl 0 0 rfl ⟨by decide, by decide⟩ (D_X7_init_0.at 14 rfl) ?_
  refine A_new (n2 := 12) (ov := 11) 32 rfl 4 rfl rfl rfl kl_4 df_4 cl_7_9 inst_4 ini_4 ob_11 (by decide) (by decide +kernel) (D_X7_init_0.at 15 rfl) ?_
  refine J_dup 33 rfl rfl (D_X7_init_0.at 16 rfl) ?_
  refine J_bipush 35 rfl ⟨by decide, by decide⟩ (D_X7_init_0.at 17 rfl) ?_
  refine A_callI (M' := m_X4_init) (d' := 1) (n' := 13) (as := [vI 10]) (st := [vR 11, vR 6]) (o := 11) 38 rfl U_X4_init_11 ok_X4_init im_X4_init ⟨rfl, rfl⟩ ml_7_11 ob_11 rfl (by decide) ⟨by decide, by decide⟩ (by decide) (D_X7_init_0.at 18 rfl) (fun K1 T1 => kc_X4_init_11 T1) ?_
  refine A_putFR (jj := 2) (dd := 1005) 41 rfl (Or.inl ⟨_, rfl⟩) fl_7_23 ⟨isC_7, rfl⟩ rfl rfl (by decide) ⟨by decide, by decide⟩ ob_6 (by decide) (D_X7_init_0.at 19 rfl) ?_
  refine J_aload_n 42 rfl 0 0 rfl ⟨by decide, by decide⟩ (D_X7_init_0.at 20 rfl) ?_
  refine J_bipush 44 rfl ⟨by decide, by decide⟩ (D_X7_init_0.at 21 rfl) ?_
  refine A_newarr (n2 := 14) (ov := 13) (at' := .int) (len := 8) (kd := 0) 46 rfl rfl rfl rfl (by decide) ac_0 rfl ar_13 (by decide) (by decide +kernel) (D_X7_init_0.at 22 rfl) ?_
  refine A_putFR (jj := 3) (dd := 1007) 49 rfl (Or.inr ⟨_, rfl⟩) fl_7_26 ⟨isC_7, rfl⟩ rfl rfl (by decide) ⟨by decide, by decide⟩ ob_6 (by decide) (D_X7_init_0.at 23 rfl) ?_
  refine J_aload_n 50 rfl 0 0 rfl ⟨by decide, by decide⟩ (D_X7_init_0.at 24 rfl) ?_
  refine J_bipush 52 rfl ⟨by decide, by decide⟩ (D_X7_init_0.at 25 rfl) ?_
  refine A_newarr (n2 := 15) (ov := 14) (at' := .int) (len := 10) (kd := 0) 54 rfl rfl rfl rfl (by decide) ac_0 rfl ar_14 (by decide) (by decide +kernel) (D_X7_init_0.at 26 rfl) ?_
  refine A_putFR (jj := 4) (dd := 1008) 57 rfl (Or.inr ⟨_, rfl⟩) fl_7_30 ⟨isC_7, rfl⟩ rfl rfl (by decide) ⟨by decide, by decide⟩ ob_6 (by decide) (D_X7_init_0.at 27 rfl) ?_
  refine J_aload_n 58 rfl 0 0 rfl ⟨by decide, by decide⟩ (D_X7_init_0.at 28 rfl) ?_
  refine J_bipush 60 rfl ⟨by decide, by decide⟩ (D_X7_init_0.at 29 rfl) ?_
  refine A_newarr (n2 := 16) (ov := 15) (at' := .int) (len := 10) (kd := 0) 62 rfl rfl rfl rfl (by decide) ac_0 rfl ar_15 (by decide) (by decide +kernel) (D_X7_init_0.at 30 rfl) ?_
  refine A_putFR (jj := 5) (dd := 1009) 65 rfl (Or.inr ⟨_, rfl⟩) fl_7_33 ⟨isC_7, rfl⟩ rfl rfl (by decide) ⟨by decide, by decide⟩ ob_6 (by decide) (D_X7_init_0.at 31 rfl) ?_
  refine J_aload_n 66 rfl 0 0 rfl ⟨by decide, by decide⟩ (D_X7_init_0.at 32 rfl) ?_
  refine J_bipush 68 rfl ⟨by decide, by decide⟩ (D_X7_init_0.at 33 rfl) ?_
  refine A_newarr (n2 := 17) (ov := 16) (at' := .int) (len := 10) (kd := 0) 70 rfl rfl rfl rfl (by decide) ac_0 rfl ar_16 (by decide) (by decide +kernel) (D_X7_init_0.at 34 rfl) ?_
  refine A_putFR (jj := 6) (dd := 1010) 73 rfl (Or.inr ⟨_, rfl⟩) fl_7_36 ⟨isC_7, rfl⟩ rfl rfl (by decide) ⟨by decide, by decide⟩ ob_6 (by decide) (D_X7_init_0.at 35 rfl) ?_
  refine J_aload_n 74 rfl 0 0 rfl ⟨by decide, by decide⟩ (D_X7_init_0.at 36 rfl) ?_
  refine J_bipush 76 rfl ⟨by decide, by decide⟩ (D_X7_init_0.at 37 rfl) ?_
  refine A_newarr (n2 := 18) (ov := 17) (at' := .int) (len := 10) (kd := 0) 78 rfl rfl rfl rfl (by decide) ac_0 rfl ar_17 (by decide) (by decide +kernel) (D_X7_init_0.at 38 rfl) ?_
  refine A_putFR (jj := 7) (dd := 1011) 81 rfl (Or.inr ⟨_, rfl⟩) fl_7_39 ⟨isC_7, rfl⟩ rfl rfl (by decide) ⟨by decide, by decide⟩ ob_6 (by decide) (D_X7_init_0.at 39 rfl) ?_
  refine J_aload_n 82 rfl 0 0 rfl ⟨by decide, by decide⟩ (D_X7_init_0.at 40 rfl) ?_
  refine J_bipush 84 rfl ⟨by decide, by decide⟩ (D_X7_init_0.at 41 rfl) ?_
  refine A_newarr (n2 := 19) (ov := 18) (at' := .int) (len := 10) (kd := 0) 86 rfl rfl rfl rfl (by decide) ac_0 rfl ar_18 (by decide) (by decide +kernel) (D_X7_init_0.at 42 rfl) ?_
  refine A_putFR (jj := 8) (dd := 1012) 89 rfl (Or.inr ⟨_, rfl⟩) fl_7_42 ⟨isC_7, rfl⟩ rfl rfl (by decide) ⟨by decide, by decide⟩ ob_6 (by decide) (D_X7_init_0.at 43 rfl) ?_
  refine J_aload_n 90 rfl 0 0 rfl ⟨by decide, by decide⟩ (D_X7_init_0.at 44 rfl) ?_
  refine A_new (n2 := 20) (ov := 19) 93 rfl 1 rfl rfl rfl kl_1 df_1 cl_7_45 inst_1 ini_1 ob_19 (by decide) (by decide +kernel) (D_X7_init_0.at 45 rfl) ?_
  refine J_dup 94 rfl rfl (D_X7_init_0.at 46 rfl) ?_
  refine A_callIN (M' := m_X1_init) (d' := 1) (n' := 21) (as := []) (st := [vR 19, vR 6]) (o := 19) 97 rfl U_X1_init_19 ok_X1_init im_X1_init ⟨rfl, rfl⟩ ml_7_47 ob_19 rfl (by decide) ⟨by decide, by decide⟩ (by decide) (D_X7_init_0.at 47 rfl) (fun K1 T1 => kc_X1_init_19 T1) ?_
  refine A_putFR (jj := 9) (dd := 1013) 100 rfl (Or.inl ⟨_, rfl⟩) fl_7_48 ⟨isC_7, rfl⟩ rfl rfl (by decide) ⟨by decide, by decide⟩ ob_6 (by decide) (D_X7_init_1.at 0 rfl) ?_
  refine J_aload_n 101 rfl 0 0 rfl ⟨by decide, by decide⟩ (D_X7_init_1.at 1 rfl) ?_
  refine A_new (n2 := 22) (ov := 21) 104 rfl 1 rfl rfl rfl kl_1 df_1 cl_7_45 inst_1 ini_1 ob_21 (by decide) (by decide +kernel) (D_X7_init_1.at 2 rfl) ?_
  refine J_dup 105 rfl rfl (D_X7_init_1.at 3 rfl) ?_
  refine A_callIN (M' := m_X1_init) (d' := 1) (n' := 23) (as := []) (st := [vR 21, vR 6]) (o := 21) 108 rfl U_X1_init_21 ok_X1_init im_X1_init ⟨rfl, rfl⟩ ml_7_47 ob_21 rfl (by decide) ⟨by decide, by decide⟩ (by decide) (D_X7_init_1.at 4 rfl) (fun K1 T1 => kc_X1_init_21 T1) ?_
  refine A_putFR (jj := 10) (dd := 1015) 111 rfl (Or.inl ⟨_, rfl⟩) fl_7_52 ⟨isC_7, rfl⟩ rfl rfl (by decide) ⟨by decide, by decide⟩ ob_6 (by decide) (D_X7_init_1.at 5 rfl) ?_
  refine J_aload_n 112 rfl 0 0 rfl ⟨by decide, by decide⟩ (D_X7_init_1.at 6 rfl) ?_
  refine A_callV (M' := m_X7_clear) (d' := 1) (as := []) (st := []) (o := 6) 115 rfl U_X7_clear_6 ok_X7_clear im_X7_clear se_X7_clear ml_7_55 isC_7 rfl ob_6 (by decide) rfl (by decide) (by decide) (by decide) (D_X7_init_1.at 7 rfl) (fun K1 T1 => kc_X7_clear_6 (ap_some (by decide +kernel)) (ap_some (by decide +kernel)) (ap_some (by decide +kernel)) (ap_some (by decide +kernel)) (ap_some (by decide +kernel)) (ap_some (by decide +kernel)) (ap_some (by decide +kernel)) T1) ?_
  exact J_vret rfl (D_X7_init_1.at 8 rfl) T
def U_X4_init_24 : List Up := ((0, 24, 0, 25) :: ((1, 25, 0, 0) :: []))
theorem kc_X4_init_24 {w : Wd} {h : Hp} {K : Int → Hp → Prop} (T : K 0 (ap U_X4_init_24 h)) : CGm w false m_X4_init 1 25 26 [vR 24, vI 5] h K := by
  refine CGm_of2 (by decide) (by decide) trivial (by decide) ?_
  show JG w false m_X4_init 1 26 25 0 [(0, vR 24), (1, vI 5)] [] (ap [] h) K
  refine J_aload_n 1 rfl 0 0 rfl ⟨by decide, by decide⟩ (D_X4_init_0.at 0 rfl) ?_
  refine J_objI 4 rfl ml_4_3 ⟨by decide, Ob.lt ob_24⟩ rfl (by decide) (D_X4_init_0.at 1 rfl) ?_
  refine J_aload_n 5 rfl 0 0 rfl ⟨by decide, by decide⟩ (D_X4_init_0.at 2 rfl) ?_
  refine J_iconst 6 rfl (D_X4_init_0.at 3 rfl) ?_
  refine J_iload_n 7 rfl 1 1 rfl (D_X4_init_0.at 4 rfl) ?_
  refine A_mmax (v := 5) 10 rfl (by decide) ml_4_9 ⟨by decide, by decide⟩ ⟨by decide, by decide⟩ (by decide) (by decide) (D_X4_init_0.at 5 rfl) ?_
  refine A_newarr (n2 := 26) (ov := 25) (at' := .int) (len := 5) (kd := 0) 12 rfl rfl rfl rfl (by decide) ac_0 rfl ar_25 (by decide) (by decide +kernel) (D_X4_init_0.at 6 rfl) ?_
  refine A_putFR (jj := 0) (dd := 1001) 15 rfl (Or.inr ⟨_, rfl⟩) fl_4_15 ⟨isC_4, rfl⟩ rfl rfl (by decide) ⟨by decide, by decide⟩ ob_24 (by decide) (D_X4_init_0.at 7 rfl) ?_
  exact J_vret rfl (D_X4_init_0.at 8 rfl) T
def U_X4_init_26 : List Up := ((0, 26, 0, 27) :: ((1, 27, 0, 0) :: []))
theorem kc_X4_init_26 {w : Wd} {h : Hp} {K : Int → Hp → Prop} (T : K 0 (ap U_X4_init_26 h)) : CGm w false m_X4_init 1 27 28 [vR 26, vI 5] h K := by
  refine CGm_of2 (by decide) (by decide) trivial (by decide) ?_
  show JG w false m_X4_init 1 28 27 0 [(0, vR 26), (1, vI 5)] [] (ap [] h) K
  refine J_aload_n 1 rfl 0 0 rfl ⟨by decide, by decide⟩ (D_X4_init_0.at 0 rfl) ?_
  refine J_objI 4 rfl ml_4_3 ⟨by decide, Ob.lt ob_26⟩ rfl (by decide) (D_X4_init_0.at 1 rfl) ?_
  refine J_aload_n 5 rfl 0 0 rfl ⟨by decide, by decide⟩ (D_X4_init_0.at 2 rfl) ?_
  refine J_iconst 6 rfl (D_X4_init_0.at 3 rfl) ?_
  refine J_iload_n 7 rfl 1 1 rfl (D_X4_init_0.at 4 rfl) ?_
  refine A_mmax (v := 5) 10 rfl (by decide) ml_4_9 ⟨by decide, by decide⟩ ⟨by decide, by decide⟩ (by decide) (by decide) (D_X4_init_0.at 5 rfl) ?_
  refine A_newarr (n2 := 28) (ov := 27) (at' := .int) (len := 5) (kd := 0) 12 rfl rfl rfl rfl (by decide) ac_0 rfl ar_27 (by decide) (by decide +kernel) (D_X4_init_0.at 6 rfl) ?_
  refine A_putFR (jj := 0) (dd := 1001) 15 rfl (Or.inr ⟨_, rfl⟩) fl_4_15 ⟨isC_4, rfl⟩ rfl rfl (by decide) ⟨by decide, by decide⟩ ob_26 (by decide) (D_X4_init_0.at 7 rfl) ?_
  exact J_vret rfl (D_X4_init_0.at 8 rfl) T
def U_X4_init_28 : List Up := ((0, 28, 0, 29) :: ((1, 29, 0, 0) :: []))
theorem kc_X4_init_28 {w : Wd} {h : Hp} {K : Int → Hp → Prop} (T : K 0 (ap U_X4_init_28 h)) : CGm w false m_X4_init 1 29 30 [vR 28, vI 10] h K := by
  refine CGm_of2 (by decide) (by decide) trivial (by decide) ?_
  show JG w false m_X4_init 1 30 29 0 [(0, vR 28), (1, vI 10)] [] (ap [] h) K
  refine J_aload_n 1 rfl 0 0 rfl ⟨by decide, by decide⟩ (D_X4_init_0.at 0 rfl) ?_
  refine J_objI 4 rfl ml_4_3 ⟨by decide, Ob.lt ob_28⟩ rfl (by decide) (D_X4_init_0.at 1 rfl) ?_
  refine J_aload_n 5 rfl 0 0 rfl ⟨by decide, by decide⟩ (D_X4_init_0.at 2 rfl) ?_
  refine J_iconst 6 rfl (D_X4_init_0.at 3 rfl) ?_
  refine J_iload_n 7 rfl 1 1 rfl (D_X4_init_0.at 4 rfl) ?_
  refine A_mmax (v := 10) 10 rfl (by decide) ml_4_9 ⟨by decide, by decide⟩ ⟨by decide, by decide⟩ (by decide) (by decide) (D_X4_init_0.at 5 rfl) ?_
  refine A_newarr (n2 := 30) (ov := 29) (at' := .int) (len := 10) (kd := 0) 12 rfl rfl rfl rfl (by decide) ac_0 rfl ar_29 (by decide) (by decide +kernel) (D_X4_init_0.at 6 rfl) ?_
  refine A_putFR (jj := 0) (dd := 1001) 15 rfl (Or.inr ⟨_, rfl⟩) fl_4_15 ⟨isC_4, rfl⟩ rfl rfl (by decide) ⟨by decide, by decide⟩ ob_28 (by decide) (D_X4_init_0.at 7 rfl) ?_
  exact J_vret rfl (D_X4_init_0.at 8 rfl) T
def U_X1_init_36 : List Up := ((0, 36, 0, 37) :: ((1, 37, 0, 0) :: []))
theorem kc_X1_init_36 {w : Wd} {h : Hp} {K : Int → Hp → Prop} (T : K 0 (ap U_X1_init_36 h)) : CGm w false m_X1_init 1 37 38 [vR 36] h K := by
  refine CGm_of2 (by decide) (by decide) trivial (by decide) ?_
  show JG w false m_X1_init 1 38 37 0 [(0, vR 36)] [] (ap [] h) K
  refine J_aload_n 1 rfl 0 0 rfl ⟨by decide, by decide⟩ (D_X1_init_0.at 0 rfl) ?_
  refine J_objI 4 rfl ml_1_3 ⟨by decide, Ob.lt ob_36⟩ rfl (by decide) (D_X1_init_0.at 1 rfl) ?_
  refine J_aload_n 5 rfl 0 0 rfl ⟨by decide, by decide⟩ (D_X1_init_0.at 2 rfl) ?_
  refine J_sipush 8 rfl ⟨by decide, by decide⟩ (D_X1_init_0.at 3 rfl) ?_
  refine A_newarr (n2 := 38) (ov := 37) (at' := .int) (len := 1600) (kd := 0) 10 rfl rfl rfl rfl (by decide) ac_0 rfl ar_37 (by decide) (by decide +kernel) (D_X1_init_0.at 4 rfl) ?_
  refine A_putFR (jj := 0) (dd := 1001) 13 rfl (Or.inr ⟨_, rfl⟩) fl_1_9 ⟨isC_1, rfl⟩ rfl rfl (by decide) ⟨by decide, by decide⟩ ob_36 (by decide) (D_X1_init_0.at 5 rfl) ?_
  exact J_vret rfl (D_X1_init_0.at 6 rfl) T
def U_X1_init_38 : List Up := ((0, 38, 0, 39) :: ((1, 39, 0, 0) :: []))
theorem kc_X1_init_38 {w : Wd} {h : Hp} {K : Int → Hp → Prop} (T : K 0 (ap U_X1_init_38 h)) : CGm w false m_X1_init 1 39 40 [vR 38] h K := by
  refine CGm_of2 (by decide) (by decide) trivial (by decide) ?_
  show JG w false m_X1_init 1 40 39 0 [(0, vR 38)] [] (ap [] h) K
  refine J_aload_n 1 rfl 0 0 rfl ⟨by decide, by decide⟩ (D_X1_init_0.at 0 rfl) ?_
  refine J_objI 4 rfl ml_1_3 ⟨by decide, Ob.lt ob_38⟩ rfl (by decide) (D_X1_init_0.at 1 rfl) ?_
  refine J_aload_n 5 rfl 0 0 rfl ⟨by decide, by decide⟩ (D_X1_init_0.at 2 rfl) ?_
  refine J_sipush 8 rfl ⟨by decide, by decide⟩ (D_X1_init_0.at 3 rfl) ?_
  refine A_newarr (n2 := 40) (ov := 39) (at' := .int) (len := 1600) (kd := 0) 10 rfl rfl rfl rfl (by decide) ac_0 rfl ar_39 (by decide) (by decide +kernel) (D_X1_init_0.at 4 rfl) ?_
  refine A_putFR (jj := 0) (dd := 1001) 13 rfl (Or.inr ⟨_, rfl⟩) fl_1_9 ⟨isC_1, rfl⟩ rfl rfl (by decide) ⟨by decide, by decide⟩ ob_38 (by decide) (D_X1_init_0.at 5 rfl) ?_
  exact J_vret rfl (D_X1_init_0.at 6 rfl) T
def U_X7_clear_23 : List Up := ((0, 23, 15, 0) :: ((0, 23, 14, 20) :: ((0, 23, 13, 10) :: ((0, 23, 12, 0) :: ((0, 23, 11, 0) :: ((0, 38, 1, 0) :: ((0, 36, 1, 0) :: ((0, 34, 9, 0) :: ((0, 34, 8, 0) :: ((0, 34, 7, 0) :: ((0, 34, 6, 0) :: ((0, 34, 5, 0) :: ((0, 34, 4, 0) :: ((0, 34, 3, 0) :: ((0, 34, 2, 0) :: ((0, 34, 1, 0) :: ((0, 34, 0, 0) :: ((0, 30, 7, 0) :: ((0, 30, 6, 0) :: ((0, 30, 5, 0) :: ((0, 30, 4, 0) :: ((0, 30, 3, 0) :: ((0, 30, 2, 0) :: ((0, 30, 1, 0) :: ((0, 30, 0, 0) :: ((0, 28, 1, 0) :: ((0, 26, 1, 0) :: ((0, 24, 1, 0) :: []))))))))))))))))))))))))))))
theorem kc_X7_clear_23 {w : Wd} {h : Hp} {K : Int → Hp → Prop} (e0 : h 23 0 = 24) (e1 : h 23 1 = 26) (e2 : h 23 2 = 28) (e3 : h 23 3 = 30) (e7 : h 23 7 = 34) (e9 : h 23 9 = 36) (e10 : h 23 10 = 38) (T : K 0 (ap U_X7_clear_23 h)) : CGm w false m_X7_clear 1 40 40 [vR 23] h K := by
  refine CGm_of2 (by decide) (by decide) trivial (by decide) ?_
  show JG w false m_X7_clear 1 40 40 0 [(0, vR 23)] [] (ap [] h) K
  refine J_aload_n 1 rfl 0 0 rfl ⟨by decide, by decide⟩ (D_X7_clear_0.at 0 rfl) ?_
  refine J_getFc (dd := 1001) (z := 24) 4 rfl fl_7_14 rfl (by decide) ob_23 (by decide) (D_X7_clear_0.at 1 rfl) (ap_none (by decide +kernel) e0) ?_
  refine J_iconst 5 rfl (D_X7_clear_0.at 2 rfl) ?_
  refine A_putI (jj := 1) 8 rfl fl_7_58 rfl rfl ob_24 (by decide) (D_X7_clear_0.at 3 rfl) ?_
  refine J_aload_n 9 rfl 0 0 rfl ⟨by decide, by decide⟩ (D_X7_clear_0.at 4 rfl) ?_
  refine J_getFc (dd := 1003) (z := 26) 12 rfl fl_7_20 rfl (by decide) ob_23 (by decide) (D_X7_clear_0.at 5 rfl) (ap_none (by decide +kernel) e1) ?_
  refine J_iconst 13 rfl (D_X7_clear_0.at 6 rfl) ?_
  refine A_putI (jj := 1) 16 rfl fl_7_58 rfl rfl ob_26 (by decide) (D_X7_clear_0.at 7 rfl) ?_
  refine J_aload_n 17 rfl 0 0 rfl ⟨by decide, by decide⟩ (D_X7_clear_0.at 8 rfl) ?_
  refine J_getFc (dd := 1005) (z := 28) 20 rfl fl_7_23 rfl (by decide) ob_23 (by decide) (D_X7_clear_0.at 9 rfl) (ap_none (by decide +kernel) e2) ?_
  refine J_iconst 21 rfl (D_X7_clear_0.at 10 rfl) ?_
  refine A_putI (jj := 1) 24 rfl fl_7_58 rfl rfl ob_28 (by decide) (D_X7_clear_0.at 11 rfl) ?_
  refine J_iconst 25 rfl (D_X7_clear_0.at 12 rfl) ?_
  refine J_istore_n (lv' := [(1, vI 0), (0, vR 23)]) 26 rfl 1 (by decide) rfl (D_X7_clear_0.at 13 rfl) ?_
  refine J_iload_n 27 rfl 1 0 rfl (D_X7_clear_0.at 14 rfl) ?_
  refine J_aload_n 28 rfl 0 1 rfl ⟨by decide, by decide⟩ (D_X7_clear_0.at 15 rfl) ?_
  refine J_getFc (dd := 1007) (z := 30) 31 rfl fl_7_26 rfl (by decide) ob_23 (by decide) (D_X7_clear_0.at 16 rfl) (ap_none (by decide +kernel) e3) ?_
  refine J_alenE (v := 8) 32 rfl rfl (by decide) ar_30 (by decide) (D_X7_clear_0.at 17 rfl) ?_
  refine J_icmp_ge 35 rfl 48 ⟨by decide, by decide⟩ ⟨by decide, by decide⟩ (D_X7_clear_0.at 18 rfl) (by decide) (fun c => absurd c (by decide)) (fun _ => ?_)
  refine J_aload_n 36 rfl 0 1 rfl ⟨by decide, by decide⟩ (D_X7_clear_0.at 19 rfl) ?_
  refine J_getFc (dd := 1007) (z := 30) 39 rfl fl_7_26 rfl (by decide) ob_23 (by decide) (D_X7_clear_0.at 20 rfl) (ap_none (by decide +kernel) e3) ?_
  refine J_iload_n 40 rfl 1 0 rfl (D_X7_clear_0.at 21 rfl) ?_
  refine J_iconst 41 rfl (D_X7_clear_0.at 22 rfl) ?_
  refine A_iast 42 rfl ar_30 (by decide) ⟨by decide, by decide⟩ (D_X7_clear_0.at 23 rfl) ?_
  refine J_iinc (v := 1) (lv' := [(1, vI 1), (0, vR 23)]) 45 rfl 1 0 1 rfl rfl (by decide) rfl (D_X7_clear_0.at 24 rfl) ?_
  refine J_goto 26 (D_X7_clear_0.at 25 rfl) (by decide) ?_
  refine J_iload_n 27 rfl 1 0 rfl (D_X7_clear_0.at 14 rfl) ?_
  refine J_aload_n 28 rfl 0 1 rfl ⟨by decide, by decide⟩ (D_X7_clear_0.at 15 rfl) ?_
  refine J_getFc (dd := 1007) (z := 30) 31 rfl fl_7_26 rfl (by decide) ob_23 (by decide) (D_X7_clear_0.at 16 rfl) (ap_none (by decide +kernel) e3) ?_
  refine J_alenE (v := 8) 32 rfl rfl (by decide) ar_30 (by decide) (D_X7_clear_0.at 17 rfl) ?_
  refine J_icmp_ge 35 rfl 48 ⟨by decide, by decide⟩ ⟨by decide, by decide⟩ (D_X7_clear_0.at 18 rfl) (by decide) (fun c => absurd c (by decide)) (fun _ => ?_)
  refine J_aload_n 36 rfl 0 1 rfl ⟨by decide, by decide⟩ (D_X7_clear_0.at 19 rfl) ?_
  refine J_getFc (dd := 1007) (z := 30) 39 rfl fl_7_26 rfl (by decide) ob_23 (by decide) (D_X7_clear_0.at 20 rfl) (ap_none (by decide +kernel) e3) ?_
  refine J_iload_n 40 rfl 1 0 rfl (D_X7_clear_0.at 21 rfl) ?_
  refine J_iconst 41 rfl (D_X7_clear_0.at 22 rfl) ?_
  refine A_iast 42 rfl ar_30 (by decide) ⟨by decide, by decide⟩ (D_X7_clear_0.at 23 rfl) ?_
  refine J_iinc (v := 2) (lv' := [(1, vI 2), (0, vR 23)]) 45 rfl 1 0 1 rfl rfl (by decide) rfl (D_X7_clear_0.at 24 rfl) ?_
  refine J_goto 26 (D_X7_clear_0.at 25 rfl) (by decide) ?_
  refine J_iload_n 27 rfl 1 0 rfl (D_X7_clear_0.at 14 rfl) ?_
  refine J_aload_n 28 rfl 0 1 rfl ⟨by decide, by decide⟩ (D_X7_clear_0.at 15 rfl) ?_
  refine J_getFc (dd := 1007) (z := 30) 31 rfl fl_7_26 rfl (by decide) ob_23 (by decide) (D_X7_clear_0.at 16 rfl) (ap_none (by decide +kernel) e3) ?_
  refine J_alenE (v := 8) 32 rfl rfl (by decide) ar_30 (by decide) (D_X7_clear_0.at 17 rfl) ?_
  refine J_icmp_ge 35 rfl 48 ⟨by decide, by decide⟩ ⟨by decide, by decide⟩ (D_X7_clear_0.at 18 rfl) (by decide) (fun c => absurd c (by decide)) (fun _ => ?_)
  refine J_aload_n 36 rfl 0 1 rfl ⟨by decide, by decide⟩ (D_X7_clear_0.at 19 rfl) ?_
  refine J_getFc (dd := 1007) (z := 30) 39 rfl fl_7_26 rfl (by decide) ob_23 (by decide) (D_X7_clear_0.at 20 rfl) (ap_none (by decide +kernel) e3) ?_
  refine J_iload_n 40 rfl 1 0 rfl (D_X7_clear_0.at 21 rfl) ?_
  refine J_iconst 41 rfl (D_X7_clear_0.at 22 rfl) ?_
  refine A_iast 42 rfl ar_30 (by decide) ⟨by decide, by decide⟩ (D_X7_clear_0.at 23 rfl) ?_
  refine J_iinc (v := 3) (lv' := [(1, vI 3), (0, vR 23)]) 45 rfl 1 0 1 rfl rfl (by decide) rfl (D_X7_clear_0.at 24 rfl) ?_
  refine J_goto 26 (D_X7_clear_0.at 25 rfl) (by decide) ?_
  refine J_iload_n 27 rfl 1 0 rfl (D_X7_clear_0.at 14 rfl) ?_
  refine J_aload_n 28 rfl 0 1 rfl ⟨by decide, by decide⟩ (D_X7_clear_0.at 15 rfl) ?_
  refine J_getFc (dd := 1007) (z := 30) 31 rfl fl_7_26 rfl (by decide) ob_23 (by decide) (D_X7_clear_0.at 16 rfl) (ap_none (by decide +kernel) e3) ?_
  refine J_alenE (v := 8) 32 rfl rfl (by decide) ar_30 (by decide) (D_X7_clear_0.at 17 rfl) ?_
  refine J_icmp_ge 35 rfl 48 ⟨by decide, by decide⟩ ⟨by decide, by decide⟩ (D_X7_clear_0.at 18 rfl) (by decide) (fun c => absurd c (by decide)) (fun _ => ?_)
  refine J_aload_n 36 rfl 0 1 rfl ⟨by decide, by decide⟩ (D_X7_clear_0.at 19 rfl) ?_
  refine J_getFc (dd := 1007) (z := 30) 39 rfl fl_7_26 rfl (by decide) ob_23 (by decide) (D_X7_clear_0.at 20 rfl) (ap_none (by decide +kernel) e3) ?_
  refine J_iload_n 40 rfl 1 0 rfl (D_X7_clear_0.at 21 rfl) ?_
  refine J_iconst 41 rfl (D_X7_clear_0.at 22 rfl) ?_
  refine A_iast 42 rfl ar_30 (by decide) ⟨by decide, by decide⟩ (D_X7_clear_0.at 23 rfl) ?_
  refine J_iinc (v := 4) (lv' := [(1, vI 4), (0, vR 23)]) 45 rfl 1 0 1 rfl rfl (by decide) rfl (D_X7_clear_0.at 24 rfl) ?_
  refine J_goto 26 (D_X7_clear_0.at 25 rfl) (by decide) ?_
  refine J_iload_n 27 rfl 1 0 rfl (D_X7_clear_0.at 14 rfl) ?_
  refine J_aload_n 28 rfl 0 1 rfl ⟨by decide, by decide⟩ (D_X7_clear_0.at 15 rfl) ?_
  refine J_getFc (dd := 1007) (z := 30) 31 rfl fl_7_26 rfl (by decide) ob_23 (by decide) (D_X7_clear_0.at 16 rfl) (ap_none (by decide +kernel) e3) ?_
  refine J_alenE (v := 8) 32 rfl rfl (by decide) ar_30 (by decide) (D_X7_clear_0.at 17 rfl) ?_
  refine J_icmp_ge 35 rfl 48 ⟨by decide, by decide⟩ ⟨by decide, by decide⟩ (D_X7_clear_0.at 18 rfl) (by decide) (fun c => absurd c (by decide)) (fun _ => ?_)
  refine J_aload_n 36 rfl 0 1 rfl ⟨by decide, by decide⟩ (D_X7_clear_0.at 19 rfl) ?_
  refine J_getFc (dd := 1007) (z := 30) 39 rfl fl_7_26 rfl (by decide) ob_23 (by decide) (D_X7_clear_0.at 20 rfl) (ap_none (by decide +kernel) e3) ?_
  refine J_iload_n 40 rfl 1 0 rfl (D_X7_clear_0.at 21 rfl) ?_
  refine J_iconst 41 rfl (D_X7_clear_0.at 22 rfl) ?_
  refine A_iast 42 rfl ar_30 (by decide) ⟨by decide, by decide⟩ (D_X7_clear_0.at 23 rfl) ?_
  refine J_iinc (v := 5) (lv' := [(1, vI 5), (0, vR 23)]) 45 rfl 1 0 1 rfl rfl (by decide) rfl (D_X7_clear_0.at 24 rfl) ?_
  refine J_goto 26 (D_X7_clear_0.at 25 rfl) (by decide) ?_
  refine J_iload_n 27 rfl 1 0 rfl (D_X7_clear_0.at 14 rfl) ?_
  refine J_aload_n 28 rfl 0 1 rfl ⟨by decide, by decide⟩ (D_X7_clear_0.at 15 rfl) ?_
  refine J_getFc (dd := 1007) (z := 30) 31 rfl fl_7_26 rfl (by decide) ob_23 (by decide) (D_X7_clear_0.at 16 rfl) (ap_none (by decide +kernel) e3) ?_
  refine J_alenE (v := 8) 32 rfl rfl (by decide) ar_30 (by decide) (D_X7_clear_0.at 17 rfl) ?_
  refine J_icmp_ge 35 rfl 48 ⟨by decide, by decide⟩ ⟨by decide, by decide⟩ (D_X7_clear_0.at 18 rfl) (by decide) (fun c => absurd c (by decide)) (fun _ => ?_)
  refine J_aload_n 36 rfl 0 1 rfl ⟨by decide, by decide⟩ (D_X7_clear_0.at 19 rfl) ?_
  refine J_getFc (dd := 1007) (z := 30) 39 rfl fl_7_26 rfl (by decide) ob_23 (by decide) (D_X7_clear_0.at 20 rfl) (ap_none (by decide +kernel) e3) ?_
  refine J_iload_n 40 rfl 1 0 rfl (D_X7_clear_0.at 21 rfl) ?_
  refine J_iconst 41 rfl (D_X7_clear_0.at 22 rfl) ?_
  refine A_iast 42 rfl ar_30 (by decide) ⟨by decide, by decide⟩ (D_X7_clear_0.at 23 rfl) ?_
  refine J_iinc (v := 6) (lv' := [(1, vI 6), (0, vR 23)]) 45 rfl 1 0 1 rfl rfl (by decide) rfl (D_X7_clear_0.at 24 rfl) ?_
  refine J_goto 26 (D_X7_clear_0.at 25 rfl) (by decide) ?_
  refine J_iload_n 27 rfl 1 0 rfl (D_X7_clear_0.at 14 rfl) ?_
  refine J_aload_n 28 rfl 0 1 rfl ⟨by decide, by decide⟩ (D_X7_clear_0.at 15 rfl) ?_
  refine J_getFc (dd := 1007) (z := 30) 31 rfl fl_7_26 rfl (by decide) ob_23 (by decide) (D_X7_clear_0.at 16 rfl) (ap_none (by decide +kernel) e3) ?_
  refine J_alenE (v := 8) 32 rfl rfl (by decide) ar_30 (by decide) (D_X7_clear_0.at 17 rfl) ?_
  refine J_icmp_ge 35 rfl 48 ⟨by decide, by decide⟩ ⟨by decide, by decide⟩ (D_X7_clear_0.at 18 rfl) (by decide) (fun c => absurd c (by decide)) (fun _ => ?_)
  refine J_aload_n 36 rfl 0 1 rfl ⟨by decide, by decide⟩ (D_X7_clear_0.at 19 rfl) ?_
  refine J_getFc (dd := 1007) (z := 30) 39 rfl fl_7_26 rfl (by decide) ob_23 (by decide) (D_X7_clear_0.at 20 rfl) (ap_none (by decide +kernel) e3) ?_
  refine J_iload_n 40 rfl 1 0 rfl (D_X7_clear_0.at 21 rfl) ?_
  refine J_iconst 41 rfl (D_X7_clear_0.at 22 rfl) ?_
  refine A_iast 42 rfl ar_30 (by decide) ⟨by decide, by decide⟩ (D_X7_clear_0.at 23 rfl) ?_
  refine J_iinc (v := 7) (lv' := [(1, vI 7), (0, vR 23)]) 45 rfl 1 0 1 rfl rfl (by decide) rfl (D_X7_clear_0.at 24 rfl) ?_
  refine J_goto 26 (D_X7_clear_0.at 25 rfl) (by decide) ?_
  refine J_iload_n 27 rfl 1 0 rfl (D_X7_clear_0.at 14 rfl) ?_
  refine J_aload_n 28 rfl 0 1 rfl ⟨by decide, by decide⟩ (D_X7_clear_0.at 15 rfl) ?_
  refine J_getFc (dd := 1007) (z := 30) 31 rfl fl_7_26 rfl (by decide) ob_23 (by decide) (D_X7_clear_0.at 16 rfl) (ap_none (by decide +kernel) e3) ?_
  refine J_alenE (v := 8) 32 rfl rfl (by decide) ar_30 (by decide) (D_X7_clear_0.at 17 rfl) ?_
  refine J_icmp_ge 35 rfl 48 ⟨by decide, by decide⟩ ⟨by decide, by decide⟩ (D_X7_clear_0.at 18 rfl) (by decide) (fun c => absurd c (by decide)) (fun _ => ?_)
  refine J_aload_n 36 rfl 0 1 rfl ⟨by decide, by decide⟩ (D_X7_clear_0.at 19 rfl) ?_
  refine J_getFc (dd := 1007) (z := 30) 39 rfl fl_7_26 rfl (by decide) ob_23 (by decide) (D_X7_clear_0.at 20 rfl) (ap_none (by decide +kernel) e3) ?_
  refine J_iload_n 40 rfl 1 0 rfl (D_X7_clear_0.at 21 rfl) ?_
  refine J_iconst 41 rfl (D_X7_clear_0.at 22 rfl) ?_
  refine A_iast 42 rfl ar_30 (by decide) ⟨by decide, by decide⟩ (D_X7_clear_0.at 23 rfl) ?_
  refine J_iinc (v := 8) (lv' := [(1, vI 8), (0, vR 23)]) 45 rfl 1 0 1 rfl rfl (by decide) rfl (D_X7_clear_0.at 24 rfl) ?_
  refine J_goto 26 (D_X7_clear_0.at 25 rfl) (by decide) ?_
  refine J_iload_n 27 rfl 1 0 rfl (D_X7_clear_0.at 14 rfl) ?_
  refine J_aload_n 28 rfl 0 1 rfl ⟨by decide, by decide⟩ (D_X7_clear_0.at 15 rfl) ?_
  refine J_getFc (dd := 1007) (z := 30) 31 rfl fl_7_26 rfl (by decide) ob_23 (by decide) (D_X7_clear_0.at 16 rfl) (ap_none (by decide +kernel) e3) ?_
  refine J_alenE (v := 8) 32 rfl rfl (by decide) ar_30 (by decide) (D_X7_clear_0.at 17 rfl) ?_
  refine J_icmp_ge 35 rfl 48 ⟨by decide, by decide⟩ ⟨by decide, by decide⟩ (D_X7_clear_0.at 18 rfl) (by decide) (fun _ => ?_) (fun c => absurd (by decide) c)
  refine J_iconst 49 rfl (D_X7_clear_0.at 26 rfl) ?_
  refine J_istore_n (lv' := [(1, vI 0), (0, vR 23)]) 50 rfl 1 (by decide) rfl (D_X7_clear_0.at 27 rfl) ?_
  refine J_iload_n 51 rfl 1 0 rfl (D_X7_clear_0.at 28 rfl) ?_
  refine J_aload_n 52 rfl 0 1 rfl ⟨by decide, by decide⟩ (D_X7_clear_0.at 29 rfl) ?_
  refine J_getFc (dd := 1011) (z := 34) 55 rfl fl_7_39 rfl (by decide) ob_23 (by decide) (D_X7_clear_0.at 30 rfl) (ap_none (by decide +kernel) e7) ?_
  refine J_alenE (v := 10) 56 rfl rfl (by decide) ar_34 (by decide) (D_X7_clear_0.at 31 rfl) ?_
  refine J_icmp_ge 59 rfl 72 ⟨by decide, by decide⟩ ⟨by decide, by decide⟩ (D_X7_clear_0.at 32 rfl) (by decide) (fun c => absurd c (by decide)) (fun _ => ?_)
  refine J_aload_n 60 rfl 0 1 rfl ⟨by decide, by decide⟩ (D_X7_clear_0.at 33 rfl) ?_
  refine J_getFc (dd := 1011) (z := 34) 63 rfl fl_7_39 rfl (by decide) ob_23 (by decide) (D_X7_clear_0.at 34 rfl) (ap_none (by decide +kernel) e7) ?_
  refine J_iload_n 64 rfl 1 0 rfl (D_X7_clear_0.at 35 rfl) ?_
  refine J_iconst 65 rfl (D_X7_clear_0.at 36 rfl) ?_
  refine A_iast 66 rfl ar_34 (by decide) ⟨by decide, by decide⟩ (D_X7_clear_0.at 37 rfl) ?_
  refine J_iinc (v := 1) (lv' := [(1, vI 1), (0, vR 23)]) 69 rfl 1 0 1 rfl rfl (by decide) rfl (D_X7_clear_0.at 38 rfl) ?_
  refine J_goto 50 (D_X7_clear_0.at 39 rfl) (by decide) ?_
  refine J_iload_n 51 rfl 1 0 rfl (D_X7_clear_0.at 28 rfl) ?_
  refine J_aload_n 52 rfl 0 1 rfl ⟨by decide, by decide⟩ (D_X7_clear_0.at 29 rfl) ?_
  refine J_getFc (dd := 1011) (z := 34) 55 rfl fl_7_39 rfl (by decide) ob_23 (by decide) (D_X7_clear_0.at 30 rfl) (ap_none (by decide +kernel) e7) ?_
  refine J_alenE (v := 10) 56 rfl rfl (by decide) ar_34 (by decide) (D_X7_clear_0.at 31 rfl) ?_
  refine J_icmp_ge 59 rfl 72 ⟨by decide, by decide⟩ ⟨by decide, by decide⟩ (D_X7_clear_0.at 32 rfl) (by decide) (fun c => absurd c (by decide)) (fun _ => ?_)
  refine J_aload_n 60 rfl 0 1 rfl ⟨by decide, by decide⟩ (D_X7_clear_0.at 33 rfl) ?_
  refine J_getFc (dd := 1011) (z := 34) 63 rfl fl_7_39 rfl (by decide) ob_23 (by decide) (D_X7_clear_0.at 34 rfl) (ap_none (by decide +kernel) e7) ?_
  refine J_iload_n 64 rfl 1 0 rfl (D_X7_clear_0.at 35 rfl) ?_
  refine J_iconst 65 rfl (D_X7_clear_0.at 36 rfl) ?_
  refine A_iast 66 rfl ar_34 (by decide) ⟨by decide, by decide⟩ (D_X7_clear_0.at 37 rfl) ?_
  refine J_iinc (v := 2) (lv' := [(1, vI 2), (0, vR 23)]) 69 rfl 1 0 1 rfl rfl (by decide) rfl (D_X7_clear_0.at 38 rfl) ?_
  refine J_goto 50 (D_X7_clear_0.at 39 rfl) (by decide) ?_
  refine J_iload_n 51 rfl 1 0 rfl (D_X7_clear_0.at 28 rfl) ?_
  refine J_aload_n 52 rfl 0 1 rfl ⟨by decide, by decide⟩ (D_X7_clear_0.at 29 rfl) ?_
  refine J_getFc (dd := 1011) (z := 34) 55 rfl fl_7_39 rfl (by decide) ob_23 (by decide) (D_X7_clear_0.at 30 rfl) (ap_none (by decide +kernel) e7) ?_
  refine J_alenE (v := 10) 56 rfl rfl (by decide) ar_34 (by decide) (D_X7_clear_0.at 31 rfl) ?_
  refine J_icmp_ge 59 rfl 72 ⟨by decide, by decide⟩ ⟨by decide, by decide⟩ (D_X7_clear_0.at 32 rfl) (by decide) (fun c => absurd c (by decide)) (fun _ => ?_)
  refine J_aload_n 60 rfl 0 1 rfl ⟨by decide, by decide⟩ (D_X7_clear_0.at 33 rfl) ?_
  refine J_getFc (dd := 1011) (z := 34) 63 rfl fl_7_39 rfl (by decide) ob_23 (by decide) (D_X7_clear_0.at 34 rfl) (ap_none (by decide +kernel) e7) ?_
  refine J_iload_n 64 rfl 1 0 rfl (D_X7_clear_0.at 35 rfl) ?_
  refine J_iconst 65 rfl (D_X7_clear_0.at 36 rfl) ?_
  refine A_iast 66 rfl ar_34 (by decide) ⟨by decide, by decide⟩ (D_X7_clear_0.at 37 rfl) ?_
  refine J_iinc (v := 3) (lv' := [(1, vI 3), (0, vR 23)]) 69 rfl 1 0 1 rfl rfl (by decide) rfl (D_X7_clear_0.at 38 rfl) ?_
  refine J_goto 50 (D_X7_clear_0.at 39 rfl) (by decide) ?_
  refine J_iload_n 51 rfl 1 0 rfl (D_X7_clear_0.at 28 rfl) ?_
  refine J_aload_n 52 rfl 0 1 rfl ⟨by decide, by decide⟩ (D_X7_clear_0.at 29 rfl) ?_
  refine J_getFc (dd := 1011) (z := 34) 55 rfl fl_7_39 rfl (by decide) ob_23 (by decide) (D_X7_clear_0.at 30 rfl) (ap_none (by decide +kernel) e7) ?_
  refine J_alenE (v := 10) 56 rfl rfl (by decide) ar_34 (by decide) (D_X7_clear_0.at 31 rfl) ?_
  refine J_icmp_ge 59 rfl 72 ⟨by decide, by decide⟩ ⟨by decide, by decide⟩ (D_X7_clear_0.at 32 rfl) (by decide) (fun c => absurd c (by decide)) (fun _ => ?_)
  refine J_aload_n 60 rfl 0 1 rfl ⟨by decide, by decide⟩ (D_X7_clear_0.at 33 rfl) ?_
  refine J_getFc (dd := 1011) (z := 34) 63 rfl fl_7_39 rfl (by decide) ob_23 (by decide) (D_X7_clear_0.at 34 rfl) (ap_none (by decide +kernel) e7) ?_
  refine J_iload_n 64 rfl 1 0 rfl (D_X7_clear_0.at 35 rfl) ?_
  refine J_iconst 65 rfl (D_X7_clear_0.at 36 rfl) ?_
  refine A_iast 66 rfl ar_34 (by decide) ⟨by decide, by decide⟩ (D_X7_clear_0.at 37 rfl) ?_
  refine J_iinc (v := 4) (lv' := [(1, vI 4), (0, vR 23)]) 69 rfl 1 0 1 rfl rfl (by decide) rfl (D_X7_clear_0.at 38 rfl) ?_
  refine J_goto 50 (D_X7_clear_0.at 39 rfl) (by decide) ?_
  refine J_iload_n 51 rfl 1 0 rfl (D_X7_clear_0.at 28 rfl) ?_
  refine J_aload_n 52 rfl 0 1 rfl ⟨by decide, by decide⟩ (D_X7_clear_0.at 29 rfl) ?_
  refine J_getFc (dd := 1011) (z := 34) 55 rfl fl_7_39 rfl (by decide) ob_23 (by decide) (D_X7_clear_0.at 30 rfl) (ap_none (by decide +kernel) e7) ?_
  refine J_alenE (v := 10) 56 rfl rfl (by decide) ar_34 (by decide) (D_X7_clear_0.at 31 rfl) ?_
  refine J_icmp_ge 59 rfl 72 ⟨by decide, by decide⟩ ⟨by decide, by decide⟩ (D_X7_clear_0.at 32 rfl) (by decide) (fun c => absurd c (by decide)) (fun _ => ?_)
  refine J_aload_n 60 rfl 0 1 rfl ⟨by decide, by decide⟩ (D_X7_clear_0.at 33 rfl) ?_
  refine J_getFc (dd := 1011) (z := 34) 63 rfl fl_7_39 rfl (by decide) ob_23 (by decide) (D_X7_clear_0.at 34 rfl) (ap_none (by decide +kernel) e7) ?_
  refine J_iload_n 64 rfl 1 0 rfl (D_X7_clear_0.at 35 rfl) ?_
  refine J_iconst 65 rfl (D_X7_clear_0.at 36 rfl) ?_
  refine A_iast 66 rfl ar_34 (by decide) ⟨by decide, by decide⟩ (D_X7_clear_0.at 37 rfl) ?_
  refine J_iinc (v := 5) (lv' := [(1, vI 5), (0, vR 23)]) 69 rfl 1 0 1 rfl rfl (by decide) rfl (D_X7_clear_0.at 38 rfl) ?_
  refine J_goto 50 (D_X7_clear_0.at 39 rfl) (by decide) ?_
  refine J_iload_n 51 rfl 1 0 rfl (D_X7_clear_0.at 28 rfl) ?_
  refine J_aload_n 52 rfl 0 1 rfl ⟨by decide, by decide⟩ (D_X7_clear_0.at 29 rfl) ?_
  refine J_getFc (dd := 1011) (z := 34) 55 rfl fl_7_39 rfl (by decide) ob_23 (by decide) (D_X7_clear_0.at 30 rfl) (ap_none (by decide +kernel) e7) ?_
  refine J_alenE (v := 10) 56 rfl rfl (by decide) ar_34 (by decide) (D_X7_clear_0.at 31 rfl) ?_
  refine J_icmp_ge 59 rfl 72 ⟨by decide, by decide⟩ ⟨by decide, by decide⟩ (D_X7_clear_0.at 32 rfl) (by decide) (fun c => absurd c (by decide)) (fun _ => ?_)
  refine J_aload_n 60 rfl 0 1 rfl ⟨by decide, by decide⟩ (D_X7_clear_0.at 33 rfl) ?_
  refine J_getFc (dd := 1011) (z := 34) 63 rfl fl_7_39 rfl (by decide) ob_23 (by decide) (D_X7_clear_0.at 34 rfl) (ap_none (by decide +kernel) e7) ?_
  refine J_iload_n 64 rfl 1 0 rfl (D_X7_clear_0.at 35 rfl) ?_
  refine J_iconst 65 rfl (D_X7_clear_0.at 36 rfl) ?_
  refine A_iast 66 rfl ar_34 (by decide) ⟨by decide, by decide⟩ (D_X7_clear_0.at 37 rfl) ?_
  refine J_iinc (v := 6) (lv' := [(1, vI 6), (0, vR 23)]) 69 rfl 1 0 1 rfl rfl (by decide) rfl (D_X7_clear_0.at 38 rfl) ?_
  refine J_goto 50 (D_X7_clear_0.at 39 rfl) (by decide) ?_
  refine J_iload_n 51 rfl 1 0 rfl (D_X7_clear_0.at 28 rfl) ?_
  refine J_aload_n 52 rfl 0 1 rfl ⟨by decide, by decide⟩ (D_X7_clear_0.at 29 rfl) ?_
  refine J_getFc (dd := 1011) (z := 34) 55 rfl fl_7_39 rfl (by decide) ob_23 (by decide) (D_X7_clear_0.at 30 rfl) (ap_none (by decide +kernel) e7) ?_
  refine J_alenE (v := 10) 56 rfl rfl (by decide) ar_34 (by decide) (D_X7_clear_0.at 31 rfl) ?_
  refine J_icmp_ge 59 rfl 72 ⟨by decide, by decide⟩ ⟨by decide, by decide⟩ (D_X7_clear_0.at 32 rfl) (by decide) (fun c => absurd c (by decide)) (fun _ => ?_)
  refine J_aload_n 60 rfl 0 1 rfl ⟨by decide, by decide⟩ (D_X7_clear_0.at 33 rfl) ?_
  refine J_getFc (dd := 1011) (z := 34) 63 rfl fl_7_39 rfl (by decide) ob_23 (by decide) (D_X7_clear_0.at 34 rfl) (ap_none (by decide +kernel) e7) ?_
  refine J_iload_n 64 rfl 1 0 rfl (D_X7_clear_0.at 35 rfl) ?_
  refine J_iconst 65 rfl (D_X7_clear_0.at 36 rfl) ?_
  refine A_iast 66 rfl ar_34 (by decide) ⟨by decide, by decide⟩ (D_X7_clear_0.at 37 rfl) ?_
  refine J_iinc (v := 7) (lv' := [(1, vI 7), (0, vR 23)]) 69 rfl 1 0 1 rfl rfl (by decide) rfl (D_X7_clear_0.at 38 rfl) ?_
  refine J_goto 50 (D_X7_clear_0.at 39 rfl) (by decide) ?_
  refine J_iload_n 51 rfl 1 0 rfl (D_X7_clear_0.at 28 rfl) ?_
  refine J_aload_n 52 rfl 0 1 rfl ⟨by decide, by decide⟩ (D_X7_clear_0.at 29 rfl) ?_
  refine J_getFc (dd := 1011) (z := 34) 55 rfl fl_7_39 rfl (by decide) ob_23 (by decide) (D_X7_clear_0.at 30 rfl) (ap_none (by decide +kernel) e7) ?_
  refine J_alenE (v := 10) 56 rfl rfl (by decide) ar_34 (by decide) (D_X7_clear_0.at 31 rfl) ?_
  refine J_icmp_ge 59 rfl 72 ⟨by decide, by decide⟩ ⟨by decide, by decide⟩ (D_X7_clear_0.at 32 rfl) (by decide) (fun c => absurd c (by decide)) (fun _ => ?_)
  refine J_aload_n 60 rfl 0 1 rfl ⟨by decide, by decide⟩ (D_X7_clear_0.at 33 rfl) ?_
  refine J_getFc (dd := 1011) (z := 34) 63 rfl fl_7_39 rfl (by decide) ob_23 (by decide) (D_X7_clear_0.at 34 rfl) (ap_none (by decide +kernel) e7) ?_
  refine J_iload_n 64 rfl 1 0 rfl (D_X7_clear_0.at 35 rfl) ?_
  refine J_iconst 65 rfl (D_X7_clear_0.at 36 rfl) ?_
  refine A_iast 66 rfl ar_34 (by decide) ⟨by decide, by decide⟩ (D_X7_clear_0.at 37 rfl) ?_
  refine J_iinc (v := 8) (lv' := [(1, vI 8), (0, vR 23)]) 69 rfl 1 0 1 rfl rfl (by decide) rfl (D_X7_clear_0.at 38 rfl) ?_
  refine J_goto 50 (D_X7_clear_0.at 39 rfl) (by decide) ?_
  refine J_iload_n 51 rfl 1 0 rfl (D_X7_clear_0.at 28 rfl) ?_
  refine J_aload_n 52 rfl 0 1 rfl ⟨by decide, by decide⟩ (D_X7_clear_0.at 29 rfl) ?_
  refine J_getFc (dd := 1011) (z := 34) 55 rfl fl_7_39 rfl (by decide) ob_23 (by decide) (D_X7_clear_0.at 30 rfl) (ap_none (by decide +kernel) e7) ?_
  refine J_alenE (v := 10) 56 rfl rfl (by decide) ar_34 (by decide) (D_X7_clear_0.at 31 rfl) ?_
  refine J_icmp_ge 59 rfl 72 ⟨by decide, by decide⟩ ⟨by decide, by decide⟩ (D_X7_clear_0.at 32 rfl) (by decide) (fun c => absurd c (by decide)) (fun _ => ?_)
  refine J_aload_n 60 rfl 0 1 rfl ⟨by decide, by decide⟩ (D_X7_clear_0.at 33 rfl) ?_
  refine J_getFc (dd := 1011) (z := 34) 63 rfl fl_7_39 rfl (by decide) ob_23 (by decide) (D_X7_clear_0.at 34 rfl) (ap_none (by decide +kernel) e7) ?_
  refine J_iload_n 64 rfl 1 0 rfl (D_X7_clear_0.at 35 rfl) ?_
  refine J_iconst 65 rfl (D_X7_clear_0.at 36 rfl) ?_
  refine A_iast 66 rfl ar_34 (by decide) ⟨by decide, by decide⟩ (D_X7_clear_0.at 37 rfl) ?_
  refine J_iinc (v := 9) (lv' := [(1, vI 9), (0, vR 23)]) 69 rfl 1 0 1 rfl rfl (by decide) rfl (D_X7_clear_0.at 38 rfl) ?_
  refine J_goto 50 (D_X7_clear_0.at 39 rfl) (by decide) ?_
  refine J_iload_n 51 rfl 1 0 rfl (D_X7_clear_0.at 28 rfl) ?_
  refine J_aload_n 52 rfl 0 1 rfl ⟨by decide, by decide⟩ (D_X7_clear_0.at 29 rfl) ?_
  refine J_getFc (dd := 1011) (z := 34) 55 rfl fl_7_39 rfl (by decide) ob_23 (by decide) (D_X7_clear_0.at 30 rfl) (ap_none (by decide +kernel) e7) ?_
  refine J_alenE (v := 10) 56 rfl rfl (by decide) ar_34 (by decide) (D_X7_clear_0.at 31 rfl) ?_
  refine J_icmp_ge 59 rfl 72 ⟨by decide, by decide⟩ ⟨by decide, by decide⟩ (D_X7_clear_0.at 32 rfl) (by decide) (fun c => absurd c (by decide)) (fun _ => ?_)
  refine J_aload_n 60 rfl 0 1 rfl ⟨by decide, by decide⟩ (D_X7_clear_0.at 33 rfl) ?_
  refine J_getFc (dd := 1011) (z := 34) 63 rfl fl_7_39 rfl (by decide) ob_23 (by decide) (D_X7_clear_0.at 34 rfl) (ap_none (by decide +kernel) e7) ?_
  refine J_iload_n 64 rfl 1 0 rfl (D_X7_clear_0.at 35 rfl) ?_
  refine J_iconst 65 rfl (D_X7_clear_0.at 36 rfl) ?_
  refine A_iast 66 rfl ar_34 (by decide) ⟨by decide, by decide⟩ (D_X7_clear_0.at 37 rfl) ?_
  refine J_iinc (v := 10) (lv' := [(1, vI 10), (0, vR 23)]) 69 rfl 1 0 1 rfl rfl (by decide) rfl (D_X7_clear_0.at 38 rfl) ?_
  refine J_goto 50 (D_X7_clear_0.at 39 rfl) (by decide) ?_
  refine J_iload_n 51 rfl 1 0 rfl (D_X7_clear_0.at 28 rfl) ?_
  refine J_aload_n 52 rfl 0 1 rfl ⟨by decide, by decide⟩ (D_X7_clear_0.at 29 rfl) ?_
  refine J_getFc (dd := 1011) (z := 34) 55 rfl fl_7_39 rfl (by decide) ob_23 (by decide) (D_X7_clear_0.at 30 rfl) (ap_none (by decide +kernel) e7) ?_
  refine J_alenE (v := 10) 56 rfl rfl (by decide) ar_34 (by decide) (D_X7_clear_0.at 31 rfl) ?_
  refine J_icmp_ge 59 rfl 72 ⟨by decide, by decide⟩ ⟨by decide, by decide⟩ (D_X7_clear_0.at 32 rfl) (by decide) (fun _ => ?_) (fun c => absurd (by decide) c)
  refine J_aload_n 73 rfl 0 1 rfl ⟨by decide, by decide⟩ (D_X7_clear_0.at 40 rfl) ?_
  refine J_getFc (dd := 1013) (z := 36) 76 rfl fl_7_48 rfl (by decide) ob_23 (by decide) (D_X7_clear_0.at 41 rfl) (ap_none (by decide +kernel) e9) ?_
  refine J_iconst 77 rfl (D_X7_clear_0.at 42 rfl) ?_
  refine A_putI (jj := 1) 80 rfl fl_7_62 rfl rfl ob_36 (by decide) (D_X7_clear_0.at 43 rfl) ?_
  refine J_aload_n 81 rfl 0 1 rfl ⟨by decide, by decide⟩ (D_X7_clear_0.at 44 rfl) ?_
  refine J_getFc (dd := 1015) (z := 38) 84 rfl fl_7_52 rfl (by decide) ob_23 (by decide) (D_X7_clear_0.at 45 rfl) (ap_none (by decide +kernel) e10) ?_
  refine J_iconst 85 rfl (D_X7_clear_0.at 46 rfl) ?_
  refine A_putI (jj := 1) 88 rfl fl_7_62 rfl rfl ob_38 (by decide) (D_X7_clear_0.at 47 rfl) ?_
  refine J_aload_n 89 rfl 0 1 rfl ⟨by decide, by decide⟩ (D_X7_clear_1.at 0 rfl) ?_
  refine J_iconst 90 rfl (D_X7_clear_1.at 1 rfl) ?_
  refine A_putI (jj := 11) 93 rfl fl_7_65 rfl rfl ob_23 (by decide) (D_X7_clear_1.at 2 rfl) ?_
  refine J_aload_n 94 rfl 0 1 rfl ⟨by decide, by decide⟩ (D_X7_clear_1.at 3 rfl) ?_
  refine J_iconst 95 rfl (D_X7_clear_1.at 4 rfl) ?_
  refine A_putI (jj := 12) 98 rfl fl_7_68 rfl rfl ob_23 (by decide) (D_X7_clear_1.at 5 rfl) ?_
  refine J_aload_n 99 rfl 0 1 rfl ⟨by decide, by decide⟩ (D_X7_clear_1.at 6 rfl) ?_
  refine J_bipush 101 rfl ⟨by decide, by decide⟩ (D_X7_clear_1.at 7 rfl) ?_
  refine A_putI (jj := 13) 104 rfl fl_7_71 rfl rfl ob_23 (by decide) (D_X7_clear_1.at 8 rfl) ?_
  refine J_aload_n 105 rfl 0 1 rfl ⟨by decide, by decide⟩ (D_X7_clear_1.at 9 rfl) ?_
  refine J_bipush 107 rfl ⟨by decide, by decide⟩ (D_X7_clear_1.at 10 rfl) ?_
  refine A_putI (jj := 14) 110 rfl fl_7_74 rfl rfl ob_23 (by decide) (D_X7_clear_1.at 11 rfl) ?_
  refine J_aload_n 111 rfl 0 1 rfl ⟨by decide, by decide⟩ (D_X7_clear_1.at 12 rfl) ?_
  refine J_iconst 112 rfl (D_X7_clear_1.at 13 rfl) ?_
  refine A_putI (jj := 15) 115 rfl fl_7_77 rfl rfl ob_23 (by decide) (D_X7_clear_1.at 14 rfl) ?_
  exact J_vret rfl (D_X7_clear_1.at 15 rfl) T
def U_X7_init_23 : List Up := (U_X7_clear_23 ++ ((0, 23, 10, 38) :: (U_X1_init_38 ++ ((2, 38, 1, 0) :: ((0, 23, 9, 36) :: (U_X1_init_36 ++ ((2, 36, 1, 0) :: ((0, 23, 8, 35) :: ((1, 35, 0, 0) :: ((0, 23, 7, 34) :: ((1, 34, 0, 0) :: ((0, 23, 6, 33) :: ((1, 33, 0, 0) :: ((0, 23, 5, 32) :: ((1, 32, 0, 0) :: ((0, 23, 4, 31) :: ((1, 31, 0, 0) :: ((0, 23, 3, 30) :: ((1, 30, 0, 0) :: ((0, 23, 2, 28) :: (U_X4_init_28 ++ ((2, 28, 4, 0) :: ((0, 23, 1, 26) :: (U_X4_init_26 ++ ((2, 26, 4, 0) :: ((0, 23, 0, 24) :: (U_X4_init_24 ++ ((2, 24, 4, 0) :: []))))))))))))))))))))))))))))
theorem kc_X7_init_23 {w : Wd} {h : Hp} {K : Int → Hp → Prop} (T : K 0 (ap U_X7_init_23 h)) : CGm w false m_X7_init 2 24 40 [vR 23] h K := by
  refine CGm_of2 (by decide) (by decide) trivial (by decide) ?_
  show JG w false m_X7_init 2 40 24 0 [(0, vR 23)] [] (ap [] h) K
  refine J_aload_n 1 rfl 0 0 rfl ⟨by decide, by decide⟩ (D_X7_init_0.at 0 rfl) ?_
  refine J_objI 4 rfl ml_7_3 ⟨by decide, Ob.lt ob_23⟩ rfl (by decide) (D_X7_init_0.at 1 rfl) ?_
  refine J_aload_n 5 rfl 0 0 rfl ⟨by decide, by decide⟩ (D_X7_init_0.at 2 rfl) ?_
  refine A_new (n2 := 25) (ov := 24) 8 rfl 4 rfl rfl rfl kl_4 df_4 cl_7_9 inst_4 ini_4 ob_24 (by decide) (by decide +kernel) (D_X7_init_0.at 3 rfl) ?_
  refine J_dup 9 rfl rfl (D_X7_init_0.at 4 rfl) ?_
  refine J_iconst 10 rfl (D_X7_init_0.at 5 rfl) ?_
  refine A_callI (M' := m_X4_init) (d' := 1) (n' := 26) (as := [vI 5]) (st := [vR 24, vR 23]) (o := 24) 13 rfl U_X4_init_24 ok_X4_init im_X4_init ⟨rfl, rfl⟩ ml_7_11 ob_24 rfl (by decide) ⟨by decide, by decide⟩ (by decide) (D_X7_init_0.at 6 rfl) (fun K1 T1 => kc_X4_init_24 T1) ?_
  refine A_putFR (jj := 0) (dd := 1001) 16 rfl (Or.inl ⟨_, rfl⟩) fl_7_14 ⟨isC_7, rfl⟩ rfl rfl (by decide) ⟨by decide, by decide⟩ ob_23 (by decide) (D_X7_init_0.at 7 rfl) ?_
  refine J_aload_n 17 rfl 0 0 rfl ⟨by decide, by decide⟩ (D_X7_init_0.at 8 rfl) ?_
  refine A_new (n2 := 27) (ov := 26) 20 rfl 4 rfl rfl rfl kl_4 df_4 cl_7_9 inst_4 ini_4 ob_26 (by decide) (by decide +kernel) (D_X7_init_0.at 9 rfl) ?_
  refine J_dup 21 rfl rfl (D_X7_init_0.at 10 rfl) ?_
  refine J_iconst 22 rfl (D_X7_init_0.at 11 rfl) ?_
  refine A_callI (M' := m_X4_init) (d' := 1) (n' := 28) (as := [vI 5]) (st := [vR 26, vR 23]) (o := 26) 25 rfl U_X4_init_26 ok_X4_init im_X4_init ⟨rfl, rfl⟩ ml_7_11 ob_26 rfl (by decide) ⟨by decide, by decide⟩ (by decide) (D_X7_init_0.at 12 rfl) (fun K1 T1 => kc_X4_init_26 T1) ?_
  refine A_putFR (jj := 1) (dd := 1003) 28 rfl (Or.inl ⟨_, rfl⟩) fl_7_20 ⟨isC_7, rfl⟩ rfl rfl (by decide) ⟨by decide, by decide⟩ ob_23 (by decide) (D_X7_init_0.at 13 rfl) ?_
  refine J_aload_n 29 rfl 0 0 rfl ⟨by decide, by decide⟩ (D_X7_init_0.at 14 rfl) ?_
  refine A_new (n2 := 29) (ov := 28) 32 rfl 4 rfl rfl rfl kl_4 df_4 cl_7_9 inst_4 ini_4 ob_28 (by decide) (by decide +kernel) (D_X7_init_0.at 15 rfl) ?_
  refine J_dup 33 rfl rfl (D_X7_init_0.at 16 rfl) ?_
  refine J_bipush 35 rfl ⟨by decide, by decide⟩ (D_X7_init_0.at 17 rfl) ?_
  refine A_callI (M' := m_X4_init) (d' := 1) (n' := 30) (as := [vI 10]) (st := [vR 28, vR 23]) (o := 28) 38 rfl U_X4_init_28 ok_X4_init im_X4_init ⟨rfl, rfl⟩ ml_7_11 ob_28 rfl (by decide) ⟨by decide, by decide⟩ (by decide) (D_X7_init_0.at 18 rfl) (fun K1 T1 => kc_X4_init_28 T1) ?_
  refine A_putFR (jj := 2) (dd := 1005) 41 rfl (Or.inl ⟨_, rfl⟩) fl_7_23 ⟨isC_7, rfl⟩ rfl rfl (by decide) ⟨by decide, by decide⟩ ob_23 (by decide) (D_X7_init_0.at 19 rfl) ?_
  refine J_aload_n 42 rfl 0 0 rfl ⟨by decide, by decide⟩ (D_X7_init_0.at 20 rfl) ?_
  refine J_bipush 44 rfl ⟨by decide, by decide⟩ (D_X7_init_0.at 21 rfl) ?_
  refine A_newarr (n2 := 31) (ov := 30) (at' := .int) (len := 8) (kd := 0) 46 rfl rfl rfl rfl (by decide) ac_0 rfl ar_30 (by decide) (by decide +kernel) (D_X7_init_0.at 22 rfl) ?_
  refine A_putFR (jj := 3) (dd := 1007) 49 rfl (Or.inr ⟨_, rfl⟩) fl_7_26 ⟨isC_7, rfl⟩ rfl rfl (by decide) ⟨by decide, by decide⟩ ob_23 (by decide) (D_X7_init_0.at 23 rfl) ?_
  refine J_aload_n 50 rfl 0 0 rfl ⟨by decide, by decide⟩ (D_X7_init_0.at 24 rfl) ?_
  refine J_bipush 52 rfl ⟨by decide, by decide⟩ (D_X7_init_0.at 25 rfl) ?_
  refine A_newarr (n2 := 32) (ov := 31) (at' := .int) (len := 10) (kd := 0) 54 rfl rfl rfl rfl (by decide) ac_0 rfl ar_31 (by decide) (by decide +kernel) (D_X7_init_0.at 26 rfl) ?_
  refine A_putFR (jj := 4) (dd := 1008) 57 rfl (Or.inr ⟨_, rfl⟩) fl_7_30 ⟨isC_7, rfl⟩ rfl rfl (by decide) ⟨by decide, by decide⟩ ob_23 (by decide) (D_X7_init_0.at 27 rfl) ?_
  refine J_aload_n 58 rfl 0 0 rfl ⟨by decide, by decide⟩ (D_X7_init_0.at 28 rfl) ?_
  refine J_bipush 60 rfl ⟨by decide, by decide⟩ (D_X7_init_0.at 29 rfl) ?_
  refine A_newarr (n2 := 33) (ov := 32) (at' := .int) (len := 10) (kd := 0) 62 rfl rfl rfl rfl (by decide) ac_0 rfl ar_32 (by decide) (by decide +kernel) (D_X7_init_0.at 30 rfl) ?_
  refine A_putFR (jj := 5) (dd := 1009) 65 rfl (Or.inr ⟨_, rfl⟩) fl_7_33 ⟨isC_7, rfl⟩ rfl rfl (by decide) ⟨by decide, by decide⟩ ob_23 (by decide) (D_X7_init_0.at 31 rfl) ?_
  refine J_aload_n 66 rfl 0 0 rfl ⟨by decide, by decide⟩ (D_X7_init_0.at 32 rfl) ?_
  refine J_bipush 68 rfl ⟨by decide, by decide⟩ (D_X7_init_0.at 33 rfl) ?_
  refine A_newarr (n2 := 34) (ov := 33) (at' := .int) (len := 10) (kd := 0) 70 rfl rfl rfl rfl (by decide) ac_0 rfl ar_33 (by decide) (by decide +kernel) (D_X7_init_0.at 34 rfl) ?_
  refine A_putFR (jj := 6) (dd := 1010) 73 rfl (Or.inr ⟨_, rfl⟩) fl_7_36 ⟨isC_7, rfl⟩ rfl rfl (by decide) ⟨by decide, by decide⟩ ob_23 (by decide) (D_X7_init_0.at 35 rfl) ?_
  refine J_aload_n 74 rfl 0 0 rfl ⟨by decide, by decide⟩ (D_X7_init_0.at 36 rfl) ?_
  refine J_bipush 76 rfl ⟨by decide, by decide⟩ (D_X7_init_0.at 37 rfl) ?_
  refine A_newarr (n2 := 35) (ov := 34) (at' := .int) (len := 10) (kd := 0) 78 rfl rfl rfl rfl (by decide) ac_0 rfl ar_34 (by decide) (by decide +kernel) (D_X7_init_0.at 38 rfl) ?_
  refine A_putFR (jj := 7) (dd := 1011) 81 rfl (Or.inr ⟨_, rfl⟩) fl_7_39 ⟨isC_7, rfl⟩ rfl rfl (by decide) ⟨by decide, by decide⟩ ob_23 (by decide) (D_X7_init_0.at 39 rfl) ?_
  refine J_aload_n 82 rfl 0 0 rfl ⟨by decide, by decide⟩ (D_X7_init_0.at 40 rfl) ?_
  refine J_bipush 84 rfl ⟨by decide, by decide⟩ (D_X7_init_0.at 41 rfl) ?_
  refine A_newarr (n2 := 36) (ov := 35) (at' := .int) (len := 10) (kd := 0) 86 rfl rfl rfl rfl (by decide) ac_0 rfl ar_35 (by decide) (by decide +kernel) (D_X7_init_0.at 42 rfl) ?_
  refine A_putFR (jj := 8) (dd := 1012) 89 rfl (Or.inr ⟨_, rfl⟩) fl_7_42 ⟨isC_7, rfl⟩ rfl rfl (by decide) ⟨by decide, by decide⟩ ob_23 (by decide) (D_X7_init_0.at 43 rfl) ?_
  refine J_aload_n 90 rfl 0 0 rfl ⟨by decide, by decide⟩ (D_X7_init_0.at 44 rfl) ?_
  refine A_new (n2 := 37) (ov := 36) 93 rfl 1 rfl rfl rfl kl_1 df_1 cl_7_45 inst_1 ini_1 ob_36 (by decide) (by decide +kernel) (D_X7_init_0.at 45 rfl) ?_
  refine J_dup 94 rfl rfl (D_X7_init_0.at 46 rfl) ?_
  refine A_callIN (M' := m_X1_init) (d' := 1) (n' := 38) (as := []) (st := [vR 36, vR 23]) (o := 36) 97 rfl U_X1_init_36 ok_X1_init im_X1_init ⟨rfl, rfl⟩ ml_7_47 ob_36 rfl (by decide) ⟨by decide, by decide⟩ (by decide) (D_X7_init_0.at 47 rfl) (fun K1 T1 => kc_X1_init_36 T1) ?_
  refine A_putFR (jj := 9) (dd := 1013) 100 rfl (Or.inl ⟨_, rfl⟩) fl_7_48 ⟨isC_7, rfl⟩ rfl rfl (by decide) ⟨by decide, by decide⟩ ob_23 (by decide) (D_X7_init_1.at 0 rfl) ?_
  refine J_aload_n 101 rfl 0 0 rfl ⟨by decide, by decide⟩ (D_X7_init_1.at 1 rfl) ?_
  refine A_new (n2 := 39) (ov := 38) 104 rfl 1 rfl rfl rfl kl_1 df_1 cl_7_45 inst_1 ini_1 ob_38 (by decide) (by decide +kernel) (D_X7_init_1.at 2 rfl) ?_
  refine J_dup 105 rfl rfl (D_X7_init_1.at 3 rfl) ?_
  refine A_callIN (M' := m_X1_init) (d' := 1) (n' := 40) (as := []) (st := [vR 38, vR 23]) (o := 38) 108 rfl U_X1_init_38 ok_X1_init im_X1_init ⟨rfl, rfl⟩ ml_7_47 ob_38 rfl (by decide) ⟨by decide, by decide⟩ (by decide) (D_X7_init_1.at 4 rfl) (fun K1 T1 => kc_X1_init_38 T1) ?_
  refine A_putFR (jj := 10) (dd := 1015) 111 rfl (Or.inl ⟨_, rfl⟩) fl_7_52 ⟨isC_7, rfl⟩ rfl rfl (by decide) ⟨by decide, by decide⟩ ob_23 (by decide) (D_X7_init_1.at 5 rfl) ?_
  refine J_aload_n 112 rfl 0 0 rfl ⟨by decide, by decide⟩ (D_X7_init_1.at 6 rfl) ?_
  refine A_callV (M' := m_X7_clear) (d' := 1) (as := []) (st := []) (o := 23) 115 rfl U_X7_clear_23 ok_X7_clear im_X7_clear se_X7_clear ml_7_55 isC_7 rfl ob_23 (by decide) rfl (by decide) (by decide) (by decide) (D_X7_init_1.at 7 rfl) (fun K1 T1 => kc_X7_clear_23 (ap_some (by decide +kernel)) (ap_some (by decide +kernel)) (ap_some (by decide +kernel)) (ap_some (by decide +kernel)) (ap_some (by decide +kernel)) (ap_some (by decide +kernel)) (ap_some (by decide +kernel)) T1) ?_
  exact J_vret rfl (D_X7_init_1.at 8 rfl) T
def U_X9_init_40 : List Up := ((0, 40, 3, 44) :: ((1, 44, 0, 0) :: ((0, 40, 2, 43) :: ((1, 43, 0, 0) :: ((0, 40, 1, 42) :: ((1, 42, 0, 0) :: ((0, 40, 0, 41) :: ((1, 41, 0, 0) :: []))))))))
theorem kc_X9_init_40 {w : Wd} {h : Hp} {K : Int → Hp → Prop} (T : K 0 (ap U_X9_init_40 h)) : CGm w false m_X9_init 1 41 45 [vR 40] h K := by
  refine CGm_of2 (by decide) (by decide) trivial (by decide) ?_
  show JG w false m_X9_init 1 45 41 0 [(0, vR 40)] [] (ap [] h) K
  refine J_aload_n 1 rfl 0 0 rfl ⟨by decide, by decide⟩ (D_X9_init_0.at 0 rfl) ?_
  refine J_objI 4 rfl ml_9_3 ⟨by decide, Ob.lt ob_40⟩ rfl (by decide) (D_X9_init_0.at 1 rfl) ?_
  refine J_aload_n 5 rfl 0 0 rfl ⟨by decide, by decide⟩ (D_X9_init_0.at 2 rfl) ?_
  refine J_bipush 7 rfl ⟨by decide, by decide⟩ (D_X9_init_0.at 3 rfl) ?_
  refine A_newarr (n2 := 42) (ov := 41) (at' := .int) (len := 8) (kd := 0) 9 rfl rfl rfl rfl (by decide) ac_0 rfl ar_41 (by decide) (by decide +kernel) (D_X9_init_0.at 4 rfl) ?_
  refine A_putFR (jj := 0) (dd := 1001) 12 rfl (Or.inr ⟨_, rfl⟩) fl_9_9 ⟨isC_9, rfl⟩ rfl rfl (by decide) ⟨by decide, by decide⟩ ob_40 (by decide) (D_X9_init_0.at 5 rfl) ?_
  refine J_aload_n 13 rfl 0 0 rfl ⟨by decide, by decide⟩ (D_X9_init_0.at 6 rfl) ?_
  refine J_bipush 15 rfl ⟨by decide, by decide⟩ (D_X9_init_0.at 7 rfl) ?_
  refine A_newarr (n2 := 43) (ov := 42) (at' := .int) (len := 80) (kd := 0) 17 rfl rfl rfl rfl (by decide) ac_0 rfl ar_42 (by decide) (by decide +kernel) (D_X9_init_0.at 8 rfl) ?_
  refine A_putFR (jj := 1) (dd := 1002) 20 rfl (Or.inr ⟨_, rfl⟩) fl_9_15 ⟨isC_9, rfl⟩ rfl rfl (by decide) ⟨by decide, by decide⟩ ob_40 (by decide) (D_X9_init_0.at 9 rfl) ?_
  refine J_aload_n 21 rfl 0 0 rfl ⟨by decide, by decide⟩ (D_X9_init_0.at 10 rfl) ?_
  refine J_bipush 23 rfl ⟨by decide, by decide⟩ (D_X9_init_0.at 11 rfl) ?_
  refine A_newarr (n2 := 44) (ov := 43) (at' := .int) (len := 10) (kd := 0) 25 rfl rfl rfl rfl (by decide) ac_0 rfl ar_43 (by decide) (by decide +kernel) (D_X9_init_0.at 12 rfl) ?_
  refine A_putFR (jj := 2) (dd := 1003) 28 rfl (Or.inr ⟨_, rfl⟩) fl_9_18 ⟨isC_9, rfl⟩ rfl rfl (by decide) ⟨by decide, by decide⟩ ob_40 (by decide) (D_X9_init_0.at 13 rfl) ?_
  refine J_aload_n 29 rfl 0 0 rfl ⟨by decide, by decide⟩ (D_X9_init_0.at 14 rfl) ?_
  refine J_bipush 31 rfl ⟨by decide, by decide⟩ (D_X9_init_0.at 15 rfl) ?_
  refine A_newarr (n2 := 45) (ov := 44) (at' := .int) (len := 10) (kd := 0) 33 rfl rfl rfl rfl (by decide) ac_0 rfl ar_44 (by decide) (by decide +kernel) (D_X9_init_0.at 16 rfl) ?_
  refine A_putFR (jj := 3) (dd := 1004) 36 rfl (Or.inr ⟨_, rfl⟩) fl_9_21 ⟨isC_9, rfl⟩ rfl rfl (by decide) ⟨by decide, by decide⟩ ob_40 (by decide) (D_X9_init_0.at 17 rfl) ?_
  exact J_vret rfl (D_X9_init_0.at 18 rfl) T
def U_X9_init_45 : List Up := ((0, 45, 3, 49) :: ((1, 49, 0, 0) :: ((0, 45, 2, 48) :: ((1, 48, 0, 0) :: ((0, 45, 1, 47) :: ((1, 47, 0, 0) :: ((0, 45, 0, 46) :: ((1, 46, 0, 0) :: []))))))))
theorem kc_X9_init_45 {w : Wd} {h : Hp} {K : Int → Hp → Prop} (T : K 0 (ap U_X9_init_45 h)) : CGm w false m_X9_init 1 46 50 [vR 45] h K := by
  refine CGm_of2 (by decide) (by decide) trivial (by decide) ?_
  show JG w false m_X9_init 1 50 46 0 [(0, vR 45)] [] (ap [] h) K
  refine J_aload_n 1 rfl 0 0 rfl ⟨by decide, by decide⟩ (D_X9_init_0.at 0 rfl) ?_
  refine J_objI 4 rfl ml_9_3 ⟨by decide, Ob.lt ob_45⟩ rfl (by decide) (D_X9_init_0.at 1 rfl) ?_
  refine J_aload_n 5 rfl 0 0 rfl ⟨by decide, by decide⟩ (D_X9_init_0.at 2 rfl) ?_
  refine J_bipush 7 rfl ⟨by decide, by decide⟩ (D_X9_init_0.at 3 rfl) ?_
  refine A_newarr (n2 := 47) (ov := 46) (at' := .int) (len := 8) (kd := 0) 9 rfl rfl rfl rfl (by decide) ac_0 rfl ar_46 (by decide) (by decide +kernel) (D_X9_init_0.at 4 rfl) ?_
  refine A_putFR (jj := 0) (dd := 1001) 12 rfl (Or.inr ⟨_, rfl⟩) fl_9_9 ⟨isC_9, rfl⟩ rfl rfl (by decide) ⟨by decide, by decide⟩ ob_45 (by decide) (D_X9_init_0.at 5 rfl) ?_
  refine J_aload_n 13 rfl 0 0 rfl ⟨by decide, by decide⟩ (D_X9_init_0.at 6 rfl) ?_
  refine J_bipush 15 rfl ⟨by decide, by decide⟩ (D_X9_init_0.at 7 rfl) ?_
  refine A_newarr (n2 := 48) (ov := 47) (at' := .int) (len := 80) (kd := 0) 17 rfl rfl rfl rfl (by decide) ac_0 rfl ar_47 (by decide) (by decide +kernel) (D_X9_init_0.at 8 rfl) ?_
  refine A_putFR (jj := 1) (dd := 1002) 20 rfl (Or.inr ⟨_, rfl⟩) fl_9_15 ⟨isC_9, rfl⟩ rfl rfl (by decide) ⟨by decide, by decide⟩ ob_45 (by decide) (D_X9_init_0.at 9 rfl) ?_
  refine J_aload_n 21 rfl 0 0 rfl ⟨by decide, by decide⟩ (D_X9_init_0.at 10 rfl) ?_
  refine J_bipush 23 rfl ⟨by decide, by decide⟩ (D_X9_init_0.at 11 rfl) ?_
  refine A_newarr (n2 := 49) (ov := 48) (at' := .int) (len := 10) (kd := 0) 25 rfl rfl rfl rfl (by decide) ac_0 rfl ar_48 (by decide) (by decide +kernel) (D_X9_init_0.at 12 rfl) ?_
  refine A_putFR (jj := 2) (dd := 1003) 28 rfl (Or.inr ⟨_, rfl⟩) fl_9_18 ⟨isC_9, rfl⟩ rfl rfl (by decide) ⟨by decide, by decide⟩ ob_45 (by decide) (D_X9_init_0.at 13 rfl) ?_
  refine J_aload_n 29 rfl 0 0 rfl ⟨by decide, by decide⟩ (D_X9_init_0.at 14 rfl) ?_
  refine J_bipush 31 rfl ⟨by decide, by decide⟩ (D_X9_init_0.at 15 rfl) ?_
  refine A_newarr (n2 := 50) (ov := 49) (at' := .int) (len := 10) (kd := 0) 33 rfl rfl rfl rfl (by decide) ac_0 rfl ar_49 (by decide) (by decide +kernel) (D_X9_init_0.at 16 rfl) ?_
  refine A_putFR (jj := 3) (dd := 1004) 36 rfl (Or.inr ⟨_, rfl⟩) fl_9_21 ⟨isC_9, rfl⟩ rfl rfl (by decide) ⟨by decide, by decide⟩ ob_45 (by decide) (D_X9_init_0.at 17 rfl) ?_
  exact J_vret rfl (D_X9_init_0.at 18 rfl) T
def U_X5_init_50 : List Up := ((0, 50, 0, 51) :: ((1, 51, 0, 0) :: []))
theorem kc_X5_init_50 {w : Wd} {h : Hp} {K : Int → Hp → Prop} (T : K 0 (ap U_X5_init_50 h)) : CGm w false m_X5_init 1 51 52 [vR 50] h K := by
  refine CGm_of2 (by decide) (by decide) trivial (by decide) ?_
  show JG w false m_X5_init 1 52 51 0 [(0, vR 50)] [] (ap [] h) K
  refine J_aload_n 1 rfl 0 0 rfl ⟨by decide, by decide⟩ (D_X5_init_0.at 0 rfl) ?_
  refine J_objI 4 rfl ml_5_3 ⟨by decide, Ob.lt ob_50⟩ rfl (by decide) (D_X5_init_0.at 1 rfl) ?_
  refine J_aload_n 5 rfl 0 0 rfl ⟨by decide, by decide⟩ (D_X5_init_0.at 2 rfl) ?_
  refine J_sipush 8 rfl ⟨by decide, by decide⟩ (D_X5_init_0.at 3 rfl) ?_
  refine A_newarr (n2 := 52) (ov := 51) (at' := .int) (len := 2180) (kd := 0) 10 rfl rfl rfl rfl (by decide) ac_0 rfl ar_51 (by decide) (by decide +kernel) (D_X5_init_0.at 4 rfl) ?_
  refine A_putFR (jj := 0) (dd := 1001) 13 rfl (Or.inr ⟨_, rfl⟩) fl_5_11 ⟨isC_5, rfl⟩ rfl rfl (by decide) ⟨by decide, by decide⟩ ob_50 (by decide) (D_X5_init_0.at 5 rfl) ?_
  exact J_vret rfl (D_X5_init_0.at 6 rfl) T
def U_X6_init_52 : List Up := ((0, 52, 3, 56) :: ((1, 56, 0, 0) :: ((0, 52, 2, 55) :: ((1, 55, 0, 0) :: ((0, 52, 1, 54) :: ((1, 54, 0, 0) :: ((0, 52, 0, 53) :: ((1, 53, 0, 0) :: []))))))))
theorem kc_X6_init_52 {w : Wd} {h : Hp} {K : Int → Hp → Prop} (T : K 0 (ap U_X6_init_52 h)) : CGm w false m_X6_init 1 53 57 [vR 52] h K := by
  refine CGm_of2 (by decide) (by decide) trivial (by decide) ?_
  show JG w false m_X6_init 1 57 53 0 [(0, vR 52)] [] (ap [] h) K
  refine J_aload_n 1 rfl 0 0 rfl ⟨by decide, by decide⟩ (D_X6_init_0.at 0 rfl) ?_
  refine J_objI 4 rfl ml_6_3 ⟨by decide, Ob.lt ob_52⟩ rfl (by decide) (D_X6_init_0.at 1 rfl) ?_
  refine J_aload_n 5 rfl 0 0 rfl ⟨by decide, by decide⟩ (D_X6_init_0.at 2 rfl) ?_
  refine J_bipush 7 rfl ⟨by decide, by decide⟩ (D_X6_init_0.at 3 rfl) ?_
  refine A_newarr (n2 := 54) (ov := 53) (at' := .int) (len := 64) (kd := 0) 9 rfl rfl rfl rfl (by decide) ac_0 rfl ar_53 (by decide) (by decide +kernel) (D_X6_init_0.at 4 rfl) ?_
  refine A_putFR (jj := 0) (dd := 1001) 12 rfl (Or.inr ⟨_, rfl⟩) fl_6_9 ⟨isC_6, rfl⟩ rfl rfl (by decide) ⟨by decide, by decide⟩ ob_52 (by decide) (D_X6_init_0.at 5 rfl) ?_
  refine J_aload_n 13 rfl 0 0 rfl ⟨by decide, by decide⟩ (D_X6_init_0.at 6 rfl) ?_
  refine J_bipush 15 rfl ⟨by decide, by decide⟩ (D_X6_init_0.at 7 rfl) ?_
  refine A_newarr (n2 := 55) (ov := 54) (at' := .int) (len := 9) (kd := 0) 17 rfl rfl rfl rfl (by decide) ac_0 rfl ar_54 (by decide) (by decide +kernel) (D_X6_init_0.at 8 rfl) ?_
  refine A_putFR (jj := 1) (dd := 1002) 20 rfl (Or.inr ⟨_, rfl⟩) fl_6_15 ⟨isC_6, rfl⟩ rfl rfl (by decide) ⟨by decide, by decide⟩ ob_52 (by decide) (D_X6_init_0.at 9 rfl) ?_
  refine J_aload_n 21 rfl 0 0 rfl ⟨by decide, by decide⟩ (D_X6_init_0.at 10 rfl) ?_
  refine J_bipush 23 rfl ⟨by decide, by decide⟩ (D_X6_init_0.at 11 rfl) ?_
  refine A_newarr (n2 := 56) (ov := 55) (at' := .int) (len := 8) (kd := 0) 25 rfl rfl rfl rfl (by decide) ac_0 rfl ar_55 (by decide) (by decide +kernel) (D_X6_init_0.at 12 rfl) ?_
  refine A_putFR (jj := 2) (dd := 1003) 28 rfl (Or.inr ⟨_, rfl⟩) fl_6_18 ⟨isC_6, rfl⟩ rfl rfl (by decide) ⟨by decide, by decide⟩ ob_52 (by decide) (D_X6_init_0.at 13 rfl) ?_
  refine J_aload_n 29 rfl 0 0 rfl ⟨by decide, by decide⟩ (D_X6_init_0.at 14 rfl) ?_
  refine J_bipush 31 rfl ⟨by decide, by decide⟩ (D_X6_init_0.at 15 rfl) ?_
  refine A_newarr (n2 := 57) (ov := 56) (at' := .int) (len := 10) (kd := 0) 33 rfl rfl rfl rfl (by decide) ac_0 rfl ar_56 (by decide) (by decide +kernel) (D_X6_init_0.at 16 rfl) ?_
  refine A_putFR (jj := 3) (dd := 1004) 36 rfl (Or.inr ⟨_, rfl⟩) fl_6_21 ⟨isC_6, rfl⟩ rfl rfl (by decide) ⟨by decide, by decide⟩ ob_52 (by decide) (D_X6_init_0.at 17 rfl) ?_
  exact J_vret rfl (D_X6_init_0.at 18 rfl) T
def U_X8_init_60 : List Up := ((0, 60, 2, 23) :: ((0, 60, 1, 5) :: ((0, 60, 0, 1) :: [])))
theorem kc_X8_init_60 {w : Wd} {h : Hp} {K : Int → Hp → Prop} (T : K 0 (ap U_X8_init_60 h)) : CGm w false m_X8_init 1 61 61 [vR 60, vR 1, vR 5, vR 23] h K := by
  refine CGm_of2 (by decide) (by decide) trivial (by decide) ?_
  show JG w false m_X8_init 1 61 61 0 [(0, vR 60), (1, vR 1), (2, vR 5), (3, vR 23)] [] (ap [] h) K
  refine J_aload_n 1 rfl 0 0 rfl ⟨by decide, by decide⟩ (D_X8_init_0.at 0 rfl) ?_
  refine J_objI 4 rfl ml_8_3 ⟨by decide, Ob.lt ob_60⟩ rfl (by decide) (D_X8_init_0.at 1 rfl) ?_
  refine J_aload_n 5 rfl 0 0 rfl ⟨by decide, by decide⟩ (D_X8_init_0.at 2 rfl) ?_
  refine J_aload_n 6 rfl 1 1 rfl ⟨by decide, by decide⟩ (D_X8_init_0.at 3 rfl) ?_
  refine A_putFR (jj := 0) (dd := 941) 9 rfl (Or.inl ⟨_, rfl⟩) fl_8_9 ⟨isC_8, rfl⟩ rfl rfl (by decide) ⟨by decide, by decide⟩ ob_60 (by decide) (D_X8_init_0.at 4 rfl) ?_
  refine J_aload_n 10 rfl 0 0 rfl ⟨by decide, by decide⟩ (D_X8_init_0.at 5 rfl) ?_
  refine J_aload_n 11 rfl 2 2 rfl ⟨by decide, by decide⟩ (D_X8_init_0.at 6 rfl) ?_
  refine A_putFR (jj := 1) (dd := 945) 14 rfl (Or.inl ⟨_, rfl⟩) fl_8_15 ⟨isC_8, rfl⟩ rfl rfl (by decide) ⟨by decide, by decide⟩ ob_60 (by decide) (D_X8_init_0.at 7 rfl) ?_
  refine J_aload_n 15 rfl 0 0 rfl ⟨by decide, by decide⟩ (D_X8_init_0.at 8 rfl) ?_
  refine J_aload_n 16 rfl 3 3 rfl ⟨by decide, by decide⟩ (D_X8_init_0.at 9 rfl) ?_
  refine A_putR (jj := 2) 19 rfl fl_8_19 rfl rfl ⟨by decide, by decide⟩ ob_60 (by decide) (D_X8_init_0.at 10 rfl) ?_
  exact J_vret rfl (D_X8_init_0.at 11 rfl) T
def U_X0_init_61 : List Up := ((0, 61, 6, 40) :: ((0, 61, 5, 6) :: ((0, 61, 0, 52) :: ((0, 61, 4, 65) :: ((1, 65, 0, 0) :: ((0, 61, 3, 64) :: ((1, 64, 0, 0) :: ((0, 61, 2, 63) :: ((1, 63, 0, 0) :: ((0, 61, 1, 62) :: ((1, 62, 0, 0) :: [])))))))))))
theorem kc_X0_init_61 {w : Wd} {h : Hp} {K : Int → Hp → Prop} (T : K 0 (ap U_X0_init_61 h)) : CGm w false m_X0_init 1 62 66 [vR 61, vR 52, vR 6, vR 40] h K := by
  refine CGm_of2 (by decide) (by decide) trivial (by decide) ?_
  show JG w false m_X0_init 1 66 62 0 [(0, vR 61), (1, vR 52), (2, vR 6), (3, vR 40)] [] (ap [] h) K
  refine J_aload_n 1 rfl 0 0 rfl ⟨by decide, by decide⟩ (D_X0_init_0.at 0 rfl) ?_
  refine J_objI 4 rfl ml_0_3 ⟨by decide, Ob.lt ob_61⟩ rfl (by decide) (D_X0_init_0.at 1 rfl) ?_
  refine J_aload_n 5 rfl 0 0 rfl ⟨by decide, by decide⟩ (D_X0_init_0.at 2 rfl) ?_
  refine J_bipush 7 rfl ⟨by decide, by decide⟩ (D_X0_init_0.at 3 rfl) ?_
  refine A_newarr (n2 := 63) (ov := 62) (at' := .int) (len := 8) (kd := 0) 9 rfl rfl rfl rfl (by decide) ac_0 rfl ar_62 (by decide) (by decide +kernel) (D_X0_init_0.at 4 rfl) ?_
  refine A_putFR (jj := 1) (dd := 1001) 12 rfl (Or.inr ⟨_, rfl⟩) fl_0_9 ⟨isC_0, rfl⟩ rfl rfl (by decide) ⟨by decide, by decide⟩ ob_61 (by decide) (D_X0_init_0.at 5 rfl) ?_
  refine J_aload_n 13 rfl 0 0 rfl ⟨by decide, by decide⟩ (D_X0_init_0.at 6 rfl) ?_
  refine J_bipush 15 rfl ⟨by decide, by decide⟩ (D_X0_init_0.at 7 rfl) ?_
  refine A_newarr (n2 := 64) (ov := 63) (at' := .int) (len := 10) (kd := 0) 17 rfl rfl rfl rfl (by decide) ac_0 rfl ar_63 (by decide) (by decide +kernel) (D_X0_init_0.at 8 rfl) ?_
  refine A_putFR (jj := 2) (dd := 1002) 20 rfl (Or.inr ⟨_, rfl⟩) fl_0_15 ⟨isC_0, rfl⟩ rfl rfl (by decide) ⟨by decide, by decide⟩ ob_61 (by decide) (D_X0_init_0.at 9 rfl) ?_
  refine J_aload_n 21 rfl 0 0 rfl ⟨by decide, by decide⟩ (D_X0_init_0.at 10 rfl) ?_
  refine J_bipush 23 rfl ⟨by decide, by decide⟩ (D_X0_init_0.at 11 rfl) ?_
  refine A_newarr (n2 := 65) (ov := 64) (at' := .int) (len := 80) (kd := 0) 25 rfl rfl rfl rfl (by decide) ac_0 rfl ar_64 (by decide) (by decide +kernel) (D_X0_init_0.at 12 rfl) ?_
  refine A_putFR (jj := 3) (dd := 1003) 28 rfl (Or.inr ⟨_, rfl⟩) fl_0_18 ⟨isC_0, rfl⟩ rfl rfl (by decide) ⟨by decide, by decide⟩ ob_61 (by decide) (D_X0_init_0.at 13 rfl) ?_
  refine J_aload_n 29 rfl 0 0 rfl ⟨by decide, by decide⟩ (D_X0_init_0.at 14 rfl) ?_
  refine J_bipush 31 rfl ⟨by decide, by decide⟩ (D_X0_init_0.at 15 rfl) ?_
  refine A_newarr (n2 := 66) (ov := 65) (at' := .int) (len := 80) (kd := 0) 33 rfl rfl rfl rfl (by decide) ac_0 rfl ar_65 (by decide) (by decide +kernel) (D_X0_init_0.at 16 rfl) ?_
  refine A_putFR (jj := 4) (dd := 1004) 36 rfl (Or.inr ⟨_, rfl⟩) fl_0_21 ⟨isC_0, rfl⟩ rfl rfl (by decide) ⟨by decide, by decide⟩ ob_61 (by decide) (D_X0_init_0.at 17 rfl) ?_
  refine J_aload_n 37 rfl 0 0 rfl ⟨by decide, by decide⟩ (D_X0_init_0.at 18 rfl) ?_
  refine J_aload_n 38 rfl 1 1 rfl ⟨by decide, by decide⟩ (D_X0_init_0.at 19 rfl) ?_
  refine A_putFR (jj := 0) (dd := 991) 41 rfl (Or.inl ⟨_, rfl⟩) fl_0_24 ⟨isC_0, rfl⟩ rfl rfl (by decide) ⟨by decide, by decide⟩ ob_61 (by decide) (D_X0_init_0.at 20 rfl) ?_
  refine J_aload_n 42 rfl 0 0 rfl ⟨by decide, by decide⟩ (D_X0_init_0.at 21 rfl) ?_
  refine J_aload_n 43 rfl 2 2 rfl ⟨by decide, by decide⟩ (D_X0_init_0.at 22 rfl) ?_
  refine A_putR (jj := 5) 46 rfl fl_0_28 rfl rfl ⟨by decide, by decide⟩ ob_61 (by decide) (D_X0_init_0.at 23 rfl) ?_
  refine J_aload_n 47 rfl 0 0 rfl ⟨by decide, by decide⟩ (D_X0_init_0.at 24 rfl) ?_
  refine J_aload_n 48 rfl 3 3 rfl ⟨by decide, by decide⟩ (D_X0_init_0.at 25 rfl) ?_
  refine A_putR (jj := 6) 51 rfl fl_0_32 rfl rfl ⟨by decide, by decide⟩ ob_61 (by decide) (D_X0_init_0.at 26 rfl) ?_
  exact J_vret rfl (D_X0_init_0.at 27 rfl) T
def U_X3_init_66 : List Up := ((0, 66, 0, 61) :: ((0, 66, 2, (-1)) :: ((0, 66, 1, 67) :: ((1, 67, 0, 0) :: []))))
theorem kc_X3_init_66 {w : Wd} {h : Hp} {K : Int → Hp → Prop} (T : K 0 (ap U_X3_init_66 h)) : CGm w false m_X3_init 1 67 68 [vR 66, vR 61] h K := by
  refine CGm_of2 (by decide) (by decide) trivial (by decide) ?_
  show JG w false m_X3_init 1 68 67 0 [(0, vR 66), (1, vR 61)] [] (ap [] h) K
  refine J_aload_n 1 rfl 0 0 rfl ⟨by decide, by decide⟩ (D_X3_init_0.at 0 rfl) ?_
  refine J_objI 4 rfl ml_3_3 ⟨by decide, Ob.lt ob_66⟩ rfl (by decide) (D_X3_init_0.at 1 rfl) ?_
  refine J_aload_n 5 rfl 0 0 rfl ⟨by decide, by decide⟩ (D_X3_init_0.at 2 rfl) ?_
  refine J_bipush 7 rfl ⟨by decide, by decide⟩ (D_X3_init_0.at 3 rfl) ?_
  refine A_newarr (n2 := 68) (ov := 67) (at' := .int) (len := 8) (kd := 0) 9 rfl rfl rfl rfl (by decide) ac_0 rfl ar_67 (by decide) (by decide +kernel) (D_X3_init_0.at 4 rfl) ?_
  refine A_putFR (jj := 1) (dd := 1001) 12 rfl (Or.inr ⟨_, rfl⟩) fl_3_9 ⟨isC_3, rfl⟩ rfl rfl (by decide) ⟨by decide, by decide⟩ ob_66 (by decide) (D_X3_init_0.at 5 rfl) ?_
  refine J_aload_n 13 rfl 0 0 rfl ⟨by decide, by decide⟩ (D_X3_init_0.at 6 rfl) ?_
  refine J_iconst 14 rfl (D_X3_init_0.at 7 rfl) ?_
  refine A_putI (jj := 2) 17 rfl fl_3_15 rfl rfl ob_66 (by decide) (D_X3_init_0.at 8 rfl) ?_
  refine J_aload_n 18 rfl 0 0 rfl ⟨by decide, by decide⟩ (D_X3_init_0.at 9 rfl) ?_
  refine J_aload_n 19 rfl 1 1 rfl ⟨by decide, by decide⟩ (D_X3_init_0.at 10 rfl) ?_
  refine A_putFR (jj := 0) (dd := 995) 22 rfl (Or.inl ⟨_, rfl⟩) fl_3_19 ⟨isC_3, rfl⟩ rfl rfl (by decide) ⟨by decide, by decide⟩ ob_66 (by decide) (D_X3_init_0.at 11 rfl) ?_
  exact J_vret rfl (D_X3_init_0.at 12 rfl) T
def U_X11_init_0 : List Up := ((0, 0, 11, 66) :: (U_X3_init_66 ++ ((2, 66, 3, 0) :: ((0, 0, 10, 61) :: (U_X0_init_61 ++ ((2, 61, 0, 0) :: ((0, 0, 3, 60) :: (U_X8_init_60 ++ ((2, 60, 8, 0) :: ((0, 0, 19, (-1)) :: ((0, 0, 17, 1) :: ((0, 0, 14, 59) :: ((1, 59, 0, 0) :: ((0, 0, 13, 58) :: ((1, 58, 0, 0) :: ((0, 0, 12, 57) :: ((1, 57, 0, 0) :: ((0, 0, 9, 52) :: (U_X6_init_52 ++ ((2, 52, 6, 0) :: ((0, 0, 8, 50) :: (U_X5_init_50 ++ ((2, 50, 5, 0) :: ((0, 0, 7, 45) :: (U_X9_init_45 ++ ((2, 45, 9, 0) :: ((0, 0, 6, 40) :: (U_X9_init_40 ++ ((2, 40, 9, 0) :: ((0, 0, 5, 23) :: (U_X7_init_23 ++ ((2, 23, 7, 0) :: ((0, 0, 4, 6) :: (U_X7_init_6 ++ ((2, 6, 7, 0) :: ((0, 0, 2, 5) :: (U_X2_init_5 ++ ((2, 5, 2, 0) :: ((0, 0, 1, 3) :: (U_X1_init_3 ++ ((2, 3, 1, 0) :: ((0, 0, 0, 1) :: (U_X10_init_1 ++ ((2, 1, 10, 0) :: []))))))))))))))))))))))))))))))))))))))))))))
theorem kc_X11_init_0 {w : Wd} {h : Hp} {K : Int → Hp → Prop} (T : K 0 (ap U_X11_init_0 h)) : CGm w false m_X11_init 3 1 68 [vR 0] h K := by
  refine CGm_of2 (by decide) (by decide) trivial (by decide) ?_
  show JG w false m_X11_init 3 68 1 0 [(0, vR 0)] [] (ap [] h) K
  refine J_aload_n 1 rfl 0 0 rfl ⟨by decide, by decide⟩ (D_X11_init_0.at 0 rfl) ?_
  refine J_objI 4 rfl ml_11_3 ⟨by decide, Ob.lt ob_0⟩ rfl (by decide) (D_X11_init_0.at 1 rfl) ?_
  refine J_aload_n 5 rfl 0 0 rfl ⟨by decide, by decide⟩ (D_X11_init_0.at 2 rfl) ?_
  refine A_new (n2 := 2) (ov := 1) 8 rfl 10 rfl rfl rfl kl_10 df_10 cl_11_9 inst_10 ini_10 ob_1 (by decide) (by decide +kernel) (D_X11_init_0.at 3 rfl) ?_
  refine J_dup 9 rfl rfl (D_X11_init_0.at 4 rfl) ?_
  refine A_callIN (M' := m_X10_init) (d' := 1) (n' := 3) (as := []) (st := [vR 1, vR 0]) (o := 1) 12 rfl U_X10_init_1 ok_X10_init im_X10_init ⟨rfl, rfl⟩ ml_11_11 ob_1 rfl (by decide) ⟨by decide, by decide⟩ (by decide) (D_X11_init_0.at 5 rfl) (fun K1 T1 => kc_X10_init_1 T1) ?_
  refine A_putFR (jj := 0) (dd := 1001) 15 rfl (Or.inl ⟨_, rfl⟩) fl_11_12 ⟨isC_11, rfl⟩ rfl rfl (by decide) ⟨by decide, by decide⟩ ob_0 (by decide) (D_X11_init_0.at 6 rfl) ?_
  refine J_aload_n 16 rfl 0 0 rfl ⟨by decide, by decide⟩ (D_X11_init_0.at 7 rfl) ?_
  refine A_new (n2 := 4) (ov := 3) 19 rfl 1 rfl rfl rfl kl_1 df_1 cl_11_16 inst_1 ini_1 ob_3 (by decide) (by decide +kernel) (D_X11_init_0.at 8 rfl) ?_
  refine J_dup 20 rfl rfl (D_X11_init_0.at 9 rfl) ?_
  refine A_callIN (M' := m_X1_init) (d' := 1) (n' := 5) (as := []) (st := [vR 3, vR 0]) (o := 3) 23 rfl U_X1_init_3 ok_X1_init im_X1_init ⟨rfl, rfl⟩ ml_11_18 ob_3 rfl (by decide) ⟨by decide, by decide⟩ (by decide) (D_X11_init_0.at 10 rfl) (fun K1 T1 => kc_X1_init_3 T1) ?_
  refine A_putFR (jj := 1) (dd := 1003) 26 rfl (Or.inl ⟨_, rfl⟩) fl_11_19 ⟨isC_11, rfl⟩ rfl rfl (by decide) ⟨by decide, by decide⟩ ob_0 (by decide) (D_X11_init_0.at 11 rfl) ?_
  refine J_aload_n 27 rfl 0 0 rfl ⟨by decide, by decide⟩ (D_X11_init_0.at 12 rfl) ?_
  refine A_new (n2 := 6) (ov := 5) 30 rfl 2 rfl rfl rfl kl_2 df_2 cl_11_23 inst_2 ini_2 ob_5 (by decide) (by decide +kernel) (D_X11_init_0.at 13 rfl) ?_
  refine J_dup 31 rfl rfl (D_X11_init_0.at 14 rfl) ?_
  refine J_aload_n 32 rfl 0 0 rfl ⟨by decide, by decide⟩ (D_X11_init_0.at 15 rfl) ?_
  refine J_getFc (dd := 1001) (z := 1) 35 rfl fl_11_12 rfl (by decide) ob_0 (by decide) (D_X11_init_0.at 16 rfl) (ap_some (by decide +kernel)) ?_
  refine J_aload_n 36 rfl 0 0 rfl ⟨by decide, by decide⟩ (D_X11_init_0.at 17 rfl) ?_
  refine J_getFc (dd := 1003) (z := 3) 39 rfl fl_11_19 rfl (by decide) ob_0 (by decide) (D_X11_init_0.at 18 rfl) (ap_some (by decide +kernel)) ?_
  refine A_callI (M' := m_X2_init) (d' := 1) (n' := 6) (as := [vR 1, vR 3]) (st := [vR 5, vR 0]) (o := 5) 42 rfl U_X2_init_5 ok_X2_init im_X2_init ⟨rfl, rfl⟩ ml_11_25 ob_5 rfl (by decide) ⟨by decide, by decide⟩ (by decide) (D_X11_init_0.at 19 rfl) (fun K1 T1 => kc_X2_init_5 T1) ?_
  refine A_putFR (jj := 2) (dd := 1005) 45 rfl (Or.inl ⟨_, rfl⟩) fl_11_28 ⟨isC_11, rfl⟩ rfl rfl (by decide) ⟨by decide, by decide⟩ ob_0 (by decide) (D_X11_init_0.at 20 rfl) ?_
  refine J_aload_n 46 rfl 0 0 rfl ⟨by decide, by decide⟩ (D_X11_init_0.at 21 rfl) ?_
  refine A_new (n2 := 7) (ov := 6) 49 rfl 7 rfl rfl rfl kl_7 df_7 cl_11_32 inst_7 ini_7 ob_6 (by decide) (by decide +kernel) (D_X11_init_0.at 22 rfl) ?_
  refine J_dup 50 rfl rfl (D_X11_init_0.at 23 rfl) ?_
  refine A_callI (M' := m_X7_init) (d' := 2) (n' := 23) (as := []) (st := [vR 6, vR 0]) (o := 6) 53 rfl U_X7_init_6 ok_X7_init im_X7_init ⟨rfl, rfl⟩ ml_11_34 ob_6 rfl (by decide) ⟨by decide, by decide⟩ (by decide) (D_X11_init_0.at 24 rfl) (fun K1 T1 => kc_X7_init_6 T1) ?_
  refine A_putR (jj := 4) 56 rfl fl_11_35 rfl rfl ⟨by decide, by decide⟩ ob_0 (by decide) (D_X11_init_0.at 25 rfl) ?_
  refine J_aload_n 57 rfl 0 0 rfl ⟨by decide, by decide⟩ (D_X11_init_0.at 26 rfl) ?_
  refine A_new (n2 := 24) (ov := 23) 60 rfl 7 rfl rfl rfl kl_7 df_7 cl_11_32 inst_7 ini_7 ob_23 (by decide) (by decide +kernel) (D_X11_init_0.at 27 rfl) ?_
  refine J_dup 61 rfl rfl (D_X11_init_0.at 28 rfl) ?_
  refine A_callI (M' := m_X7_init) (d' := 2) (n' := 40) (as := []) (st := [vR 23, vR 0]) (o := 23) 64 rfl U_X7_init_23 ok_X7_init im_X7_init ⟨rfl, rfl⟩ ml_11_34 ob_23 rfl (by decide) ⟨by decide, by decide⟩ (by decide) (D_X11_init_0.at 29 rfl) (fun K1 T1 => kc_X7_init_23 T1) ?_
  refine A_putR (jj := 5) 67 rfl fl_11_39 rfl rfl ⟨by decide, by decide⟩ ob_0 (by decide) (D_X11_init_0.at 30 rfl) ?_
  refine J_aload_n 68 rfl 0 0 rfl ⟨by decide, by decide⟩ (D_X11_init_0.at 31 rfl) ?_
  refine A_new (n2 := 41) (ov := 40) 71 rfl 9 rfl rfl rfl kl_9 df_9 cl_11_42 inst_9 ini_9 ob_40 (by decide) (by decide +kernel) (D_X11_init_0.at 32 rfl) ?_
  refine J_dup 72 rfl rfl (D_X11_init_0.at 33 rfl) ?_
  refine A_callIN (M' := m_X9_init) (d' := 1) (n' := 45) (as := []) (st := [vR 40, vR 0]) (o := 40) 75 rfl U_X9_init_40 ok_X9_init im_X9_init ⟨rfl, rfl⟩ ml_11_44 ob_40 rfl (by decide) ⟨by decide, by decide⟩ (by decide) (D_X11_init_0.at 34 rfl) (fun K1 T1 => kc_X9_init_40 T1) ?_
  refine A_putFR (jj := 6) (dd := 1040) 78 rfl (Or.inl ⟨_, rfl⟩) fl_11_45 ⟨isC_11, rfl⟩ rfl rfl (by decide) ⟨by decide, by decide⟩ ob_0 (by decide) (D_X11_init_0.at 35 rfl) ?_
  refine J_aload_n 79 rfl 0 0 rfl ⟨by decide, by decide⟩ (D_X11_init_0.at 36 rfl) ?_
  refine A_new (n2 := 46) (ov := 45) 82 rfl 9 rfl rfl rfl kl_9 df_9 cl_11_42 inst_9 ini_9 ob_45 (by decide) (by decide +kernel) (D_X11_init_0.at 37 rfl) ?_
  refine J_dup 83 rfl rfl (D_X11_init_0.at 38 rfl) ?_
  refine A_callIN (M' := m_X9_init) (d' := 1) (n' := 50) (as := []) (st := [vR 45, vR 0]) (o := 45) 86 rfl U_X9_init_45 ok_X9_init im_X9_init ⟨rfl, rfl⟩ ml_11_44 ob_45 rfl (by decide) ⟨by decide, by decide⟩ (by decide) (D_X11_init_0.at 39 rfl) (fun K1 T1 => kc_X9_init_45 T1) ?_
  refine A_putFR (jj := 7) (dd := 1045) 89 rfl (Or.inl ⟨_, rfl⟩) fl_11_49 ⟨isC_11, rfl⟩ rfl rfl (by decide) ⟨by decide, by decide⟩ ob_0 (by decide) (D_X11_init_0.at 40 rfl) ?_
  refine J_aload_n 90 rfl 0 0 rfl ⟨by decide, by decide⟩ (D_X11_init_0.at 41 rfl) ?_
  refine A_new (n2 := 51) (ov := 50) 93 rfl 5 rfl rfl rfl kl_5 df_5 cl_11_52 inst_5 ini_5 ob_50 (by decide) (by decide +kernel) (D_X11_init_0.at 42 rfl) ?_
  refine J_dup 94 rfl rfl (D_X11_init_0.at 43 rfl) ?_
  refine A_callIN (M' := m_X5_init) (d' := 1) (n' := 52) (as := []) (st := [vR 50, vR 0]) (o := 50) 97 rfl U_X5_init_50 ok_X5_init im_X5_init ⟨rfl, rfl⟩ ml_11_54 ob_50 rfl (by decide) ⟨by decide, by decide⟩ (by decide) (D_X11_init_0.at 44 rfl) (fun K1 T1 => kc_X5_init_50 T1) ?_
  refine A_putFR (jj := 8) (dd := 1050) 100 rfl (Or.inl ⟨_, rfl⟩) fl_11_55 ⟨isC_11, rfl⟩ rfl rfl (by decide) ⟨by decide, by decide⟩ ob_0 (by decide) (D_X11_init_0.at 45 rfl) ?_
  refine J_aload_n 101 rfl 0 0 rfl ⟨by decide, by decide⟩ (D_X11_init_0.at 46 rfl) ?_
  refine A_new (n2 := 53) (ov := 52) 104 rfl 6 rfl rfl rfl kl_6 df_6 cl_11_59 inst_6 ini_6 ob_52 (by decide) (by decide +kernel) (D_X11_init_0.at 47 rfl) ?_
  refine J_dup 105 rfl rfl (D_X11_init_1.at 0 rfl) ?_
  refine A_callIN (M' := m_X6_init) (d' := 1) (n' := 57) (as := []) (st := [vR 52, vR 0]) (o := 52) 108 rfl U_X6_init_52 ok_X6_init im_X6_init ⟨rfl, rfl⟩ ml_11_61 ob_52 rfl (by decide) ⟨by decide, by decide⟩ (by decide) (D_X11_init_1.at 1 rfl) (fun K1 T1 => kc_X6_init_52 T1) ?_
  refine A_putFR (jj := 9) (dd := 1052) 111 rfl (Or.inl ⟨_, rfl⟩) fl_11_62 ⟨isC_11, rfl⟩ rfl rfl (by decide) ⟨by decide, by decide⟩ ob_0 (by decide) (D_X11_init_1.at 2 rfl) ?_
  refine J_aload_n 112 rfl 0 0 rfl ⟨by decide, by decide⟩ (D_X11_init_1.at 3 rfl) ?_
  refine J_bipush 114 rfl ⟨by decide, by decide⟩ (D_X11_init_1.at 4 rfl) ?_
  refine A_newarr (n2 := 58) (ov := 57) (at' := .int) (len := 8) (kd := 0) 116 rfl rfl rfl rfl (by decide) ac_0 rfl ar_57 (by decide) (by decide +kernel) (D_X11_init_1.at 5 rfl) ?_
  refine A_putFR (jj := 12) (dd := 1057) 119 rfl (Or.inr ⟨_, rfl⟩) fl_11_66 ⟨isC_11, rfl⟩ rfl rfl (by decide) ⟨by decide, by decide⟩ ob_0 (by decide) (D_X11_init_1.at 6 rfl) ?_
  refine J_aload_n 120 rfl 0 0 rfl ⟨by decide, by decide⟩ (D_X11_init_1.at 7 rfl) ?_
  refine J_sipush 123 rfl ⟨by decide, by decide⟩ (D_X11_init_1.at 8 rfl) ?_
  refine A_newarr (n2 := 59) (ov := 58) (at' := .int) (len := 201) (kd := 0) 125 rfl rfl rfl rfl (by decide) ac_0 rfl ar_58 (by decide) (by decide +kernel) (D_X11_init_1.at 9 rfl) ?_
  refine A_putFR (jj := 13) (dd := 1058) 128 rfl (Or.inr ⟨_, rfl⟩) fl_11_70 ⟨isC_11, rfl⟩ rfl rfl (by decide) ⟨by decide, by decide⟩ ob_0 (by decide) (D_X11_init_1.at 10 rfl) ?_
  refine J_aload_n 129 rfl 0 0 rfl ⟨by decide, by decide⟩ (D_X11_init_1.at 11 rfl) ?_
  refine J_bipush 131 rfl ⟨by decide, by decide⟩ (D_X11_init_1.at 12 rfl) ?_
  refine A_newarr (n2 := 60) (ov := 59) (at' := .int) (len := 6) (kd := 0) 133 rfl rfl rfl rfl (by decide) ac_0 rfl ar_59 (by decide) (by decide +kernel) (D_X11_init_1.at 13 rfl) ?_
  refine A_putFR (jj := 14) (dd := 1059) 136 rfl (Or.inr ⟨_, rfl⟩) fl_11_73 ⟨isC_11, rfl⟩ rfl rfl (by decide) ⟨by decide, by decide⟩ ob_0 (by decide) (D_X11_init_1.at 14 rfl) ?_
  refine J_aload_n 137 rfl 0 0 rfl ⟨by decide, by decide⟩ (D_X11_init_1.at 15 rfl) ?_
  refine J_iconst 138 rfl (D_X11_init_1.at 16 rfl) ?_
  refine A_putI (jj := 17) 141 rfl fl_11_76 rfl rfl ob_0 (by decide) (D_X11_init_1.at 17 rfl) ?_
  refine J_aload_n 142 rfl 0 0 rfl ⟨by decide, by decide⟩ (D_X11_init_1.at 18 rfl) ?_
  refine J_iconst 143 rfl (D_X11_init_1.at 19 rfl) ?_
  refine A_putI (jj := 19) 146 rfl fl_11_80 rfl rfl ob_0 (by decide) (D_X11_init_1.at 20 rfl) ?_
  refine J_aload_n 147 rfl 0 0 rfl ⟨by decide, by decide⟩ (D_X11_init_1.at 21 rfl) ?_
  refine A_new (n2 := 61) (ov := 60) 150 rfl 8 rfl rfl rfl kl_8 df_8 cl_11_83 inst_8 ini_8 ob_60 (by decide) (by decide +kernel) (D_X11_init_1.at 22 rfl) ?_
  refine J_dup 151 rfl rfl (D_X11_init_1.at 23 rfl) ?_
  refine J_aload_n 152 rfl 0 0 rfl ⟨by decide, by decide⟩ (D_X11_init_1.at 24 rfl) ?_
  refine J_getFc (dd := 1001) (z := 1) 155 rfl fl_11_12 rfl (by decide) ob_0 (by decide) (D_X11_init_1.at 25 rfl) (ap_some (by decide +kernel)) ?_
  refine J_aload_n 156 rfl 0 0 rfl ⟨by decide, by decide⟩ (D_X11_init_1.at 26 rfl) ?_
  refine J_getFc (dd := 1005) (z := 5) 159 rfl fl_11_28 rfl (by decide) ob_0 (by decide) (D_X11_init_1.at 27 rfl) (ap_some (by decide +kernel)) ?_
  refine J_aload_n 160 rfl 0 0 rfl ⟨by decide, by decide⟩ (D_X11_init_1.at 28 rfl) ?_
  refine J_getR (z := 23) 163 rfl fl_11_39 rfl ob_0 (by decide) (D_X11_init_1.at 29 rfl) (ap_some (by decide +kernel)) ?_
  refine A_callI (M' := m_X8_init) (d' := 1) (n' := 61) (as := [vR 1, vR 5, vR 23]) (st := [vR 60, vR 0]) (o := 60) 166 rfl U_X8_init_60 ok_X8_init im_X8_init ⟨rfl, rfl⟩ ml_11_85 ob_60 rfl (by decide) ⟨by decide, by decide⟩ (by decide) (D_X11_init_1.at 30 rfl) (fun K1 T1 => kc_X8_init_60 T1) ?_
  refine A_putFR (jj := 3) (dd := 1060) 169 rfl (Or.inl ⟨_, rfl⟩) fl_11_88 ⟨isC_11, rfl⟩ rfl rfl (by decide) ⟨by decide, by decide⟩ ob_0 (by decide) (D_X11_init_1.at 31 rfl) ?_
  refine J_aload_n 170 rfl 0 0 rfl ⟨by decide, by decide⟩ (D_X11_init_1.at 32 rfl) ?_
  refine A_new (n2 := 62) (ov := 61) 173 rfl 0 rfl rfl rfl kl_0 df_0 cl_11_92 inst_0 ini_0 ob_61 (by decide) (by decide +kernel) (D_X11_init_1.at 33 rfl) ?_
  refine J_dup 174 rfl rfl (D_X11_init_1.at 34 rfl) ?_
  refine J_aload_n 175 rfl 0 0 rfl ⟨by decide, by decide⟩ (D_X11_init_1.at 35 rfl) ?_
  refine J_getFc (dd := 1052) (z := 52) 178 rfl fl_11_62 rfl (by decide) ob_0 (by decide) (D_X11_init_1.at 36 rfl) (ap_some (by decide +kernel)) ?_
  refine J_aload_n 179 rfl 0 0 rfl ⟨by decide, by decide⟩ (D_X11_init_1.at 37 rfl) ?_
  refine J_getR (z := 6) 182 rfl fl_11_35 rfl ob_0 (by decide) (D_X11_init_1.at 38 rfl) (ap_some (by decide +kernel)) ?_
  refine J_aload_n 183 rfl 0 0 rfl ⟨by decide, by decide⟩ (D_X11_init_1.at 39 rfl) ?_
  refine J_getFc (dd := 1040) (z := 40) 186 rfl fl_11_45 rfl (by decide) ob_0 (by decide) (D_X11_init_1.at 40 rfl) (ap_some (by decide +kernel)) ?_
  refine A_callI (M' := m_X0_init) (d' := 1) (n' := 66) (as := [vR 52, vR 6, vR 40]) (st := [vR 61, vR 0]) (o := 61) 189 rfl U_X0_init_61 ok_X0_init im_X0_init ⟨rfl, rfl⟩ ml_11_94 ob_61 rfl (by decide) ⟨by decide, by decide⟩ (by decide) (D_X11_init_1.at 41 rfl) (fun K1 T1 => kc_X0_init_61 T1) ?_
  refine A_putFR (jj := 10) (dd := 1061) 192 rfl (Or.inl ⟨_, rfl⟩) fl_11_97 ⟨isC_11, rfl⟩ rfl rfl (by decide) ⟨by decide, by decide⟩ ob_0 (by decide) (D_X11_init_1.at 42 rfl) ?_
  refine J_aload_n 193 rfl 0 0 rfl ⟨by decide, by decide⟩ (D_X11_init_1.at 43 rfl) ?_
  refine A_new (n2 := 67) (ov := 66) 196 rfl 3 rfl rfl rfl kl_3 df_3 cl_11_101 inst_3 ini_3 ob_66 (by decide) (by decide +kernel) (D_X11_init_1.at 44 rfl) ?_
  refine J_dup 197 rfl rfl (D_X11_init_1.at 45 rfl) ?_
  refine J_aload_n 198 rfl 0 0 rfl ⟨by decide, by decide⟩ (D_X11_init_1.at 46 rfl) ?_
  refine J_getFc (dd := 1061) (z := 61) 201 rfl fl_11_97 rfl (by decide) ob_0 (by decide) (D_X11_init_1.at 47 rfl) (ap_some (by decide +kernel)) ?_
  refine A_callI (M' := m_X3_init) (d' := 1) (n' := 68) (as := [vR 61]) (st := [vR 66, vR 0]) (o := 66) 204 rfl U_X3_init_66 ok_X3_init im_X3_init ⟨rfl, rfl⟩ ml_11_103 ob_66 rfl (by decide) ⟨by decide, by decide⟩ (by decide) (D_X11_init_2.at 0 rfl) (fun K1 T1 => kc_X3_init_66 T1) ?_
  refine A_putFR (jj := 11) (dd := 1066) 207 rfl (Or.inl ⟨_, rfl⟩) fl_11_106 ⟨isC_11, rfl⟩ rfl rfl (by decide) ⟨by decide, by decide⟩ ob_0 (by decide) (D_X11_init_2.at 1 rfl) ?_
  exact J_vret rfl (D_X11_init_2.at 2 rfl) T
