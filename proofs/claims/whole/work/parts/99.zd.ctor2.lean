/-! the reference is made -/
def U_X12_init_68_0 : List Up := ((0, 68, 11, 72) :: ((0, 72, 4, 101) :: ((0, 72, 3, 112) :: ((0, 72, 2, 111) :: ((0, 72, 1, 108) :: ((0, 72, 0, 115) :: ((1, 72, 0, 0) :: ((0, 68, 10, 71) :: ((0, 71, 4, 114) :: ((0, 71, 3, 101) :: ((0, 71, 2, 118) :: ((0, 71, 1, 105) :: ((0, 71, 0, 114) :: ((1, 71, 0, 0) :: ((0, 68, 9, 70) :: ((1, 70, 0, 0) :: ((0, 68, 8, (-1)) :: ((0, 68, 0, 69) :: ((1, 69, 0, 0) :: [])))))))))))))))))))
theorem kc_X12_init_68_0 {w : Wd} {h : Hp} {K : Int → Hp → Prop} (T : JG w false m_X12_init 1 137 73 90 [(0, vR 68)] [] (ap U_X12_init_68_0 h) K) : JG w false m_X12_init 1 137 69 0 [(0, vR 68)] [] h K := by
  show JG w false m_X12_init 1 137 69 0 [(0, vR 68)] [] (ap [] h) K
  refine J_aload_n 1 rfl 0 0 rfl ⟨by decide, by decide⟩ (D_X12_init_0.at 0 rfl) ?_
  refine J_objI 4 rfl ml_12_1 ⟨by decide, Ob.lt ob_68⟩ rfl (by decide) (D_X12_init_0.at 1 rfl) ?_
  refine J_aload_n 5 rfl 0 0 rfl ⟨by decide, by decide⟩ (D_X12_init_0.at 2 rfl) ?_
  refine J_sipush 8 rfl ⟨by decide, by decide⟩ (D_X12_init_0.at 3 rfl) ?_
  refine A_newarr (n2 := 70) (ov := 69) (at' := .int) (len := 1600) (kd := 0) 10 rfl rfl rfl rfl (by decide) ac_0 rfl ar_69 (by decide) (by decide +kernel) (D_X12_init_0.at 4 rfl) ?_
  refine A_putFR (jj := 0) (dd := 1001) 13 rfl (Or.inr ⟨_, rfl⟩) fl_12_7 ⟨isC_12, rfl⟩ rfl rfl (by decide) ⟨by decide, by decide⟩ ob_68 (by decide) (D_X12_init_0.at 5 rfl) ?_
  refine J_aload_n 14 rfl 0 0 rfl ⟨by decide, by decide⟩ (D_X12_init_0.at 6 rfl) ?_
  refine J_iconst 15 rfl (D_X12_init_0.at 7 rfl) ?_
  refine A_putI (jj := 8) 18 rfl fl_12_13 rfl rfl ob_68 (by decide) (D_X12_init_0.at 8 rfl) ?_
  refine J_aload_n 19 rfl 0 0 rfl ⟨by decide, by decide⟩ (D_X12_init_0.at 9 rfl) ?_
  refine J_bipush 21 rfl ⟨by decide, by decide⟩ (D_X12_init_0.at 10 rfl) ?_
  refine A_newarr (n2 := 71) (ov := 70) (at' := .int) (len := 6) (kd := 0) 23 rfl rfl rfl rfl (by decide) ac_0 rfl ar_70 (by decide) (by decide +kernel) (D_X12_init_0.at 11 rfl) ?_
  refine A_putFR (jj := 9) (dd := 1002) 26 rfl (Or.inr ⟨_, rfl⟩) fl_12_17 ⟨isC_12, rfl⟩ rfl rfl (by decide) ⟨by decide, by decide⟩ ob_68 (by decide) (D_X12_init_0.at 12 rfl) ?_
  refine J_aload_n 27 rfl 0 0 rfl ⟨by decide, by decide⟩ (D_X12_init_0.at 13 rfl) ?_
  refine J_iconst 28 rfl (D_X12_init_0.at 14 rfl) ?_
  refine A_newarr (n2 := 72) (ov := 71) (at' := .char) (len := 5) (kd := 3) 30 rfl rfl rfl rfl (by decide) ac_3 rfl ar_71 (by decide) (by decide +kernel) (D_X12_init_0.at 15 rfl) ?_
  refine J_dup 31 rfl rfl (D_X12_init_0.at 16 rfl) ?_
  refine J_iconst 32 rfl (D_X12_init_0.at 17 rfl) ?_
  refine J_bipush 34 rfl ⟨by decide, by decide⟩ (D_X12_init_0.at 18 rfl) ?_
  refine A_cast 35 rfl ar_71 (by decide) ⟨by decide, by decide⟩ ⟨by decide, by decide⟩ (D_X12_init_0.at 19 rfl) ?_
  refine J_dup 36 rfl rfl (D_X12_init_0.at 20 rfl) ?_
  refine J_iconst 37 rfl (D_X12_init_0.at 21 rfl) ?_
  refine J_bipush 39 rfl ⟨by decide, by decide⟩ (D_X12_init_0.at 22 rfl) ?_
  refine A_cast 40 rfl ar_71 (by decide) ⟨by decide, by decide⟩ ⟨by decide, by decide⟩ (D_X12_init_0.at 23 rfl) ?_
  refine J_dup 41 rfl rfl (D_X12_init_0.at 24 rfl) ?_
  refine J_iconst 42 rfl (D_X12_init_0.at 25 rfl) ?_
  refine J_bipush 44 rfl ⟨by decide, by decide⟩ (D_X12_init_0.at 26 rfl) ?_
  refine A_cast 45 rfl ar_71 (by decide) ⟨by decide, by decide⟩ ⟨by decide, by decide⟩ (D_X12_init_0.at 27 rfl) ?_
  refine J_dup 46 rfl rfl (D_X12_init_0.at 28 rfl) ?_
  refine J_iconst 47 rfl (D_X12_init_0.at 29 rfl) ?_
  refine J_bipush 49 rfl ⟨by decide, by decide⟩ (D_X12_init_0.at 30 rfl) ?_
  refine A_cast 50 rfl ar_71 (by decide) ⟨by decide, by decide⟩ ⟨by decide, by decide⟩ (D_X12_init_0.at 31 rfl) ?_
  refine J_dup 51 rfl rfl (D_X12_init_0.at 32 rfl) ?_
  refine J_iconst 52 rfl (D_X12_init_0.at 33 rfl) ?_
  refine J_bipush 54 rfl ⟨by decide, by decide⟩ (D_X12_init_0.at 34 rfl) ?_
  refine A_cast 55 rfl ar_71 (by decide) ⟨by decide, by decide⟩ ⟨by decide, by decide⟩ (D_X12_init_0.at 35 rfl) ?_
  refine A_putFR (jj := 10) (dd := 1003) 58 rfl (Or.inr ⟨_, rfl⟩) fl_12_20 ⟨isC_12, rfl⟩ rfl rfl (by decide) ⟨by decide, by decide⟩ ob_68 (by decide) (D_X12_init_0.at 36 rfl) ?_
  refine J_aload_n 59 rfl 0 0 rfl ⟨by decide, by decide⟩ (D_X12_init_0.at 37 rfl) ?_
  refine J_iconst 60 rfl (D_X12_init_0.at 38 rfl) ?_
  refine A_newarr (n2 := 73) (ov := 72) (at' := .char) (len := 5) (kd := 3) 62 rfl rfl rfl rfl (by decide) ac_3 rfl ar_72 (by decide) (by decide +kernel) (D_X12_init_0.at 39 rfl) ?_
  refine J_dup 63 rfl rfl (D_X12_init_0.at 40 rfl) ?_
  refine J_iconst 64 rfl (D_X12_init_0.at 41 rfl) ?_
  refine J_bipush 66 rfl ⟨by decide, by decide⟩ (D_X12_init_0.at 42 rfl) ?_
  refine A_cast 67 rfl ar_72 (by decide) ⟨by decide, by decide⟩ ⟨by decide, by decide⟩ (D_X12_init_0.at 43 rfl) ?_
  refine J_dup 68 rfl rfl (D_X12_init_0.at 44 rfl) ?_
  refine J_iconst 69 rfl (D_X12_init_0.at 45 rfl) ?_
  refine J_bipush 71 rfl ⟨by decide, by decide⟩ (D_X12_init_0.at 46 rfl) ?_
  refine A_cast 72 rfl ar_72 (by decide) ⟨by decide, by decide⟩ ⟨by decide, by decide⟩ (D_X12_init_0.at 47 rfl) ?_
  refine J_dup 73 rfl rfl (D_X12_init_1.at 0 rfl) ?_
  refine J_iconst 74 rfl (D_X12_init_1.at 1 rfl) ?_
  refine J_bipush 76 rfl ⟨by decide, by decide⟩ (D_X12_init_1.at 2 rfl) ?_
  refine A_cast 77 rfl ar_72 (by decide) ⟨by decide, by decide⟩ ⟨by decide, by decide⟩ (D_X12_init_1.at 3 rfl) ?_
  refine J_dup 78 rfl rfl (D_X12_init_1.at 4 rfl) ?_
  refine J_iconst 79 rfl (D_X12_init_1.at 5 rfl) ?_
  refine J_bipush 81 rfl ⟨by decide, by decide⟩ (D_X12_init_1.at 6 rfl) ?_
  refine A_cast 82 rfl ar_72 (by decide) ⟨by decide, by decide⟩ ⟨by decide, by decide⟩ (D_X12_init_1.at 7 rfl) ?_
  refine J_dup 83 rfl rfl (D_X12_init_1.at 8 rfl) ?_
  refine J_iconst 84 rfl (D_X12_init_1.at 9 rfl) ?_
  refine J_bipush 86 rfl ⟨by decide, by decide⟩ (D_X12_init_1.at 10 rfl) ?_
  refine A_cast 87 rfl ar_72 (by decide) ⟨by decide, by decide⟩ ⟨by decide, by decide⟩ (D_X12_init_1.at 11 rfl) ?_
  refine A_putFR (jj := 11) (dd := 1004) 90 rfl (Or.inr ⟨_, rfl⟩) fl_12_24 ⟨isC_12, rfl⟩ rfl rfl (by decide) ⟨by decide, by decide⟩ ob_68 (by decide) (D_X12_init_1.at 12 rfl) ?_
  exact T
def U_X12_init_68_1 : List Up := ((0, 68, 14, 75) :: ((0, 75, 5, 114) :: ((0, 75, 4, 117) :: ((0, 75, 3, 111) :: ((0, 75, 2, 108) :: ((0, 75, 1, 111) :: ((0, 75, 0, 99) :: ((1, 75, 0, 0) :: ((0, 68, 13, 74) :: ((0, 74, 4, 114) :: ((0, 74, 3, 101) :: ((0, 74, 2, 110) :: ((0, 74, 1, 119) :: ((0, 74, 0, 111) :: ((1, 74, 0, 0) :: ((0, 68, 12, 73) :: ((0, 73, 1, 116) :: ((0, 73, 0, 97) :: ((1, 73, 0, 0) :: [])))))))))))))))))))
theorem kc_X12_init_68_1 {w : Wd} {h : Hp} {K : Int → Hp → Prop} (T : JG w false m_X12_init 1 137 76 177 [(0, vR 68)] [] (ap U_X12_init_68_1 h) K) : JG w false m_X12_init 1 137 73 90 [(0, vR 68)] [] h K := by
  show JG w false m_X12_init 1 137 73 90 [(0, vR 68)] [] (ap [] h) K
  refine J_aload_n 91 rfl 0 0 rfl ⟨by decide, by decide⟩ (D_X12_init_1.at 13 rfl) ?_
  refine J_iconst 92 rfl (D_X12_init_1.at 14 rfl) ?_
  refine A_newarr (n2 := 74) (ov := 73) (at' := .char) (len := 2) (kd := 3) 94 rfl rfl rfl rfl (by decide) ac_3 rfl ar_73 (by decide) (by decide +kernel) (D_X12_init_1.at 15 rfl) ?_
  refine J_dup 95 rfl rfl (D_X12_init_1.at 16 rfl) ?_
  refine J_iconst 96 rfl (D_X12_init_1.at 17 rfl) ?_
  refine J_bipush 98 rfl ⟨by decide, by decide⟩ (D_X12_init_1.at 18 rfl) ?_
  refine A_cast 99 rfl ar_73 (by decide) ⟨by decide, by decide⟩ ⟨by decide, by decide⟩ (D_X12_init_1.at 19 rfl) ?_
  refine J_dup 100 rfl rfl (D_X12_init_1.at 20 rfl) ?_
  refine J_iconst 101 rfl (D_X12_init_1.at 21 rfl) ?_
  refine J_bipush 103 rfl ⟨by decide, by decide⟩ (D_X12_init_1.at 22 rfl) ?_
  refine A_cast 104 rfl ar_73 (by decide) ⟨by decide, by decide⟩ ⟨by decide, by decide⟩ (D_X12_init_1.at 23 rfl) ?_
  refine A_putFR (jj := 12) (dd := 1005) 107 rfl (Or.inr ⟨_, rfl⟩) fl_12_27 ⟨isC_12, rfl⟩ rfl rfl (by decide) ⟨by decide, by decide⟩ ob_68 (by decide) (D_X12_init_1.at 24 rfl) ?_
  refine J_aload_n 108 rfl 0 0 rfl ⟨by decide, by decide⟩ (D_X12_init_1.at 25 rfl) ?_
  refine J_iconst 109 rfl (D_X12_init_1.at 26 rfl) ?_
  refine A_newarr (n2 := 75) (ov := 74) (at' := .char) (len := 5) (kd := 3) 111 rfl rfl rfl rfl (by decide) ac_3 rfl ar_74 (by decide) (by decide +kernel) (D_X12_init_1.at 27 rfl) ?_
  refine J_dup 112 rfl rfl (D_X12_init_1.at 28 rfl) ?_
  refine J_iconst 113 rfl (D_X12_init_1.at 29 rfl) ?_
  refine J_bipush 115 rfl ⟨by decide, by decide⟩ (D_X12_init_1.at 30 rfl) ?_
  refine A_cast 116 rfl ar_74 (by decide) ⟨by decide, by decide⟩ ⟨by decide, by decide⟩ (D_X12_init_1.at 31 rfl) ?_
  refine J_dup 117 rfl rfl (D_X12_init_1.at 32 rfl) ?_
  refine J_iconst 118 rfl (D_X12_init_1.at 33 rfl) ?_
  refine J_bipush 120 rfl ⟨by decide, by decide⟩ (D_X12_init_1.at 34 rfl) ?_
  refine A_cast 121 rfl ar_74 (by decide) ⟨by decide, by decide⟩ ⟨by decide, by decide⟩ (D_X12_init_1.at 35 rfl) ?_
  refine J_dup 122 rfl rfl (D_X12_init_1.at 36 rfl) ?_
  refine J_iconst 123 rfl (D_X12_init_1.at 37 rfl) ?_
  refine J_bipush 125 rfl ⟨by decide, by decide⟩ (D_X12_init_1.at 38 rfl) ?_
  refine A_cast 126 rfl ar_74 (by decide) ⟨by decide, by decide⟩ ⟨by decide, by decide⟩ (D_X12_init_1.at 39 rfl) ?_
  refine J_dup 127 rfl rfl (D_X12_init_1.at 40 rfl) ?_
  refine J_iconst 128 rfl (D_X12_init_1.at 41 rfl) ?_
  refine J_bipush 130 rfl ⟨by decide, by decide⟩ (D_X12_init_1.at 42 rfl) ?_
  refine A_cast 131 rfl ar_74 (by decide) ⟨by decide, by decide⟩ ⟨by decide, by decide⟩ (D_X12_init_1.at 43 rfl) ?_
  refine J_dup 132 rfl rfl (D_X12_init_1.at 44 rfl) ?_
  refine J_iconst 133 rfl (D_X12_init_1.at 45 rfl) ?_
  refine J_bipush 135 rfl ⟨by decide, by decide⟩ (D_X12_init_1.at 46 rfl) ?_
  refine A_cast 136 rfl ar_74 (by decide) ⟨by decide, by decide⟩ ⟨by decide, by decide⟩ (D_X12_init_1.at 47 rfl) ?_
  refine A_putFR (jj := 13) (dd := 1006) 139 rfl (Or.inr ⟨_, rfl⟩) fl_12_30 ⟨isC_12, rfl⟩ rfl rfl (by decide) ⟨by decide, by decide⟩ ob_68 (by decide) (D_X12_init_2.at 0 rfl) ?_
  refine J_aload_n 140 rfl 0 0 rfl ⟨by decide, by decide⟩ (D_X12_init_2.at 1 rfl) ?_
  refine J_bipush 142 rfl ⟨by decide, by decide⟩ (D_X12_init_2.at 2 rfl) ?_
  refine A_newarr (n2 := 76) (ov := 75) (at' := .char) (len := 6) (kd := 3) 144 rfl rfl rfl rfl (by decide) ac_3 rfl ar_75 (by decide) (by decide +kernel) (D_X12_init_2.at 3 rfl) ?_
  refine J_dup 145 rfl rfl (D_X12_init_2.at 4 rfl) ?_
  refine J_iconst 146 rfl (D_X12_init_2.at 5 rfl) ?_
  refine J_bipush 148 rfl ⟨by decide, by decide⟩ (D_X12_init_2.at 6 rfl) ?_
  refine A_cast 149 rfl ar_75 (by decide) ⟨by decide, by decide⟩ ⟨by decide, by decide⟩ (D_X12_init_2.at 7 rfl) ?_
  refine J_dup 150 rfl rfl (D_X12_init_2.at 8 rfl) ?_
  refine J_iconst 151 rfl (D_X12_init_2.at 9 rfl) ?_
  refine J_bipush 153 rfl ⟨by decide, by decide⟩ (D_X12_init_2.at 10 rfl) ?_
  refine A_cast 154 rfl ar_75 (by decide) ⟨by decide, by decide⟩ ⟨by decide, by decide⟩ (D_X12_init_2.at 11 rfl) ?_
  refine J_dup 155 rfl rfl (D_X12_init_2.at 12 rfl) ?_
  refine J_iconst 156 rfl (D_X12_init_2.at 13 rfl) ?_
  refine J_bipush 158 rfl ⟨by decide, by decide⟩ (D_X12_init_2.at 14 rfl) ?_
  refine A_cast 159 rfl ar_75 (by decide) ⟨by decide, by decide⟩ ⟨by decide, by decide⟩ (D_X12_init_2.at 15 rfl) ?_
  refine J_dup 160 rfl rfl (D_X12_init_2.at 16 rfl) ?_
  refine J_iconst 161 rfl (D_X12_init_2.at 17 rfl) ?_
  refine J_bipush 163 rfl ⟨by decide, by decide⟩ (D_X12_init_2.at 18 rfl) ?_
  refine A_cast 164 rfl ar_75 (by decide) ⟨by decide, by decide⟩ ⟨by decide, by decide⟩ (D_X12_init_2.at 19 rfl) ?_
  refine J_dup 165 rfl rfl (D_X12_init_2.at 20 rfl) ?_
  refine J_iconst 166 rfl (D_X12_init_2.at 21 rfl) ?_
  refine J_bipush 168 rfl ⟨by decide, by decide⟩ (D_X12_init_2.at 22 rfl) ?_
  refine A_cast 169 rfl ar_75 (by decide) ⟨by decide, by decide⟩ ⟨by decide, by decide⟩ (D_X12_init_2.at 23 rfl) ?_
  refine J_dup 170 rfl rfl (D_X12_init_2.at 24 rfl) ?_
  refine J_iconst 171 rfl (D_X12_init_2.at 25 rfl) ?_
  refine J_bipush 173 rfl ⟨by decide, by decide⟩ (D_X12_init_2.at 26 rfl) ?_
  refine A_cast 174 rfl ar_75 (by decide) ⟨by decide, by decide⟩ ⟨by decide, by decide⟩ (D_X12_init_2.at 27 rfl) ?_
  refine A_putFR (jj := 14) (dd := 1007) 177 rfl (Or.inr ⟨_, rfl⟩) fl_12_33 ⟨isC_12, rfl⟩ rfl rfl (by decide) ⟨by decide, by decide⟩ ob_68 (by decide) (D_X12_init_2.at 28 rfl) ?_
  exact T
def U_X12_init_68_2 : List Up := ((0, 68, 17, 78) :: ((0, 78, 4, 115) :: ((0, 78, 3, 100) :: ((0, 78, 2, 108) :: ((0, 78, 1, 111) :: ((0, 78, 0, 104) :: ((1, 78, 0, 0) :: ((0, 68, 16, 77) :: ((0, 77, 1, 102) :: ((0, 77, 0, 111) :: ((1, 77, 0, 0) :: ((0, 68, 15, 76) :: ((0, 76, 3, 107) :: ((0, 76, 2, 110) :: ((0, 76, 1, 97) :: ((0, 76, 0, 98) :: ((1, 76, 0, 0) :: [])))))))))))))))))
theorem kc_X12_init_68_2 {w : Wd} {h : Hp} {K : Int → Hp → Prop} (T : JG w false m_X12_init 1 137 79 253 [(0, vR 68)] [] (ap U_X12_init_68_2 h) K) : JG w false m_X12_init 1 137 76 177 [(0, vR 68)] [] h K := by
  show JG w false m_X12_init 1 137 76 177 [(0, vR 68)] [] (ap [] h) K
  refine J_aload_n 178 rfl 0 0 rfl ⟨by decide, by decide⟩ (D_X12_init_2.at 29 rfl) ?_
  refine J_iconst 179 rfl (D_X12_init_2.at 30 rfl) ?_
  refine A_newarr (n2 := 77) (ov := 76) (at' := .char) (len := 4) (kd := 3) 181 rfl rfl rfl rfl (by decide) ac_3 rfl ar_76 (by decide) (by decide +kernel) (D_X12_init_2.at 31 rfl) ?_
  refine J_dup 182 rfl rfl (D_X12_init_2.at 32 rfl) ?_
  refine J_iconst 183 rfl (D_X12_init_2.at 33 rfl) ?_
  refine J_bipush 185 rfl ⟨by decide, by decide⟩ (D_X12_init_2.at 34 rfl) ?_
  refine A_cast 186 rfl ar_76 (by decide) ⟨by decide, by decide⟩ ⟨by decide, by decide⟩ (D_X12_init_2.at 35 rfl) ?_
  refine J_dup 187 rfl rfl (D_X12_init_2.at 36 rfl) ?_
  refine J_iconst 188 rfl (D_X12_init_2.at 37 rfl) ?_
  refine J_bipush 190 rfl ⟨by decide, by decide⟩ (D_X12_init_2.at 38 rfl) ?_
  refine A_cast 191 rfl ar_76 (by decide) ⟨by decide, by decide⟩ ⟨by decide, by decide⟩ (D_X12_init_2.at 39 rfl) ?_
  refine J_dup 192 rfl rfl (D_X12_init_2.at 40 rfl) ?_
  refine J_iconst 193 rfl (D_X12_init_2.at 41 rfl) ?_
  refine J_bipush 195 rfl ⟨by decide, by decide⟩ (D_X12_init_2.at 42 rfl) ?_
  refine A_cast 196 rfl ar_76 (by decide) ⟨by decide, by decide⟩ ⟨by decide, by decide⟩ (D_X12_init_2.at 43 rfl) ?_
  refine J_dup 197 rfl rfl (D_X12_init_2.at 44 rfl) ?_
  refine J_iconst 198 rfl (D_X12_init_2.at 45 rfl) ?_
  refine J_bipush 200 rfl ⟨by decide, by decide⟩ (D_X12_init_2.at 46 rfl) ?_
  refine A_cast 201 rfl ar_76 (by decide) ⟨by decide, by decide⟩ ⟨by decide, by decide⟩ (D_X12_init_2.at 47 rfl) ?_
  refine A_putFR (jj := 15) (dd := 1008) 204 rfl (Or.inr ⟨_, rfl⟩) fl_12_36 ⟨isC_12, rfl⟩ rfl rfl (by decide) ⟨by decide, by decide⟩ ob_68 (by decide) (D_X12_init_3.at 0 rfl) ?_
  refine J_aload_n 205 rfl 0 0 rfl ⟨by decide, by decide⟩ (D_X12_init_3.at 1 rfl) ?_
  refine J_iconst 206 rfl (D_X12_init_3.at 2 rfl) ?_
  refine A_newarr (n2 := 78) (ov := 77) (at' := .char) (len := 2) (kd := 3) 208 rfl rfl rfl rfl (by decide) ac_3 rfl ar_77 (by decide) (by decide +kernel) (D_X12_init_3.at 3 rfl) ?_
  refine J_dup 209 rfl rfl (D_X12_init_3.at 4 rfl) ?_
  refine J_iconst 210 rfl (D_X12_init_3.at 5 rfl) ?_
  refine J_bipush 212 rfl ⟨by decide, by decide⟩ (D_X12_init_3.at 6 rfl) ?_
  refine A_cast 213 rfl ar_77 (by decide) ⟨by decide, by decide⟩ ⟨by decide, by decide⟩ (D_X12_init_3.at 7 rfl) ?_
  refine J_dup 214 rfl rfl (D_X12_init_3.at 8 rfl) ?_
  refine J_iconst 215 rfl (D_X12_init_3.at 9 rfl) ?_
  refine J_bipush 217 rfl ⟨by decide, by decide⟩ (D_X12_init_3.at 10 rfl) ?_
  refine A_cast 218 rfl ar_77 (by decide) ⟨by decide, by decide⟩ ⟨by decide, by decide⟩ (D_X12_init_3.at 11 rfl) ?_
  refine A_putFR (jj := 16) (dd := 1009) 221 rfl (Or.inr ⟨_, rfl⟩) fl_12_39 ⟨isC_12, rfl⟩ rfl rfl (by decide) ⟨by decide, by decide⟩ ob_68 (by decide) (D_X12_init_3.at 12 rfl) ?_
  refine J_aload_n 222 rfl 0 0 rfl ⟨by decide, by decide⟩ (D_X12_init_3.at 13 rfl) ?_
  refine J_iconst 223 rfl (D_X12_init_3.at 14 rfl) ?_
  refine A_newarr (n2 := 79) (ov := 78) (at' := .char) (len := 5) (kd := 3) 225 rfl rfl rfl rfl (by decide) ac_3 rfl ar_78 (by decide) (by decide +kernel) (D_X12_init_3.at 15 rfl) ?_
  refine J_dup 226 rfl rfl (D_X12_init_3.at 16 rfl) ?_
  refine J_iconst 227 rfl (D_X12_init_3.at 17 rfl) ?_
  refine J_bipush 229 rfl ⟨by decide, by decide⟩ (D_X12_init_3.at 18 rfl) ?_
  refine A_cast 230 rfl ar_78 (by decide) ⟨by decide, by decide⟩ ⟨by decide, by decide⟩ (D_X12_init_3.at 19 rfl) ?_
  refine J_dup 231 rfl rfl (D_X12_init_3.at 20 rfl) ?_
  refine J_iconst 232 rfl (D_X12_init_3.at 21 rfl) ?_
  refine J_bipush 234 rfl ⟨by decide, by decide⟩ (D_X12_init_3.at 22 rfl) ?_
  refine A_cast 235 rfl ar_78 (by decide) ⟨by decide, by decide⟩ ⟨by decide, by decide⟩ (D_X12_init_3.at 23 rfl) ?_
  refine J_dup 236 rfl rfl (D_X12_init_3.at 24 rfl) ?_
  refine J_iconst 237 rfl (D_X12_init_3.at 25 rfl) ?_
  refine J_bipush 239 rfl ⟨by decide, by decide⟩ (D_X12_init_3.at 26 rfl) ?_
  refine A_cast 240 rfl ar_78 (by decide) ⟨by decide, by decide⟩ ⟨by decide, by decide⟩ (D_X12_init_3.at 27 rfl) ?_
  refine J_dup 241 rfl rfl (D_X12_init_3.at 28 rfl) ?_
  refine J_iconst 242 rfl (D_X12_init_3.at 29 rfl) ?_
  refine J_bipush 244 rfl ⟨by decide, by decide⟩ (D_X12_init_3.at 30 rfl) ?_
  refine A_cast 245 rfl ar_78 (by decide) ⟨by decide, by decide⟩ ⟨by decide, by decide⟩ (D_X12_init_3.at 31 rfl) ?_
  refine J_dup 246 rfl rfl (D_X12_init_3.at 32 rfl) ?_
  refine J_iconst 247 rfl (D_X12_init_3.at 33 rfl) ?_
  refine J_bipush 249 rfl ⟨by decide, by decide⟩ (D_X12_init_3.at 34 rfl) ?_
  refine A_cast 250 rfl ar_78 (by decide) ⟨by decide, by decide⟩ ⟨by decide, by decide⟩ (D_X12_init_3.at 35 rfl) ?_
  refine A_putFR (jj := 17) (dd := 1010) 253 rfl (Or.inr ⟨_, rfl⟩) fl_12_42 ⟨isC_12, rfl⟩ rfl rfl (by decide) ⟨by decide, by decide⟩ ob_68 (by decide) (D_X12_init_3.at 36 rfl) ?_
  exact T
def U_X12_init_68_3 : List Up := ((0, 68, 20, 81) :: ((0, 81, 5, 101) :: ((0, 81, 4, 108) :: ((0, 81, 3, 116) :: ((0, 81, 2, 116) :: ((0, 81, 1, 101) :: ((0, 81, 0, 115) :: ((1, 81, 0, 0) :: ((0, 68, 19, 80) :: ((0, 80, 2, 116) :: ((0, 80, 1, 117) :: ((0, 80, 0, 99) :: ((1, 80, 0, 0) :: ((0, 68, 18, 79) :: ((0, 79, 3, 101) :: ((0, 79, 2, 122) :: ((0, 79, 1, 105) :: ((0, 79, 0, 115) :: ((1, 79, 0, 0) :: [])))))))))))))))))))
theorem kc_X12_init_68_3 {w : Wd} {h : Hp} {K : Int → Hp → Prop} (T : JG w false m_X12_init 1 137 82 340 [(0, vR 68)] [] (ap U_X12_init_68_3 h) K) : JG w false m_X12_init 1 137 79 253 [(0, vR 68)] [] h K := by
  show JG w false m_X12_init 1 137 79 253 [(0, vR 68)] [] (ap [] h) K
  refine J_aload_n 254 rfl 0 0 rfl ⟨by decide, by decide⟩ (D_X12_init_3.at 37 rfl) ?_
  refine J_iconst 255 rfl (D_X12_init_3.at 38 rfl) ?_
  refine A_newarr (n2 := 80) (ov := 79) (at' := .char) (len := 4) (kd := 3) 257 rfl rfl rfl rfl (by decide) ac_3 rfl ar_79 (by decide) (by decide +kernel) (D_X12_init_3.at 39 rfl) ?_
  refine J_dup 258 rfl rfl (D_X12_init_3.at 40 rfl) ?_
  refine J_iconst 259 rfl (D_X12_init_3.at 41 rfl) ?_
  refine J_bipush 261 rfl ⟨by decide, by decide⟩ (D_X12_init_3.at 42 rfl) ?_
  refine A_cast 262 rfl ar_79 (by decide) ⟨by decide, by decide⟩ ⟨by decide, by decide⟩ (D_X12_init_3.at 43 rfl) ?_
  refine J_dup 263 rfl rfl (D_X12_init_3.at 44 rfl) ?_
  refine J_iconst 264 rfl (D_X12_init_3.at 45 rfl) ?_
  refine J_bipush 266 rfl ⟨by decide, by decide⟩ (D_X12_init_3.at 46 rfl) ?_
  refine A_cast 267 rfl ar_79 (by decide) ⟨by decide, by decide⟩ ⟨by decide, by decide⟩ (D_X12_init_3.at 47 rfl) ?_
  refine J_dup 268 rfl rfl (D_X12_init_4.at 0 rfl) ?_
  refine J_iconst 269 rfl (D_X12_init_4.at 1 rfl) ?_
  refine J_bipush 271 rfl ⟨by decide, by decide⟩ (D_X12_init_4.at 2 rfl) ?_
  refine A_cast 272 rfl ar_79 (by decide) ⟨by decide, by decide⟩ ⟨by decide, by decide⟩ (D_X12_init_4.at 3 rfl) ?_
  refine J_dup 273 rfl rfl (D_X12_init_4.at 4 rfl) ?_
  refine J_iconst 274 rfl (D_X12_init_4.at 5 rfl) ?_
  refine J_bipush 276 rfl ⟨by decide, by decide⟩ (D_X12_init_4.at 6 rfl) ?_
  refine A_cast 277 rfl ar_79 (by decide) ⟨by decide, by decide⟩ ⟨by decide, by decide⟩ (D_X12_init_4.at 7 rfl) ?_
  refine A_putFR (jj := 18) (dd := 1011) 280 rfl (Or.inr ⟨_, rfl⟩) fl_12_45 ⟨isC_12, rfl⟩ rfl rfl (by decide) ⟨by decide, by decide⟩ ob_68 (by decide) (D_X12_init_4.at 8 rfl) ?_
  refine J_aload_n 281 rfl 0 0 rfl ⟨by decide, by decide⟩ (D_X12_init_4.at 9 rfl) ?_
  refine J_iconst 282 rfl (D_X12_init_4.at 10 rfl) ?_
  refine A_newarr (n2 := 81) (ov := 80) (at' := .char) (len := 3) (kd := 3) 284 rfl rfl rfl rfl (by decide) ac_3 rfl ar_80 (by decide) (by decide +kernel) (D_X12_init_4.at 11 rfl) ?_
  refine J_dup 285 rfl rfl (D_X12_init_4.at 12 rfl) ?_
  refine J_iconst 286 rfl (D_X12_init_4.at 13 rfl) ?_
  refine J_bipush 288 rfl ⟨by decide, by decide⟩ (D_X12_init_4.at 14 rfl) ?_
  refine A_cast 289 rfl ar_80 (by decide) ⟨by decide, by decide⟩ ⟨by decide, by decide⟩ (D_X12_init_4.at 15 rfl) ?_
  refine J_dup 290 rfl rfl (D_X12_init_4.at 16 rfl) ?_
  refine J_iconst 291 rfl (D_X12_init_4.at 17 rfl) ?_
  refine J_bipush 293 rfl ⟨by decide, by decide⟩ (D_X12_init_4.at 18 rfl) ?_
  refine A_cast 294 rfl ar_80 (by decide) ⟨by decide, by decide⟩ ⟨by decide, by decide⟩ (D_X12_init_4.at 19 rfl) ?_
  refine J_dup 295 rfl rfl (D_X12_init_4.at 20 rfl) ?_
  refine J_iconst 296 rfl (D_X12_init_4.at 21 rfl) ?_
  refine J_bipush 298 rfl ⟨by decide, by decide⟩ (D_X12_init_4.at 22 rfl) ?_
  refine A_cast 299 rfl ar_80 (by decide) ⟨by decide, by decide⟩ ⟨by decide, by decide⟩ (D_X12_init_4.at 23 rfl) ?_
  refine A_putFR (jj := 19) (dd := 1012) 302 rfl (Or.inr ⟨_, rfl⟩) fl_12_48 ⟨isC_12, rfl⟩ rfl rfl (by decide) ⟨by decide, by decide⟩ ob_68 (by decide) (D_X12_init_4.at 24 rfl) ?_
  refine J_aload_n 303 rfl 0 0 rfl ⟨by decide, by decide⟩ (D_X12_init_4.at 25 rfl) ?_
  refine J_bipush 305 rfl ⟨by decide, by decide⟩ (D_X12_init_4.at 26 rfl) ?_
  refine A_newarr (n2 := 82) (ov := 81) (at' := .char) (len := 6) (kd := 3) 307 rfl rfl rfl rfl (by decide) ac_3 rfl ar_81 (by decide) (by decide +kernel) (D_X12_init_4.at 27 rfl) ?_
  refine J_dup 308 rfl rfl (D_X12_init_4.at 28 rfl) ?_
  refine J_iconst 309 rfl (D_X12_init_4.at 29 rfl) ?_
  refine J_bipush 311 rfl ⟨by decide, by decide⟩ (D_X12_init_4.at 30 rfl) ?_
  refine A_cast 312 rfl ar_81 (by decide) ⟨by decide, by decide⟩ ⟨by decide, by decide⟩ (D_X12_init_4.at 31 rfl) ?_
  refine J_dup 313 rfl rfl (D_X12_init_4.at 32 rfl) ?_
  refine J_iconst 314 rfl (D_X12_init_4.at 33 rfl) ?_
  refine J_bipush 316 rfl ⟨by decide, by decide⟩ (D_X12_init_4.at 34 rfl) ?_
  refine A_cast 317 rfl ar_81 (by decide) ⟨by decide, by decide⟩ ⟨by decide, by decide⟩ (D_X12_init_4.at 35 rfl) ?_
  refine J_dup 318 rfl rfl (D_X12_init_4.at 36 rfl) ?_
  refine J_iconst 319 rfl (D_X12_init_4.at 37 rfl) ?_
  refine J_bipush 321 rfl ⟨by decide, by decide⟩ (D_X12_init_4.at 38 rfl) ?_
  refine A_cast 322 rfl ar_81 (by decide) ⟨by decide, by decide⟩ ⟨by decide, by decide⟩ (D_X12_init_4.at 39 rfl) ?_
  refine J_dup 323 rfl rfl (D_X12_init_4.at 40 rfl) ?_
  refine J_iconst 324 rfl (D_X12_init_4.at 41 rfl) ?_
  refine J_bipush 326 rfl ⟨by decide, by decide⟩ (D_X12_init_4.at 42 rfl) ?_
  refine A_cast 327 rfl ar_81 (by decide) ⟨by decide, by decide⟩ ⟨by decide, by decide⟩ (D_X12_init_4.at 43 rfl) ?_
  refine J_dup 328 rfl rfl (D_X12_init_4.at 44 rfl) ?_
  refine J_iconst 329 rfl (D_X12_init_4.at 45 rfl) ?_
  refine J_bipush 331 rfl ⟨by decide, by decide⟩ (D_X12_init_4.at 46 rfl) ?_
  refine A_cast 332 rfl ar_81 (by decide) ⟨by decide, by decide⟩ ⟨by decide, by decide⟩ (D_X12_init_4.at 47 rfl) ?_
  refine J_dup 333 rfl rfl (D_X12_init_5.at 0 rfl) ?_
  refine J_iconst 334 rfl (D_X12_init_5.at 1 rfl) ?_
  refine J_bipush 336 rfl ⟨by decide, by decide⟩ (D_X12_init_5.at 2 rfl) ?_
  refine A_cast 337 rfl ar_81 (by decide) ⟨by decide, by decide⟩ ⟨by decide, by decide⟩ (D_X12_init_5.at 3 rfl) ?_
  refine A_putFR (jj := 20) (dd := 1013) 340 rfl (Or.inr ⟨_, rfl⟩) fl_12_51 ⟨isC_12, rfl⟩ rfl rfl (by decide) ⟨by decide, by decide⟩ ob_68 (by decide) (D_X12_init_5.at 4 rfl) ?_
  exact T
def U_X12_init_68_4 : List Up := ((0, 68, 22, 83) :: ((0, 83, 4, 115) :: ((0, 83, 3, 110) :: ((0, 83, 2, 105) :: ((0, 83, 1, 111) :: ((0, 83, 0, 106) :: ((1, 83, 0, 0) :: ((0, 68, 21, 82) :: ((0, 82, 4, 115) :: ((0, 82, 3, 101) :: ((0, 82, 2, 115) :: ((0, 82, 1, 105) :: ((0, 82, 0, 114) :: ((1, 82, 0, 0) :: []))))))))))))))
theorem kc_X12_init_68_4 {w : Wd} {h : Hp} {K : Int → Hp → Prop} (T : JG w false m_X12_init 1 137 84 404 [(0, vR 68)] [] (ap U_X12_init_68_4 h) K) : JG w false m_X12_init 1 137 82 340 [(0, vR 68)] [] h K := by
  show JG w false m_X12_init 1 137 82 340 [(0, vR 68)] [] (ap [] h) K
  refine J_aload_n 341 rfl 0 0 rfl ⟨by decide, by decide⟩ (D_X12_init_5.at 5 rfl) ?_
  refine J_iconst 342 rfl (D_X12_init_5.at 6 rfl) ?_
  refine A_newarr (n2 := 83) (ov := 82) (at' := .char) (len := 5) (kd := 3) 344 rfl rfl rfl rfl (by decide) ac_3 rfl ar_82 (by decide) (by decide +kernel) (D_X12_init_5.at 7 rfl) ?_
  refine J_dup 345 rfl rfl (D_X12_init_5.at 8 rfl) ?_
  refine J_iconst 346 rfl (D_X12_init_5.at 9 rfl) ?_
  refine J_bipush 348 rfl ⟨by decide, by decide⟩ (D_X12_init_5.at 10 rfl) ?_
  refine A_cast 349 rfl ar_82 (by decide) ⟨by decide, by decide⟩ ⟨by decide, by decide⟩ (D_X12_init_5.at 11 rfl) ?_
  refine J_dup 350 rfl rfl (D_X12_init_5.at 12 rfl) ?_
  refine J_iconst 351 rfl (D_X12_init_5.at 13 rfl) ?_
  refine J_bipush 353 rfl ⟨by decide, by decide⟩ (D_X12_init_5.at 14 rfl) ?_
  refine A_cast 354 rfl ar_82 (by decide) ⟨by decide, by decide⟩ ⟨by decide, by decide⟩ (D_X12_init_5.at 15 rfl) ?_
  refine J_dup 355 rfl rfl (D_X12_init_5.at 16 rfl) ?_
  refine J_iconst 356 rfl (D_X12_init_5.at 17 rfl) ?_
  refine J_bipush 358 rfl ⟨by decide, by decide⟩ (D_X12_init_5.at 18 rfl) ?_
  refine A_cast 359 rfl ar_82 (by decide) ⟨by decide, by decide⟩ ⟨by decide, by decide⟩ (D_X12_init_5.at 19 rfl) ?_
  refine J_dup 360 rfl rfl (D_X12_init_5.at 20 rfl) ?_
  refine J_iconst 361 rfl (D_X12_init_5.at 21 rfl) ?_
  refine J_bipush 363 rfl ⟨by decide, by decide⟩ (D_X12_init_5.at 22 rfl) ?_
  refine A_cast 364 rfl ar_82 (by decide) ⟨by decide, by decide⟩ ⟨by decide, by decide⟩ (D_X12_init_5.at 23 rfl) ?_
  refine J_dup 365 rfl rfl (D_X12_init_5.at 24 rfl) ?_
  refine J_iconst 366 rfl (D_X12_init_5.at 25 rfl) ?_
  refine J_bipush 368 rfl ⟨by decide, by decide⟩ (D_X12_init_5.at 26 rfl) ?_
  refine A_cast 369 rfl ar_82 (by decide) ⟨by decide, by decide⟩ ⟨by decide, by decide⟩ (D_X12_init_5.at 27 rfl) ?_
  refine A_putFR (jj := 21) (dd := 1014) 372 rfl (Or.inr ⟨_, rfl⟩) fl_12_54 ⟨isC_12, rfl⟩ rfl rfl (by decide) ⟨by decide, by decide⟩ ob_68 (by decide) (D_X12_init_5.at 28 rfl) ?_
  refine J_aload_n 373 rfl 0 0 rfl ⟨by decide, by decide⟩ (D_X12_init_5.at 29 rfl) ?_
  refine J_iconst 374 rfl (D_X12_init_5.at 30 rfl) ?_
  refine A_newarr (n2 := 84) (ov := 83) (at' := .char) (len := 5) (kd := 3) 376 rfl rfl rfl rfl (by decide) ac_3 rfl ar_83 (by decide) (by decide +kernel) (D_X12_init_5.at 31 rfl) ?_
  refine J_dup 377 rfl rfl (D_X12_init_5.at 32 rfl) ?_
  refine J_iconst 378 rfl (D_X12_init_5.at 33 rfl) ?_
  refine J_bipush 380 rfl ⟨by decide, by decide⟩ (D_X12_init_5.at 34 rfl) ?_
  refine A_cast 381 rfl ar_83 (by decide) ⟨by decide, by decide⟩ ⟨by decide, by decide⟩ (D_X12_init_5.at 35 rfl) ?_
  refine J_dup 382 rfl rfl (D_X12_init_5.at 36 rfl) ?_
  refine J_iconst 383 rfl (D_X12_init_5.at 37 rfl) ?_
  refine J_bipush 385 rfl ⟨by decide, by decide⟩ (D_X12_init_5.at 38 rfl) ?_
  refine A_cast 386 rfl ar_83 (by decide) ⟨by decide, by decide⟩ ⟨by decide, by decide⟩ (D_X12_init_5.at 39 rfl) ?_
  refine J_dup 387 rfl rfl (D_X12_init_5.at 40 rfl) ?_
  refine J_iconst 388 rfl (D_X12_init_5.at 41 rfl) ?_
  refine J_bipush 390 rfl ⟨by decide, by decide⟩ (D_X12_init_5.at 42 rfl) ?_
  refine A_cast 391 rfl ar_83 (by decide) ⟨by decide, by decide⟩ ⟨by decide, by decide⟩ (D_X12_init_5.at 43 rfl) ?_
  refine J_dup 392 rfl rfl (D_X12_init_5.at 44 rfl) ?_
  refine J_iconst 393 rfl (D_X12_init_5.at 45 rfl) ?_
  refine J_bipush 395 rfl ⟨by decide, by decide⟩ (D_X12_init_5.at 46 rfl) ?_
  refine A_cast 396 rfl ar_83 (by decide) ⟨by decide, by decide⟩ ⟨by decide, by decide⟩ (D_X12_init_5.at 47 rfl) ?_
  refine J_dup 397 rfl rfl (D_X12_init_6.at 0 rfl) ?_
  refine J_iconst 398 rfl (D_X12_init_6.at 1 rfl) ?_
  refine J_bipush 400 rfl ⟨by decide, by decide⟩ (D_X12_init_6.at 2 rfl) ?_
  refine A_cast 401 rfl ar_83 (by decide) ⟨by decide, by decide⟩ ⟨by decide, by decide⟩ (D_X12_init_6.at 3 rfl) ?_
  refine A_putFR (jj := 22) (dd := 1015) 404 rfl (Or.inr ⟨_, rfl⟩) fl_12_57 ⟨isC_12, rfl⟩ rfl rfl (by decide) ⟨by decide, by decide⟩ ob_68 (by decide) (D_X12_init_6.at 4 rfl) ?_
  exact T
def U_X12_init_68_5 : List Up := ((0, 68, 25, 86) :: ((0, 86, 3, 119) :: ((0, 86, 2, 111) :: ((0, 86, 1, 108) :: ((0, 86, 0, 102) :: ((1, 86, 0, 0) :: ((0, 68, 24, 85) :: ((0, 85, 4, 108) :: ((0, 85, 3, 101) :: ((0, 85, 2, 118) :: ((0, 85, 1, 101) :: ((0, 85, 0, 108) :: ((1, 85, 0, 0) :: ((0, 68, 23, 84) :: ((0, 84, 2, 98) :: ((0, 84, 1, 98) :: ((0, 84, 0, 101) :: ((1, 84, 0, 0) :: []))))))))))))))))))
theorem kc_X12_init_68_5 {w : Wd} {h : Hp} {K : Int → Hp → Prop} (T : JG w false m_X12_init 1 137 87 485 [(0, vR 68)] [] (ap U_X12_init_68_5 h) K) : JG w false m_X12_init 1 137 84 404 [(0, vR 68)] [] h K := by
  show JG w false m_X12_init 1 137 84 404 [(0, vR 68)] [] (ap [] h) K
  refine J_aload_n 405 rfl 0 0 rfl ⟨by decide, by decide⟩ (D_X12_init_6.at 5 rfl) ?_
  refine J_iconst 406 rfl (D_X12_init_6.at 6 rfl) ?_
  refine A_newarr (n2 := 85) (ov := 84) (at' := .char) (len := 3) (kd := 3) 408 rfl rfl rfl rfl (by decide) ac_3 rfl ar_84 (by decide) (by decide +kernel) (D_X12_init_6.at 7 rfl) ?_
  refine J_dup 409 rfl rfl (D_X12_init_6.at 8 rfl) ?_
  refine J_iconst 410 rfl (D_X12_init_6.at 9 rfl) ?_
  refine J_bipush 412 rfl ⟨by decide, by decide⟩ (D_X12_init_6.at 10 rfl) ?_
  refine A_cast 413 rfl ar_84 (by decide) ⟨by decide, by decide⟩ ⟨by decide, by decide⟩ (D_X12_init_6.at 11 rfl) ?_
  refine J_dup 414 rfl rfl (D_X12_init_6.at 12 rfl) ?_
  refine J_iconst 415 rfl (D_X12_init_6.at 13 rfl) ?_
  refine J_bipush 417 rfl ⟨by decide, by decide⟩ (D_X12_init_6.at 14 rfl) ?_
  refine A_cast 418 rfl ar_84 (by decide) ⟨by decide, by decide⟩ ⟨by decide, by decide⟩ (D_X12_init_6.at 15 rfl) ?_
  refine J_dup 419 rfl rfl (D_X12_init_6.at 16 rfl) ?_
  refine J_iconst 420 rfl (D_X12_init_6.at 17 rfl) ?_
  refine J_bipush 422 rfl ⟨by decide, by decide⟩ (D_X12_init_6.at 18 rfl) ?_
  refine A_cast 423 rfl ar_84 (by decide) ⟨by decide, by decide⟩ ⟨by decide, by decide⟩ (D_X12_init_6.at 19 rfl) ?_
  refine A_putFR (jj := 23) (dd := 1016) 426 rfl (Or.inr ⟨_, rfl⟩) fl_12_60 ⟨isC_12, rfl⟩ rfl rfl (by decide) ⟨by decide, by decide⟩ ob_68 (by decide) (D_X12_init_6.at 20 rfl) ?_
  refine J_aload_n 427 rfl 0 0 rfl ⟨by decide, by decide⟩ (D_X12_init_6.at 21 rfl) ?_
  refine J_iconst 428 rfl (D_X12_init_6.at 22 rfl) ?_
  refine A_newarr (n2 := 86) (ov := 85) (at' := .char) (len := 5) (kd := 3) 430 rfl rfl rfl rfl (by decide) ac_3 rfl ar_85 (by decide) (by decide +kernel) (D_X12_init_6.at 23 rfl) ?_
  refine J_dup 431 rfl rfl (D_X12_init_6.at 24 rfl) ?_
  refine J_iconst 432 rfl (D_X12_init_6.at 25 rfl) ?_
  refine J_bipush 434 rfl ⟨by decide, by decide⟩ (D_X12_init_6.at 26 rfl) ?_
  refine A_cast 435 rfl ar_85 (by decide) ⟨by decide, by decide⟩ ⟨by decide, by decide⟩ (D_X12_init_6.at 27 rfl) ?_
  refine J_dup 436 rfl rfl (D_X12_init_6.at 28 rfl) ?_
  refine J_iconst 437 rfl (D_X12_init_6.at 29 rfl) ?_
  refine J_bipush 439 rfl ⟨by decide, by decide⟩ (D_X12_init_6.at 30 rfl) ?_
  refine A_cast 440 rfl ar_85 (by decide) ⟨by decide, by decide⟩ ⟨by decide, by decide⟩ (D_X12_init_6.at 31 rfl) ?_
  refine J_dup 441 rfl rfl (D_X12_init_6.at 32 rfl) ?_
  refine J_iconst 442 rfl (D_X12_init_6.at 33 rfl) ?_
  refine J_bipush 444 rfl ⟨by decide, by decide⟩ (D_X12_init_6.at 34 rfl) ?_
  refine A_cast 445 rfl ar_85 (by decide) ⟨by decide, by decide⟩ ⟨by decide, by decide⟩ (D_X12_init_6.at 35 rfl) ?_
  refine J_dup 446 rfl rfl (D_X12_init_6.at 36 rfl) ?_
  refine J_iconst 447 rfl (D_X12_init_6.at 37 rfl) ?_
  refine J_bipush 449 rfl ⟨by decide, by decide⟩ (D_X12_init_6.at 38 rfl) ?_
  refine A_cast 450 rfl ar_85 (by decide) ⟨by decide, by decide⟩ ⟨by decide, by decide⟩ (D_X12_init_6.at 39 rfl) ?_
  refine J_dup 451 rfl rfl (D_X12_init_6.at 40 rfl) ?_
  refine J_iconst 452 rfl (D_X12_init_6.at 41 rfl) ?_
  refine J_bipush 454 rfl ⟨by decide, by decide⟩ (D_X12_init_6.at 42 rfl) ?_
  refine A_cast 455 rfl ar_85 (by decide) ⟨by decide, by decide⟩ ⟨by decide, by decide⟩ (D_X12_init_6.at 43 rfl) ?_
  refine A_putFR (jj := 24) (dd := 1017) 458 rfl (Or.inr ⟨_, rfl⟩) fl_12_63 ⟨isC_12, rfl⟩ rfl rfl (by decide) ⟨by decide, by decide⟩ ob_68 (by decide) (D_X12_init_6.at 44 rfl) ?_
  refine J_aload_n 459 rfl 0 0 rfl ⟨by decide, by decide⟩ (D_X12_init_6.at 45 rfl) ?_
  refine J_iconst 460 rfl (D_X12_init_6.at 46 rfl) ?_
  refine A_newarr (n2 := 87) (ov := 86) (at' := .char) (len := 4) (kd := 3) 462 rfl rfl rfl rfl (by decide) ac_3 rfl ar_86 (by decide) (by decide +kernel) (D_X12_init_6.at 47 rfl) ?_
  refine J_dup 463 rfl rfl (D_X12_init_7.at 0 rfl) ?_
  refine J_iconst 464 rfl (D_X12_init_7.at 1 rfl) ?_
  refine J_bipush 466 rfl ⟨by decide, by decide⟩ (D_X12_init_7.at 2 rfl) ?_
  refine A_cast 467 rfl ar_86 (by decide) ⟨by decide, by decide⟩ ⟨by decide, by decide⟩ (D_X12_init_7.at 3 rfl) ?_
  refine J_dup 468 rfl rfl (D_X12_init_7.at 4 rfl) ?_
  refine J_iconst 469 rfl (D_X12_init_7.at 5 rfl) ?_
  refine J_bipush 471 rfl ⟨by decide, by decide⟩ (D_X12_init_7.at 6 rfl) ?_
  refine A_cast 472 rfl ar_86 (by decide) ⟨by decide, by decide⟩ ⟨by decide, by decide⟩ (D_X12_init_7.at 7 rfl) ?_
  refine J_dup 473 rfl rfl (D_X12_init_7.at 8 rfl) ?_
  refine J_iconst 474 rfl (D_X12_init_7.at 9 rfl) ?_
  refine J_bipush 476 rfl ⟨by decide, by decide⟩ (D_X12_init_7.at 10 rfl) ?_
  refine A_cast 477 rfl ar_86 (by decide) ⟨by decide, by decide⟩ ⟨by decide, by decide⟩ (D_X12_init_7.at 11 rfl) ?_
  refine J_dup 478 rfl rfl (D_X12_init_7.at 12 rfl) ?_
  refine J_iconst 479 rfl (D_X12_init_7.at 13 rfl) ?_
  refine J_bipush 481 rfl ⟨by decide, by decide⟩ (D_X12_init_7.at 14 rfl) ?_
  refine A_cast 482 rfl ar_86 (by decide) ⟨by decide, by decide⟩ ⟨by decide, by decide⟩ (D_X12_init_7.at 15 rfl) ?_
  refine A_putFR (jj := 25) (dd := 1018) 485 rfl (Or.inr ⟨_, rfl⟩) fl_12_66 ⟨isC_12, rfl⟩ rfl rfl (by decide) ⟨by decide, by decide⟩ ob_68 (by decide) (D_X12_init_7.at 16 rfl) ?_
  exact T
def U_X12_init_68_6 : List Up := ((0, 68, 27, 88) :: ((0, 88, 5, 115) :: ((0, 88, 4, 101) :: ((0, 88, 3, 110) :: ((0, 88, 2, 111) :: ((0, 88, 1, 116) :: ((0, 88, 0, 115) :: ((1, 88, 0, 0) :: ((0, 68, 26, 87) :: ((0, 87, 3, 100) :: ((0, 87, 2, 108) :: ((0, 87, 1, 101) :: ((0, 87, 0, 104) :: ((1, 87, 0, 0) :: []))))))))))))))
theorem kc_X12_init_68_6 {w : Wd} {h : Hp} {K : Int → Hp → Prop} (T : JG w false m_X12_init 1 137 89 550 [(0, vR 68)] [] (ap U_X12_init_68_6 h) K) : JG w false m_X12_init 1 137 87 485 [(0, vR 68)] [] h K := by
  show JG w false m_X12_init 1 137 87 485 [(0, vR 68)] [] (ap [] h) K
  refine J_aload_n 486 rfl 0 0 rfl ⟨by decide, by decide⟩ (D_X12_init_7.at 17 rfl) ?_
  refine J_iconst 487 rfl (D_X12_init_7.at 18 rfl) ?_
  refine A_newarr (n2 := 88) (ov := 87) (at' := .char) (len := 4) (kd := 3) 489 rfl rfl rfl rfl (by decide) ac_3 rfl ar_87 (by decide) (by decide +kernel) (D_X12_init_7.at 19 rfl) ?_
  refine J_dup 490 rfl rfl (D_X12_init_7.at 20 rfl) ?_
  refine J_iconst 491 rfl (D_X12_init_7.at 21 rfl) ?_
  refine J_bipush 493 rfl ⟨by decide, by decide⟩ (D_X12_init_7.at 22 rfl) ?_
  refine A_cast 494 rfl ar_87 (by decide) ⟨by decide, by decide⟩ ⟨by decide, by decide⟩ (D_X12_init_7.at 23 rfl) ?_
  refine J_dup 495 rfl rfl (D_X12_init_7.at 24 rfl) ?_
  refine J_iconst 496 rfl (D_X12_init_7.at 25 rfl) ?_
  refine J_bipush 498 rfl ⟨by decide, by decide⟩ (D_X12_init_7.at 26 rfl) ?_
  refine A_cast 499 rfl ar_87 (by decide) ⟨by decide, by decide⟩ ⟨by decide, by decide⟩ (D_X12_init_7.at 27 rfl) ?_
  refine J_dup 500 rfl rfl (D_X12_init_7.at 28 rfl) ?_
  refine J_iconst 501 rfl (D_X12_init_7.at 29 rfl) ?_
  refine J_bipush 503 rfl ⟨by decide, by decide⟩ (D_X12_init_7.at 30 rfl) ?_
  refine A_cast 504 rfl ar_87 (by decide) ⟨by decide, by decide⟩ ⟨by decide, by decide⟩ (D_X12_init_7.at 31 rfl) ?_
  refine J_dup 505 rfl rfl (D_X12_init_7.at 32 rfl) ?_
  refine J_iconst 506 rfl (D_X12_init_7.at 33 rfl) ?_
  refine J_bipush 508 rfl ⟨by decide, by decide⟩ (D_X12_init_7.at 34 rfl) ?_
  refine A_cast 509 rfl ar_87 (by decide) ⟨by decide, by decide⟩ ⟨by decide, by decide⟩ (D_X12_init_7.at 35 rfl) ?_
  refine A_putFR (jj := 26) (dd := 1019) 512 rfl (Or.inr ⟨_, rfl⟩) fl_12_69 ⟨isC_12, rfl⟩ rfl rfl (by decide) ⟨by decide, by decide⟩ ob_68 (by decide) (D_X12_init_7.at 36 rfl) ?_
  refine J_aload_n 513 rfl 0 0 rfl ⟨by decide, by decide⟩ (D_X12_init_7.at 37 rfl) ?_
  refine J_bipush 515 rfl ⟨by decide, by decide⟩ (D_X12_init_7.at 38 rfl) ?_
  refine A_newarr (n2 := 89) (ov := 88) (at' := .char) (len := 6) (kd := 3) 517 rfl rfl rfl rfl (by decide) ac_3 rfl ar_88 (by decide) (by decide +kernel) (D_X12_init_7.at 39 rfl) ?_
  refine J_dup 518 rfl rfl (D_X12_init_7.at 40 rfl) ?_
  refine J_iconst 519 rfl (D_X12_init_7.at 41 rfl) ?_
  refine J_bipush 521 rfl ⟨by decide, by decide⟩ (D_X12_init_7.at 42 rfl) ?_
  refine A_cast 522 rfl ar_88 (by decide) ⟨by decide, by decide⟩ ⟨by decide, by decide⟩ (D_X12_init_7.at 43 rfl) ?_
  refine J_dup 523 rfl rfl (D_X12_init_7.at 44 rfl) ?_
  refine J_iconst 524 rfl (D_X12_init_7.at 45 rfl) ?_
  refine J_bipush 526 rfl ⟨by decide, by decide⟩ (D_X12_init_7.at 46 rfl) ?_
  refine A_cast 527 rfl ar_88 (by decide) ⟨by decide, by decide⟩ ⟨by decide, by decide⟩ (D_X12_init_7.at 47 rfl) ?_
  refine J_dup 528 rfl rfl (D_X12_init_8.at 0 rfl) ?_
  refine J_iconst 529 rfl (D_X12_init_8.at 1 rfl) ?_
  refine J_bipush 531 rfl ⟨by decide, by decide⟩ (D_X12_init_8.at 2 rfl) ?_
  refine A_cast 532 rfl ar_88 (by decide) ⟨by decide, by decide⟩ ⟨by decide, by decide⟩ (D_X12_init_8.at 3 rfl) ?_
  refine J_dup 533 rfl rfl (D_X12_init_8.at 4 rfl) ?_
  refine J_iconst 534 rfl (D_X12_init_8.at 5 rfl) ?_
  refine J_bipush 536 rfl ⟨by decide, by decide⟩ (D_X12_init_8.at 6 rfl) ?_
  refine A_cast 537 rfl ar_88 (by decide) ⟨by decide, by decide⟩ ⟨by decide, by decide⟩ (D_X12_init_8.at 7 rfl) ?_
  refine J_dup 538 rfl rfl (D_X12_init_8.at 8 rfl) ?_
  refine J_iconst 539 rfl (D_X12_init_8.at 9 rfl) ?_
  refine J_bipush 541 rfl ⟨by decide, by decide⟩ (D_X12_init_8.at 10 rfl) ?_
  refine A_cast 542 rfl ar_88 (by decide) ⟨by decide, by decide⟩ ⟨by decide, by decide⟩ (D_X12_init_8.at 11 rfl) ?_
  refine J_dup 543 rfl rfl (D_X12_init_8.at 12 rfl) ?_
  refine J_iconst 544 rfl (D_X12_init_8.at 13 rfl) ?_
  refine J_bipush 546 rfl ⟨by decide, by decide⟩ (D_X12_init_8.at 14 rfl) ?_
  refine A_cast 547 rfl ar_88 (by decide) ⟨by decide, by decide⟩ ⟨by decide, by decide⟩ (D_X12_init_8.at 15 rfl) ?_
  refine A_putFR (jj := 27) (dd := 1020) 550 rfl (Or.inr ⟨_, rfl⟩) fl_12_72 ⟨isC_12, rfl⟩ rfl rfl (by decide) ⟨by decide, by decide⟩ ob_68 (by decide) (D_X12_init_8.at 16 rfl) ?_
  exact T
def U_X12_init_68_7 : List Up := ((0, 68, 30, 91) :: ((0, 91, 2, 110) :: ((0, 91, 1, 105) :: ((0, 91, 0, 109) :: ((1, 91, 0, 0) :: ((0, 68, 29, 90) :: ((0, 90, 4, 101) :: ((0, 90, 3, 99) :: ((0, 90, 2, 97) :: ((0, 90, 1, 108) :: ((0, 90, 0, 112) :: ((1, 90, 0, 0) :: ((0, 68, 28, 89) :: ((0, 89, 3, 114) :: ((0, 89, 2, 97) :: ((0, 89, 1, 101) :: ((0, 89, 0, 121) :: ((1, 89, 0, 0) :: []))))))))))))))))))
theorem kc_X12_init_68_7 {w : Wd} {h : Hp} {K : Int → Hp → Prop} (T : JG w false m_X12_init 1 137 92 631 [(0, vR 68)] [] (ap U_X12_init_68_7 h) K) : JG w false m_X12_init 1 137 89 550 [(0, vR 68)] [] h K := by
  show JG w false m_X12_init 1 137 89 550 [(0, vR 68)] [] (ap [] h) K
  refine J_aload_n 551 rfl 0 0 rfl ⟨by decide, by decide⟩ (D_X12_init_8.at 17 rfl) ?_
  refine J_iconst 552 rfl (D_X12_init_8.at 18 rfl) ?_
  refine A_newarr (n2 := 90) (ov := 89) (at' := .char) (len := 4) (kd := 3) 554 rfl rfl rfl rfl (by decide) ac_3 rfl ar_89 (by decide) (by decide +kernel) (D_X12_init_8.at 19 rfl) ?_
  refine J_dup 555 rfl rfl (D_X12_init_8.at 20 rfl) ?_
  refine J_iconst 556 rfl (D_X12_init_8.at 21 rfl) ?_
  refine J_bipush 558 rfl ⟨by decide, by decide⟩ (D_X12_init_8.at 22 rfl) ?_
  refine A_cast 559 rfl ar_89 (by decide) ⟨by decide, by decide⟩ ⟨by decide, by decide⟩ (D_X12_init_8.at 23 rfl) ?_
  refine J_dup 560 rfl rfl (D_X12_init_8.at 24 rfl) ?_
  refine J_iconst 561 rfl (D_X12_init_8.at 25 rfl) ?_
  refine J_bipush 563 rfl ⟨by decide, by decide⟩ (D_X12_init_8.at 26 rfl) ?_
  refine A_cast 564 rfl ar_89 (by decide) ⟨by decide, by decide⟩ ⟨by decide, by decide⟩ (D_X12_init_8.at 27 rfl) ?_
  refine J_dup 565 rfl rfl (D_X12_init_8.at 28 rfl) ?_
  refine J_iconst 566 rfl (D_X12_init_8.at 29 rfl) ?_
  refine J_bipush 568 rfl ⟨by decide, by decide⟩ (D_X12_init_8.at 30 rfl) ?_
  refine A_cast 569 rfl ar_89 (by decide) ⟨by decide, by decide⟩ ⟨by decide, by decide⟩ (D_X12_init_8.at 31 rfl) ?_
  refine J_dup 570 rfl rfl (D_X12_init_8.at 32 rfl) ?_
  refine J_iconst 571 rfl (D_X12_init_8.at 33 rfl) ?_
  refine J_bipush 573 rfl ⟨by decide, by decide⟩ (D_X12_init_8.at 34 rfl) ?_
  refine A_cast 574 rfl ar_89 (by decide) ⟨by decide, by decide⟩ ⟨by decide, by decide⟩ (D_X12_init_8.at 35 rfl) ?_
  refine A_putFR (jj := 28) (dd := 1021) 577 rfl (Or.inr ⟨_, rfl⟩) fl_12_75 ⟨isC_12, rfl⟩ rfl rfl (by decide) ⟨by decide, by decide⟩ ob_68 (by decide) (D_X12_init_8.at 36 rfl) ?_
  refine J_aload_n 578 rfl 0 0 rfl ⟨by decide, by decide⟩ (D_X12_init_8.at 37 rfl) ?_
  refine J_iconst 579 rfl (D_X12_init_8.at 38 rfl) ?_
  refine A_newarr (n2 := 91) (ov := 90) (at' := .char) (len := 5) (kd := 3) 581 rfl rfl rfl rfl (by decide) ac_3 rfl ar_90 (by decide) (by decide +kernel) (D_X12_init_8.at 39 rfl) ?_
  refine J_dup 582 rfl rfl (D_X12_init_8.at 40 rfl) ?_
  refine J_iconst 583 rfl (D_X12_init_8.at 41 rfl) ?_
  refine J_bipush 585 rfl ⟨by decide, by decide⟩ (D_X12_init_8.at 42 rfl) ?_
  refine A_cast 586 rfl ar_90 (by decide) ⟨by decide, by decide⟩ ⟨by decide, by decide⟩ (D_X12_init_8.at 43 rfl) ?_
  refine J_dup 587 rfl rfl (D_X12_init_8.at 44 rfl) ?_
  refine J_iconst 588 rfl (D_X12_init_8.at 45 rfl) ?_
  refine J_bipush 590 rfl ⟨by decide, by decide⟩ (D_X12_init_8.at 46 rfl) ?_
  refine A_cast 591 rfl ar_90 (by decide) ⟨by decide, by decide⟩ ⟨by decide, by decide⟩ (D_X12_init_8.at 47 rfl) ?_
  refine J_dup 592 rfl rfl (D_X12_init_9.at 0 rfl) ?_
  refine J_iconst 593 rfl (D_X12_init_9.at 1 rfl) ?_
  refine J_bipush 595 rfl ⟨by decide, by decide⟩ (D_X12_init_9.at 2 rfl) ?_
  refine A_cast 596 rfl ar_90 (by decide) ⟨by decide, by decide⟩ ⟨by decide, by decide⟩ (D_X12_init_9.at 3 rfl) ?_
  refine J_dup 597 rfl rfl (D_X12_init_9.at 4 rfl) ?_
  refine J_iconst 598 rfl (D_X12_init_9.at 5 rfl) ?_
  refine J_bipush 600 rfl ⟨by decide, by decide⟩ (D_X12_init_9.at 6 rfl) ?_
  refine A_cast 601 rfl ar_90 (by decide) ⟨by decide, by decide⟩ ⟨by decide, by decide⟩ (D_X12_init_9.at 7 rfl) ?_
  refine J_dup 602 rfl rfl (D_X12_init_9.at 8 rfl) ?_
  refine J_iconst 603 rfl (D_X12_init_9.at 9 rfl) ?_
  refine J_bipush 605 rfl ⟨by decide, by decide⟩ (D_X12_init_9.at 10 rfl) ?_
  refine A_cast 606 rfl ar_90 (by decide) ⟨by decide, by decide⟩ ⟨by decide, by decide⟩ (D_X12_init_9.at 11 rfl) ?_
  refine A_putFR (jj := 29) (dd := 1022) 609 rfl (Or.inr ⟨_, rfl⟩) fl_12_78 ⟨isC_12, rfl⟩ rfl rfl (by decide) ⟨by decide, by decide⟩ ob_68 (by decide) (D_X12_init_9.at 12 rfl) ?_
  refine J_aload_n 610 rfl 0 0 rfl ⟨by decide, by decide⟩ (D_X12_init_9.at 13 rfl) ?_
  refine J_iconst 611 rfl (D_X12_init_9.at 14 rfl) ?_
  refine A_newarr (n2 := 92) (ov := 91) (at' := .char) (len := 3) (kd := 3) 613 rfl rfl rfl rfl (by decide) ac_3 rfl ar_91 (by decide) (by decide +kernel) (D_X12_init_9.at 15 rfl) ?_
  refine J_dup 614 rfl rfl (D_X12_init_9.at 16 rfl) ?_
  refine J_iconst 615 rfl (D_X12_init_9.at 17 rfl) ?_
  refine J_bipush 617 rfl ⟨by decide, by decide⟩ (D_X12_init_9.at 18 rfl) ?_
  refine A_cast 618 rfl ar_91 (by decide) ⟨by decide, by decide⟩ ⟨by decide, by decide⟩ (D_X12_init_9.at 19 rfl) ?_
  refine J_dup 619 rfl rfl (D_X12_init_9.at 20 rfl) ?_
  refine J_iconst 620 rfl (D_X12_init_9.at 21 rfl) ?_
  refine J_bipush 622 rfl ⟨by decide, by decide⟩ (D_X12_init_9.at 22 rfl) ?_
  refine A_cast 623 rfl ar_91 (by decide) ⟨by decide, by decide⟩ ⟨by decide, by decide⟩ (D_X12_init_9.at 23 rfl) ?_
  refine J_dup 624 rfl rfl (D_X12_init_9.at 24 rfl) ?_
  refine J_iconst 625 rfl (D_X12_init_9.at 25 rfl) ?_
  refine J_bipush 627 rfl ⟨by decide, by decide⟩ (D_X12_init_9.at 26 rfl) ?_
  refine A_cast 628 rfl ar_91 (by decide) ⟨by decide, by decide⟩ ⟨by decide, by decide⟩ (D_X12_init_9.at 27 rfl) ?_
  refine A_putFR (jj := 30) (dd := 1023) 631 rfl (Or.inr ⟨_, rfl⟩) fl_12_81 ⟨isC_12, rfl⟩ rfl rfl (by decide) ⟨by decide, by decide⟩ ob_68 (by decide) (D_X12_init_9.at 28 rfl) ?_
  exact T
def U_X12_init_68_8 : List Up := ((0, 68, 39, 97) :: ((0, 97, 5, 0) :: ((0, 97, 4, 20) :: ((0, 97, 3, 10) :: ((0, 97, 2, 0) :: ((0, 97, 1, 20) :: ((0, 97, 0, 10) :: ((1, 97, 0, 0) :: ((0, 68, 38, 96) :: ((1, 96, 0, 0) :: ((0, 68, 37, 95) :: ((1, 95, 0, 0) :: ((0, 68, 34, 94) :: ((1, 94, 0, 0) :: ((0, 68, 33, 93) :: ((1, 93, 0, 0) :: ((0, 68, 31, 92) :: ((0, 92, 2, 120) :: ((0, 92, 1, 97) :: ((0, 92, 0, 109) :: ((1, 92, 0, 0) :: [])))))))))))))))))))))
theorem kc_X12_init_68_8 {w : Wd} {h : Hp} {K : Int → Hp → Prop} (T : JG w false m_X12_init 1 137 98 721 [(0, vR 68)] [] (ap U_X12_init_68_8 h) K) : JG w false m_X12_init 1 137 92 631 [(0, vR 68)] [] h K := by
  show JG w false m_X12_init 1 137 92 631 [(0, vR 68)] [] (ap [] h) K
  refine J_aload_n 632 rfl 0 0 rfl ⟨by decide, by decide⟩ (D_X12_init_9.at 29 rfl) ?_
  refine J_iconst 633 rfl (D_X12_init_9.at 30 rfl) ?_
  refine A_newarr (n2 := 93) (ov := 92) (at' := .char) (len := 3) (kd := 3) 635 rfl rfl rfl rfl (by decide) ac_3 rfl ar_92 (by decide) (by decide +kernel) (D_X12_init_9.at 31 rfl) ?_
  refine J_dup 636 rfl rfl (D_X12_init_9.at 32 rfl) ?_
  refine J_iconst 637 rfl (D_X12_init_9.at 33 rfl) ?_
  refine J_bipush 639 rfl ⟨by decide, by decide⟩ (D_X12_init_9.at 34 rfl) ?_
  refine A_cast 640 rfl ar_92 (by decide) ⟨by decide, by decide⟩ ⟨by decide, by decide⟩ (D_X12_init_9.at 35 rfl) ?_
  refine J_dup 641 rfl rfl (D_X12_init_9.at 36 rfl) ?_
  refine J_iconst 642 rfl (D_X12_init_9.at 37 rfl) ?_
  refine J_bipush 644 rfl ⟨by decide, by decide⟩ (D_X12_init_9.at 38 rfl) ?_
  refine A_cast 645 rfl ar_92 (by decide) ⟨by decide, by decide⟩ ⟨by decide, by decide⟩ (D_X12_init_9.at 39 rfl) ?_
  refine J_dup 646 rfl rfl (D_X12_init_9.at 40 rfl) ?_
  refine J_iconst 647 rfl (D_X12_init_9.at 41 rfl) ?_
  refine J_bipush 649 rfl ⟨by decide, by decide⟩ (D_X12_init_9.at 42 rfl) ?_
  refine A_cast 650 rfl ar_92 (by decide) ⟨by decide, by decide⟩ ⟨by decide, by decide⟩ (D_X12_init_9.at 43 rfl) ?_
  refine A_putFR (jj := 31) (dd := 1024) 653 rfl (Or.inr ⟨_, rfl⟩) fl_12_84 ⟨isC_12, rfl⟩ rfl rfl (by decide) ⟨by decide, by decide⟩ ob_68 (by decide) (D_X12_init_9.at 44 rfl) ?_
  refine J_aload_n 654 rfl 0 0 rfl ⟨by decide, by decide⟩ (D_X12_init_9.at 45 rfl) ?_
  refine J_bipush 656 rfl ⟨by decide, by decide⟩ (D_X12_init_9.at 46 rfl) ?_
  refine A_newarr (n2 := 94) (ov := 93) (at' := .int) (len := 6) (kd := 0) 658 rfl rfl rfl rfl (by decide) ac_0 rfl ar_93 (by decide) (by decide +kernel) (D_X12_init_9.at 47 rfl) ?_
  refine A_putFR (jj := 33) (dd := 1025) 661 rfl (Or.inr ⟨_, rfl⟩) fl_12_87 ⟨isC_12, rfl⟩ rfl rfl (by decide) ⟨by decide, by decide⟩ ob_68 (by decide) (D_X12_init_10.at 0 rfl) ?_
  refine J_aload_n 662 rfl 0 0 rfl ⟨by decide, by decide⟩ (D_X12_init_10.at 1 rfl) ?_
  refine J_bipush 664 rfl ⟨by decide, by decide⟩ (D_X12_init_10.at 2 rfl) ?_
  refine A_newarr (n2 := 95) (ov := 94) (at' := .long) (len := 60) (kd := 1) 666 rfl rfl rfl rfl (by decide) ac_1 rfl ar_94 (by decide) (by decide +kernel) (D_X12_init_10.at 3 rfl) ?_
  refine A_putFR (jj := 34) (dd := 1026) 669 rfl (Or.inr ⟨_, rfl⟩) fl_12_90 ⟨isC_12, rfl⟩ rfl rfl (by decide) ⟨by decide, by decide⟩ ob_68 (by decide) (D_X12_init_10.at 4 rfl) ?_
  refine J_aload_n 670 rfl 0 0 rfl ⟨by decide, by decide⟩ (D_X12_init_10.at 5 rfl) ?_
  refine J_bipush 672 rfl ⟨by decide, by decide⟩ (D_X12_init_10.at 6 rfl) ?_
  refine A_newarr (n2 := 96) (ov := 95) (at' := .int) (len := 16) (kd := 0) 674 rfl rfl rfl rfl (by decide) ac_0 rfl ar_95 (by decide) (by decide +kernel) (D_X12_init_10.at 7 rfl) ?_
  refine A_putFR (jj := 37) (dd := 1027) 677 rfl (Or.inr ⟨_, rfl⟩) fl_12_94 ⟨isC_12, rfl⟩ rfl rfl (by decide) ⟨by decide, by decide⟩ ob_68 (by decide) (D_X12_init_10.at 8 rfl) ?_
  refine J_aload_n 678 rfl 0 0 rfl ⟨by decide, by decide⟩ (D_X12_init_10.at 9 rfl) ?_
  refine J_bipush 680 rfl ⟨by decide, by decide⟩ (D_X12_init_10.at 10 rfl) ?_
  refine A_newarr (n2 := 97) (ov := 96) (at' := .int) (len := 100) (kd := 0) 682 rfl rfl rfl rfl (by decide) ac_0 rfl ar_96 (by decide) (by decide +kernel) (D_X12_init_10.at 11 rfl) ?_
  refine A_putFR (jj := 38) (dd := 1028) 685 rfl (Or.inr ⟨_, rfl⟩) fl_12_97 ⟨isC_12, rfl⟩ rfl rfl (by decide) ⟨by decide, by decide⟩ ob_68 (by decide) (D_X12_init_10.at 12 rfl) ?_
  refine J_aload_n 686 rfl 0 0 rfl ⟨by decide, by decide⟩ (D_X12_init_10.at 13 rfl) ?_
  refine J_bipush 688 rfl ⟨by decide, by decide⟩ (D_X12_init_10.at 14 rfl) ?_
  refine A_newarr (n2 := 98) (ov := 97) (at' := .int) (len := 6) (kd := 0) 690 rfl rfl rfl rfl (by decide) ac_0 rfl ar_97 (by decide) (by decide +kernel) (D_X12_init_10.at 15 rfl) ?_
  refine J_dup 691 rfl rfl (D_X12_init_10.at 16 rfl) ?_
  refine J_iconst 692 rfl (D_X12_init_10.at 17 rfl) ?_
  refine J_bipush 694 rfl ⟨by decide, by decide⟩ (D_X12_init_10.at 18 rfl) ?_
  refine A_iast 695 rfl ar_97 (by decide) ⟨by decide, by decide⟩ (D_X12_init_10.at 19 rfl) ?_
  refine J_dup 696 rfl rfl (D_X12_init_10.at 20 rfl) ?_
  refine J_iconst 697 rfl (D_X12_init_10.at 21 rfl) ?_
  refine J_bipush 699 rfl ⟨by decide, by decide⟩ (D_X12_init_10.at 22 rfl) ?_
  refine A_iast 700 rfl ar_97 (by decide) ⟨by decide, by decide⟩ (D_X12_init_10.at 23 rfl) ?_
  refine J_dup 701 rfl rfl (D_X12_init_10.at 24 rfl) ?_
  refine J_iconst 702 rfl (D_X12_init_10.at 25 rfl) ?_
  refine J_iconst 703 rfl (D_X12_init_10.at 26 rfl) ?_
  refine A_iast 704 rfl ar_97 (by decide) ⟨by decide, by decide⟩ (D_X12_init_10.at 27 rfl) ?_
  refine J_dup 705 rfl rfl (D_X12_init_10.at 28 rfl) ?_
  refine J_iconst 706 rfl (D_X12_init_10.at 29 rfl) ?_
  refine J_bipush 708 rfl ⟨by decide, by decide⟩ (D_X12_init_10.at 30 rfl) ?_
  refine A_iast 709 rfl ar_97 (by decide) ⟨by decide, by decide⟩ (D_X12_init_10.at 31 rfl) ?_
  refine J_dup 710 rfl rfl (D_X12_init_10.at 32 rfl) ?_
  refine J_iconst 711 rfl (D_X12_init_10.at 33 rfl) ?_
  refine J_bipush 713 rfl ⟨by decide, by decide⟩ (D_X12_init_10.at 34 rfl) ?_
  refine A_iast 714 rfl ar_97 (by decide) ⟨by decide, by decide⟩ (D_X12_init_10.at 35 rfl) ?_
  refine J_dup 715 rfl rfl (D_X12_init_10.at 36 rfl) ?_
  refine J_iconst 716 rfl (D_X12_init_10.at 37 rfl) ?_
  refine J_iconst 717 rfl (D_X12_init_10.at 38 rfl) ?_
  refine A_iast 718 rfl ar_97 (by decide) ⟨by decide, by decide⟩ (D_X12_init_10.at 39 rfl) ?_
  refine A_putFR (jj := 39) (dd := 1029) 721 rfl (Or.inr ⟨_, rfl⟩) fl_12_100 ⟨isC_12, rfl⟩ rfl rfl (by decide) ⟨by decide, by decide⟩ ob_68 (by decide) (D_X12_init_10.at 40 rfl) ?_
  exact T
def U_X12_init_68_9 : List Up := ((0, 68, 57, 109) :: ((1, 109, 0, 0) :: ((0, 68, 56, 108) :: ((1, 108, 0, 0) :: ((0, 68, 55, 107) :: ((1, 107, 0, 0) :: ((0, 68, 54, 106) :: ((1, 106, 0, 0) :: ((0, 68, 53, 105) :: ((1, 105, 0, 0) :: ((0, 68, 52, 104) :: ((1, 104, 0, 0) :: ((0, 68, 51, 103) :: ((1, 103, 0, 0) :: ((0, 68, 49, 102) :: ((1, 102, 0, 0) :: ((0, 68, 45, 101) :: ((1, 101, 0, 0) :: ((0, 68, 43, 100) :: ((1, 100, 0, 0) :: ((0, 68, 41, 99) :: ((1, 99, 0, 0) :: ((0, 68, 40, 98) :: ((1, 98, 0, 0) :: []))))))))))))))))))))))))
theorem kc_X12_init_68_9 {w : Wd} {h : Hp} {K : Int → Hp → Prop} (T : JG w false m_X12_init 1 137 110 818 [(0, vR 68)] [] (ap U_X12_init_68_9 h) K) : JG w false m_X12_init 1 137 98 721 [(0, vR 68)] [] h K := by
  show JG w false m_X12_init 1 137 98 721 [(0, vR 68)] [] (ap [] h) K
  refine J_aload_n 722 rfl 0 0 rfl ⟨by decide, by decide⟩ (D_X12_init_10.at 41 rfl) ?_
  refine J_iconst 723 rfl (D_X12_init_10.at 42 rfl) ?_
  refine A_newarr (n2 := 99) (ov := 98) (at' := .int) (len := 4) (kd := 0) 725 rfl rfl rfl rfl (by decide) ac_0 rfl ar_98 (by decide) (by decide +kernel) (D_X12_init_10.at 43 rfl) ?_
  refine A_putFR (jj := 40) (dd := 1030) 728 rfl (Or.inr ⟨_, rfl⟩) fl_12_103 ⟨isC_12, rfl⟩ rfl rfl (by decide) ⟨by decide, by decide⟩ ob_68 (by decide) (D_X12_init_10.at 44 rfl) ?_
  refine J_aload_n 729 rfl 0 0 rfl ⟨by decide, by decide⟩ (D_X12_init_10.at 45 rfl) ?_
  refine J_iconst 730 rfl (D_X12_init_10.at 46 rfl) ?_
  refine A_newarr (n2 := 100) (ov := 99) (at' := .int) (len := 4) (kd := 0) 732 rfl rfl rfl rfl (by decide) ac_0 rfl ar_99 (by decide) (by decide +kernel) (D_X12_init_10.at 47 rfl) ?_
  refine A_putFR (jj := 41) (dd := 1031) 735 rfl (Or.inr ⟨_, rfl⟩) fl_12_106 ⟨isC_12, rfl⟩ rfl rfl (by decide) ⟨by decide, by decide⟩ ob_68 (by decide) (D_X12_init_11.at 0 rfl) ?_
  refine J_aload_n 736 rfl 0 0 rfl ⟨by decide, by decide⟩ (D_X12_init_11.at 1 rfl) ?_
  refine J_sipush 739 rfl ⟨by decide, by decide⟩ (D_X12_init_11.at 2 rfl) ?_
  refine A_newarr (n2 := 101) (ov := 100) (at' := .int) (len := 3200) (kd := 0) 741 rfl rfl rfl rfl (by decide) ac_0 rfl ar_100 (by decide) (by decide +kernel) (D_X12_init_11.at 3 rfl) ?_
  refine A_putFR (jj := 43) (dd := 1032) 744 rfl (Or.inr ⟨_, rfl⟩) fl_12_109 ⟨isC_12, rfl⟩ rfl rfl (by decide) ⟨by decide, by decide⟩ ob_68 (by decide) (D_X12_init_11.at 4 rfl) ?_
  refine J_aload_n 745 rfl 0 0 rfl ⟨by decide, by decide⟩ (D_X12_init_11.at 5 rfl) ?_
  refine J_sipush 748 rfl ⟨by decide, by decide⟩ (D_X12_init_11.at 6 rfl) ?_
  refine A_newarr (n2 := 102) (ov := 101) (at' := .int) (len := 1700) (kd := 0) 750 rfl rfl rfl rfl (by decide) ac_0 rfl ar_101 (by decide) (by decide +kernel) (D_X12_init_11.at 7 rfl) ?_
  refine A_putFR (jj := 45) (dd := 1033) 753 rfl (Or.inr ⟨_, rfl⟩) fl_12_112 ⟨isC_12, rfl⟩ rfl rfl (by decide) ⟨by decide, by decide⟩ ob_68 (by decide) (D_X12_init_11.at 8 rfl) ?_
  refine J_aload_n 754 rfl 0 0 rfl ⟨by decide, by decide⟩ (D_X12_init_11.at 9 rfl) ?_
  refine J_sipush 757 rfl ⟨by decide, by decide⟩ (D_X12_init_11.at 10 rfl) ?_
  refine A_newarr (n2 := 103) (ov := 102) (at' := .long) (len := 1700) (kd := 1) 759 rfl rfl rfl rfl (by decide) ac_1 rfl ar_102 (by decide) (by decide +kernel) (D_X12_init_11.at 11 rfl) ?_
  refine A_putFR (jj := 49) (dd := 1034) 762 rfl (Or.inr ⟨_, rfl⟩) fl_12_115 ⟨isC_12, rfl⟩ rfl rfl (by decide) ⟨by decide, by decide⟩ ob_68 (by decide) (D_X12_init_11.at 12 rfl) ?_
  refine J_aload_n 763 rfl 0 0 rfl ⟨by decide, by decide⟩ (D_X12_init_11.at 13 rfl) ?_
  refine J_bipush 765 rfl ⟨by decide, by decide⟩ (D_X12_init_11.at 14 rfl) ?_
  refine A_newarr (n2 := 104) (ov := 103) (at' := .int) (len := 7) (kd := 0) 767 rfl rfl rfl rfl (by decide) ac_0 rfl ar_103 (by decide) (by decide +kernel) (D_X12_init_11.at 15 rfl) ?_
  refine A_putFR (jj := 51) (dd := 1035) 770 rfl (Or.inr ⟨_, rfl⟩) fl_12_118 ⟨isC_12, rfl⟩ rfl rfl (by decide) ⟨by decide, by decide⟩ ob_68 (by decide) (D_X12_init_11.at 16 rfl) ?_
  refine J_aload_n 771 rfl 0 0 rfl ⟨by decide, by decide⟩ (D_X12_init_11.at 17 rfl) ?_
  refine J_bipush 773 rfl ⟨by decide, by decide⟩ (D_X12_init_11.at 18 rfl) ?_
  refine A_newarr (n2 := 105) (ov := 104) (at' := .int) (len := 109) (kd := 0) 775 rfl rfl rfl rfl (by decide) ac_0 rfl ar_104 (by decide) (by decide +kernel) (D_X12_init_11.at 19 rfl) ?_
  refine A_putFR (jj := 52) (dd := 1036) 778 rfl (Or.inr ⟨_, rfl⟩) fl_12_121 ⟨isC_12, rfl⟩ rfl rfl (by decide) ⟨by decide, by decide⟩ ob_68 (by decide) (D_X12_init_11.at 20 rfl) ?_
  refine J_aload_n 779 rfl 0 0 rfl ⟨by decide, by decide⟩ (D_X12_init_11.at 21 rfl) ?_
  refine J_bipush 781 rfl ⟨by decide, by decide⟩ (D_X12_init_11.at 22 rfl) ?_
  refine A_newarr (n2 := 106) (ov := 105) (at' := .int) (len := 8) (kd := 0) 783 rfl rfl rfl rfl (by decide) ac_0 rfl ar_105 (by decide) (by decide +kernel) (D_X12_init_11.at 23 rfl) ?_
  refine A_putFR (jj := 53) (dd := 1037) 786 rfl (Or.inr ⟨_, rfl⟩) fl_12_124 ⟨isC_12, rfl⟩ rfl rfl (by decide) ⟨by decide, by decide⟩ ob_68 (by decide) (D_X12_init_11.at 24 rfl) ?_
  refine J_aload_n 787 rfl 0 0 rfl ⟨by decide, by decide⟩ (D_X12_init_11.at 25 rfl) ?_
  refine J_bipush 789 rfl ⟨by decide, by decide⟩ (D_X12_init_11.at 26 rfl) ?_
  refine A_newarr (n2 := 107) (ov := 106) (at' := .int) (len := 10) (kd := 0) 791 rfl rfl rfl rfl (by decide) ac_0 rfl ar_106 (by decide) (by decide +kernel) (D_X12_init_11.at 27 rfl) ?_
  refine A_putFR (jj := 54) (dd := 1038) 794 rfl (Or.inr ⟨_, rfl⟩) fl_12_127 ⟨isC_12, rfl⟩ rfl rfl (by decide) ⟨by decide, by decide⟩ ob_68 (by decide) (D_X12_init_11.at 28 rfl) ?_
  refine J_aload_n 795 rfl 0 0 rfl ⟨by decide, by decide⟩ (D_X12_init_11.at 29 rfl) ?_
  refine J_bipush 797 rfl ⟨by decide, by decide⟩ (D_X12_init_11.at 30 rfl) ?_
  refine A_newarr (n2 := 108) (ov := 107) (at' := .int) (len := 10) (kd := 0) 799 rfl rfl rfl rfl (by decide) ac_0 rfl ar_107 (by decide) (by decide +kernel) (D_X12_init_11.at 31 rfl) ?_
  refine A_putFR (jj := 55) (dd := 1039) 802 rfl (Or.inr ⟨_, rfl⟩) fl_12_130 ⟨isC_12, rfl⟩ rfl rfl (by decide) ⟨by decide, by decide⟩ ob_68 (by decide) (D_X12_init_11.at 32 rfl) ?_
  refine J_aload_n 803 rfl 0 0 rfl ⟨by decide, by decide⟩ (D_X12_init_11.at 33 rfl) ?_
  refine J_bipush 805 rfl ⟨by decide, by decide⟩ (D_X12_init_11.at 34 rfl) ?_
  refine A_newarr (n2 := 109) (ov := 108) (at' := .int) (len := 10) (kd := 0) 807 rfl rfl rfl rfl (by decide) ac_0 rfl ar_108 (by decide) (by decide +kernel) (D_X12_init_11.at 35 rfl) ?_
  refine A_putFR (jj := 56) (dd := 1040) 810 rfl (Or.inr ⟨_, rfl⟩) fl_12_133 ⟨isC_12, rfl⟩ rfl rfl (by decide) ⟨by decide, by decide⟩ ob_68 (by decide) (D_X12_init_11.at 36 rfl) ?_
  refine J_aload_n 811 rfl 0 0 rfl ⟨by decide, by decide⟩ (D_X12_init_11.at 37 rfl) ?_
  refine J_bipush 813 rfl ⟨by decide, by decide⟩ (D_X12_init_11.at 38 rfl) ?_
  refine A_newarr (n2 := 110) (ov := 109) (at' := .int) (len := 80) (kd := 0) 815 rfl rfl rfl rfl (by decide) ac_0 rfl ar_109 (by decide) (by decide +kernel) (D_X12_init_11.at 39 rfl) ?_
  refine A_putFR (jj := 57) (dd := 1041) 818 rfl (Or.inr ⟨_, rfl⟩) fl_12_136 ⟨isC_12, rfl⟩ rfl rfl (by decide) ⟨by decide, by decide⟩ ob_68 (by decide) (D_X12_init_11.at 40 rfl) ?_
  exact T
def U_X12_init_68_10 : List Up := ((0, 68, 69, 116) :: ((0, 116, 4, 116) :: ((0, 116, 3, 115) :: ((0, 116, 2, 114) :: ((0, 116, 1, 105) :: ((0, 116, 0, 102) :: ((1, 116, 0, 0) :: ((0, 68, 68, 115) :: ((1, 115, 0, 0) :: ((0, 68, 66, 114) :: ((1, 114, 0, 0) :: ((0, 68, 64, 113) :: ((1, 113, 0, 0) :: ((0, 68, 63, 1) :: ((0, 68, 60, 112) :: ((1, 112, 0, 0) :: ((0, 68, 59, 111) :: ((1, 111, 0, 0) :: ((0, 68, 58, 110) :: ((1, 110, 0, 0) :: []))))))))))))))))))))
theorem kc_X12_init_68_10 {w : Wd} {h : Hp} {K : Int → Hp → Prop} (T : JG w false m_X12_init 1 137 117 904 [(0, vR 68)] [] (ap U_X12_init_68_10 h) K) : JG w false m_X12_init 1 137 110 818 [(0, vR 68)] [] h K := by
  show JG w false m_X12_init 1 137 110 818 [(0, vR 68)] [] (ap [] h) K
  refine J_aload_n 819 rfl 0 0 rfl ⟨by decide, by decide⟩ (D_X12_init_11.at 41 rfl) ?_
  refine J_bipush 821 rfl ⟨by decide, by decide⟩ (D_X12_init_11.at 42 rfl) ?_
  refine A_newarr (n2 := 111) (ov := 110) (at' := .int) (len := 80) (kd := 0) 823 rfl rfl rfl rfl (by decide) ac_0 rfl ar_110 (by decide) (by decide +kernel) (D_X12_init_11.at 43 rfl) ?_
  refine A_putFR (jj := 58) (dd := 1042) 826 rfl (Or.inr ⟨_, rfl⟩) fl_12_139 ⟨isC_12, rfl⟩ rfl rfl (by decide) ⟨by decide, by decide⟩ ob_68 (by decide) (D_X12_init_11.at 44 rfl) ?_
  refine J_aload_n 827 rfl 0 0 rfl ⟨by decide, by decide⟩ (D_X12_init_11.at 45 rfl) ?_
  refine J_bipush 829 rfl ⟨by decide, by decide⟩ (D_X12_init_11.at 46 rfl) ?_
  refine A_newarr (n2 := 112) (ov := 111) (at' := .int) (len := 10) (kd := 0) 831 rfl rfl rfl rfl (by decide) ac_0 rfl ar_111 (by decide) (by decide +kernel) (D_X12_init_11.at 47 rfl) ?_
  refine A_putFR (jj := 59) (dd := 1043) 834 rfl (Or.inr ⟨_, rfl⟩) fl_12_142 ⟨isC_12, rfl⟩ rfl rfl (by decide) ⟨by decide, by decide⟩ ob_68 (by decide) (D_X12_init_12.at 0 rfl) ?_
  refine J_aload_n 835 rfl 0 0 rfl ⟨by decide, by decide⟩ (D_X12_init_12.at 1 rfl) ?_
  refine J_sipush 838 rfl ⟨by decide, by decide⟩ (D_X12_init_12.at 2 rfl) ?_
  refine A_newarr (n2 := 113) (ov := 112) (at' := .int) (len := 2180) (kd := 0) 840 rfl rfl rfl rfl (by decide) ac_0 rfl ar_112 (by decide) (by decide +kernel) (D_X12_init_12.at 3 rfl) ?_
  refine A_putFR (jj := 60) (dd := 1044) 843 rfl (Or.inr ⟨_, rfl⟩) fl_12_145 ⟨isC_12, rfl⟩ rfl rfl (by decide) ⟨by decide, by decide⟩ ob_68 (by decide) (D_X12_init_12.at 4 rfl) ?_
  refine J_aload_n 844 rfl 0 0 rfl ⟨by decide, by decide⟩ (D_X12_init_12.at 5 rfl) ?_
  refine J_lconst (z := 1) 845 rfl rfl (D_X12_init_12.at 6 rfl) ?_
  refine A_putL (jj := 63) 848 rfl fl_12_148 rfl rfl ob_68 (by decide) (D_X12_init_12.at 7 rfl) ?_
  refine J_aload_n 849 rfl 0 0 rfl ⟨by decide, by decide⟩ (D_X12_init_12.at 8 rfl) ?_
  refine J_bipush 851 rfl ⟨by decide, by decide⟩ (D_X12_init_12.at 9 rfl) ?_
  refine A_newarr (n2 := 114) (ov := 113) (at' := .int) (len := 8) (kd := 0) 853 rfl rfl rfl rfl (by decide) ac_0 rfl ar_113 (by decide) (by decide +kernel) (D_X12_init_12.at 10 rfl) ?_
  refine A_putFR (jj := 64) (dd := 1045) 856 rfl (Or.inr ⟨_, rfl⟩) fl_12_152 ⟨isC_12, rfl⟩ rfl rfl (by decide) ⟨by decide, by decide⟩ ob_68 (by decide) (D_X12_init_12.at 11 rfl) ?_
  refine J_aload_n 857 rfl 0 0 rfl ⟨by decide, by decide⟩ (D_X12_init_12.at 12 rfl) ?_
  refine J_bipush 859 rfl ⟨by decide, by decide⟩ (D_X12_init_12.at 13 rfl) ?_
  refine A_newarr (n2 := 115) (ov := 114) (at' := .int) (len := 109) (kd := 0) 861 rfl rfl rfl rfl (by decide) ac_0 rfl ar_114 (by decide) (by decide +kernel) (D_X12_init_12.at 14 rfl) ?_
  refine A_putFR (jj := 66) (dd := 1046) 864 rfl (Or.inr ⟨_, rfl⟩) fl_12_155 ⟨isC_12, rfl⟩ rfl rfl (by decide) ⟨by decide, by decide⟩ ob_68 (by decide) (D_X12_init_12.at 15 rfl) ?_
  refine J_aload_n 865 rfl 0 0 rfl ⟨by decide, by decide⟩ (D_X12_init_12.at 16 rfl) ?_
  refine J_bipush 867 rfl ⟨by decide, by decide⟩ (D_X12_init_12.at 17 rfl) ?_
  refine A_newarr (n2 := 116) (ov := 115) (at' := .int) (len := 8) (kd := 0) 869 rfl rfl rfl rfl (by decide) ac_0 rfl ar_115 (by decide) (by decide +kernel) (D_X12_init_12.at 18 rfl) ?_
  refine A_putFR (jj := 68) (dd := 1047) 872 rfl (Or.inr ⟨_, rfl⟩) fl_12_158 ⟨isC_12, rfl⟩ rfl rfl (by decide) ⟨by decide, by decide⟩ ob_68 (by decide) (D_X12_init_12.at 19 rfl) ?_
  refine J_aload_n 873 rfl 0 0 rfl ⟨by decide, by decide⟩ (D_X12_init_12.at 20 rfl) ?_
  refine J_iconst 874 rfl (D_X12_init_12.at 21 rfl) ?_
  refine A_newarr (n2 := 117) (ov := 116) (at' := .char) (len := 5) (kd := 3) 876 rfl rfl rfl rfl (by decide) ac_3 rfl ar_116 (by decide) (by decide +kernel) (D_X12_init_12.at 22 rfl) ?_
  refine J_dup 877 rfl rfl (D_X12_init_12.at 23 rfl) ?_
  refine J_iconst 878 rfl (D_X12_init_12.at 24 rfl) ?_
  refine J_bipush 880 rfl ⟨by decide, by decide⟩ (D_X12_init_12.at 25 rfl) ?_
  refine A_cast 881 rfl ar_116 (by decide) ⟨by decide, by decide⟩ ⟨by decide, by decide⟩ (D_X12_init_12.at 26 rfl) ?_
  refine J_dup 882 rfl rfl (D_X12_init_12.at 27 rfl) ?_
  refine J_iconst 883 rfl (D_X12_init_12.at 28 rfl) ?_
  refine J_bipush 885 rfl ⟨by decide, by decide⟩ (D_X12_init_12.at 29 rfl) ?_
  refine A_cast 886 rfl ar_116 (by decide) ⟨by decide, by decide⟩ ⟨by decide, by decide⟩ (D_X12_init_12.at 30 rfl) ?_
  refine J_dup 887 rfl rfl (D_X12_init_12.at 31 rfl) ?_
  refine J_iconst 888 rfl (D_X12_init_12.at 32 rfl) ?_
  refine J_bipush 890 rfl ⟨by decide, by decide⟩ (D_X12_init_12.at 33 rfl) ?_
  refine A_cast 891 rfl ar_116 (by decide) ⟨by decide, by decide⟩ ⟨by decide, by decide⟩ (D_X12_init_12.at 34 rfl) ?_
  refine J_dup 892 rfl rfl (D_X12_init_12.at 35 rfl) ?_
  refine J_iconst 893 rfl (D_X12_init_12.at 36 rfl) ?_
  refine J_bipush 895 rfl ⟨by decide, by decide⟩ (D_X12_init_12.at 37 rfl) ?_
  refine A_cast 896 rfl ar_116 (by decide) ⟨by decide, by decide⟩ ⟨by decide, by decide⟩ (D_X12_init_12.at 38 rfl) ?_
  refine J_dup 897 rfl rfl (D_X12_init_12.at 39 rfl) ?_
  refine J_iconst 898 rfl (D_X12_init_12.at 40 rfl) ?_
  refine J_bipush 900 rfl ⟨by decide, by decide⟩ (D_X12_init_12.at 41 rfl) ?_
  refine A_cast 901 rfl ar_116 (by decide) ⟨by decide, by decide⟩ ⟨by decide, by decide⟩ (D_X12_init_12.at 42 rfl) ?_
  refine A_putFR (jj := 69) (dd := 1048) 904 rfl (Or.inr ⟨_, rfl⟩) fl_12_161 ⟨isC_12, rfl⟩ rfl rfl (by decide) ⟨by decide, by decide⟩ ob_68 (by decide) (D_X12_init_12.at 43 rfl) ?_
  exact T
def U_X12_init_68_11 : List Up := ((0, 68, 72, 119) :: ((0, 119, 4, 108) :: ((0, 119, 3, 97) :: ((0, 119, 2, 116) :: ((0, 119, 1, 111) :: ((0, 119, 0, 116) :: ((1, 119, 0, 0) :: ((0, 68, 71, 118) :: ((0, 118, 4, 110) :: ((0, 118, 3, 101) :: ((0, 118, 2, 116) :: ((0, 118, 1, 102) :: ((0, 118, 0, 111) :: ((1, 118, 0, 0) :: ((0, 68, 70, 117) :: ((0, 117, 3, 116) :: ((0, 117, 2, 115) :: ((0, 117, 1, 97) :: ((0, 117, 0, 108) :: ((1, 117, 0, 0) :: []))))))))))))))))))))
theorem kc_X12_init_68_11 {w : Wd} {h : Hp} {K : Int → Hp → Prop} (T : JG w false m_X12_init 1 137 120 995 [(0, vR 68)] [] (ap U_X12_init_68_11 h) K) : JG w false m_X12_init 1 137 117 904 [(0, vR 68)] [] h K := by
  show JG w false m_X12_init 1 137 117 904 [(0, vR 68)] [] (ap [] h) K
  refine J_aload_n 905 rfl 0 0 rfl ⟨by decide, by decide⟩ (D_X12_init_12.at 44 rfl) ?_
  refine J_iconst 906 rfl (D_X12_init_12.at 45 rfl) ?_
  refine A_newarr (n2 := 118) (ov := 117) (at' := .char) (len := 4) (kd := 3) 908 rfl rfl rfl rfl (by decide) ac_3 rfl ar_117 (by decide) (by decide +kernel) (D_X12_init_12.at 46 rfl) ?_
  refine J_dup 909 rfl rfl (D_X12_init_12.at 47 rfl) ?_
  refine J_iconst 910 rfl (D_X12_init_13.at 0 rfl) ?_
  refine J_bipush 912 rfl ⟨by decide, by decide⟩ (D_X12_init_13.at 1 rfl) ?_
  refine A_cast 913 rfl ar_117 (by decide) ⟨by decide, by decide⟩ ⟨by decide, by decide⟩ (D_X12_init_13.at 2 rfl) ?_
  refine J_dup 914 rfl rfl (D_X12_init_13.at 3 rfl) ?_
  refine J_iconst 915 rfl (D_X12_init_13.at 4 rfl) ?_
  refine J_bipush 917 rfl ⟨by decide, by decide⟩ (D_X12_init_13.at 5 rfl) ?_
  refine A_cast 918 rfl ar_117 (by decide) ⟨by decide, by decide⟩ ⟨by decide, by decide⟩ (D_X12_init_13.at 6 rfl) ?_
  refine J_dup 919 rfl rfl (D_X12_init_13.at 7 rfl) ?_
  refine J_iconst 920 rfl (D_X12_init_13.at 8 rfl) ?_
  refine J_bipush 922 rfl ⟨by decide, by decide⟩ (D_X12_init_13.at 9 rfl) ?_
  refine A_cast 923 rfl ar_117 (by decide) ⟨by decide, by decide⟩ ⟨by decide, by decide⟩ (D_X12_init_13.at 10 rfl) ?_
  refine J_dup 924 rfl rfl (D_X12_init_13.at 11 rfl) ?_
  refine J_iconst 925 rfl (D_X12_init_13.at 12 rfl) ?_
  refine J_bipush 927 rfl ⟨by decide, by decide⟩ (D_X12_init_13.at 13 rfl) ?_
  refine A_cast 928 rfl ar_117 (by decide) ⟨by decide, by decide⟩ ⟨by decide, by decide⟩ (D_X12_init_13.at 14 rfl) ?_
  refine A_putFR (jj := 70) (dd := 1049) 931 rfl (Or.inr ⟨_, rfl⟩) fl_12_164 ⟨isC_12, rfl⟩ rfl rfl (by decide) ⟨by decide, by decide⟩ ob_68 (by decide) (D_X12_init_13.at 15 rfl) ?_
  refine J_aload_n 932 rfl 0 0 rfl ⟨by decide, by decide⟩ (D_X12_init_13.at 16 rfl) ?_
  refine J_iconst 933 rfl (D_X12_init_13.at 17 rfl) ?_
  refine A_newarr (n2 := 119) (ov := 118) (at' := .char) (len := 5) (kd := 3) 935 rfl rfl rfl rfl (by decide) ac_3 rfl ar_118 (by decide) (by decide +kernel) (D_X12_init_13.at 18 rfl) ?_
  refine J_dup 936 rfl rfl (D_X12_init_13.at 19 rfl) ?_
  refine J_iconst 937 rfl (D_X12_init_13.at 20 rfl) ?_
  refine J_bipush 939 rfl ⟨by decide, by decide⟩ (D_X12_init_13.at 21 rfl) ?_
  refine A_cast 940 rfl ar_118 (by decide) ⟨by decide, by decide⟩ ⟨by decide, by decide⟩ (D_X12_init_13.at 22 rfl) ?_
  refine J_dup 941 rfl rfl (D_X12_init_13.at 23 rfl) ?_
  refine J_iconst 942 rfl (D_X12_init_13.at 24 rfl) ?_
  refine J_bipush 944 rfl ⟨by decide, by decide⟩ (D_X12_init_13.at 25 rfl) ?_
  refine A_cast 945 rfl ar_118 (by decide) ⟨by decide, by decide⟩ ⟨by decide, by decide⟩ (D_X12_init_13.at 26 rfl) ?_
  refine J_dup 946 rfl rfl (D_X12_init_13.at 27 rfl) ?_
  refine J_iconst 947 rfl (D_X12_init_13.at 28 rfl) ?_
  refine J_bipush 949 rfl ⟨by decide, by decide⟩ (D_X12_init_13.at 29 rfl) ?_
  refine A_cast 950 rfl ar_118 (by decide) ⟨by decide, by decide⟩ ⟨by decide, by decide⟩ (D_X12_init_13.at 30 rfl) ?_
  refine J_dup 951 rfl rfl (D_X12_init_13.at 31 rfl) ?_
  refine J_iconst 952 rfl (D_X12_init_13.at 32 rfl) ?_
  refine J_bipush 954 rfl ⟨by decide, by decide⟩ (D_X12_init_13.at 33 rfl) ?_
  refine A_cast 955 rfl ar_118 (by decide) ⟨by decide, by decide⟩ ⟨by decide, by decide⟩ (D_X12_init_13.at 34 rfl) ?_
  refine J_dup 956 rfl rfl (D_X12_init_13.at 35 rfl) ?_
  refine J_iconst 957 rfl (D_X12_init_13.at 36 rfl) ?_
  refine J_bipush 959 rfl ⟨by decide, by decide⟩ (D_X12_init_13.at 37 rfl) ?_
  refine A_cast 960 rfl ar_118 (by decide) ⟨by decide, by decide⟩ ⟨by decide, by decide⟩ (D_X12_init_13.at 38 rfl) ?_
  refine A_putFR (jj := 71) (dd := 1050) 963 rfl (Or.inr ⟨_, rfl⟩) fl_12_167 ⟨isC_12, rfl⟩ rfl rfl (by decide) ⟨by decide, by decide⟩ ob_68 (by decide) (D_X12_init_13.at 39 rfl) ?_
  refine J_aload_n 964 rfl 0 0 rfl ⟨by decide, by decide⟩ (D_X12_init_13.at 40 rfl) ?_
  refine J_iconst 965 rfl (D_X12_init_13.at 41 rfl) ?_
  refine A_newarr (n2 := 120) (ov := 119) (at' := .char) (len := 5) (kd := 3) 967 rfl rfl rfl rfl (by decide) ac_3 rfl ar_119 (by decide) (by decide +kernel) (D_X12_init_13.at 42 rfl) ?_
  refine J_dup 968 rfl rfl (D_X12_init_13.at 43 rfl) ?_
  refine J_iconst 969 rfl (D_X12_init_13.at 44 rfl) ?_
  refine J_bipush 971 rfl ⟨by decide, by decide⟩ (D_X12_init_13.at 45 rfl) ?_
  refine A_cast 972 rfl ar_119 (by decide) ⟨by decide, by decide⟩ ⟨by decide, by decide⟩ (D_X12_init_13.at 46 rfl) ?_
  refine J_dup 973 rfl rfl (D_X12_init_13.at 47 rfl) ?_
  refine J_iconst 974 rfl (D_X12_init_14.at 0 rfl) ?_
  refine J_bipush 976 rfl ⟨by decide, by decide⟩ (D_X12_init_14.at 1 rfl) ?_
  refine A_cast 977 rfl ar_119 (by decide) ⟨by decide, by decide⟩ ⟨by decide, by decide⟩ (D_X12_init_14.at 2 rfl) ?_
  refine J_dup 978 rfl rfl (D_X12_init_14.at 3 rfl) ?_
  refine J_iconst 979 rfl (D_X12_init_14.at 4 rfl) ?_
  refine J_bipush 981 rfl ⟨by decide, by decide⟩ (D_X12_init_14.at 5 rfl) ?_
  refine A_cast 982 rfl ar_119 (by decide) ⟨by decide, by decide⟩ ⟨by decide, by decide⟩ (D_X12_init_14.at 6 rfl) ?_
  refine J_dup 983 rfl rfl (D_X12_init_14.at 7 rfl) ?_
  refine J_iconst 984 rfl (D_X12_init_14.at 8 rfl) ?_
  refine J_bipush 986 rfl ⟨by decide, by decide⟩ (D_X12_init_14.at 9 rfl) ?_
  refine A_cast 987 rfl ar_119 (by decide) ⟨by decide, by decide⟩ ⟨by decide, by decide⟩ (D_X12_init_14.at 10 rfl) ?_
  refine J_dup 988 rfl rfl (D_X12_init_14.at 11 rfl) ?_
  refine J_iconst 989 rfl (D_X12_init_14.at 12 rfl) ?_
  refine J_bipush 991 rfl ⟨by decide, by decide⟩ (D_X12_init_14.at 13 rfl) ?_
  refine A_cast 992 rfl ar_119 (by decide) ⟨by decide, by decide⟩ ⟨by decide, by decide⟩ (D_X12_init_14.at 14 rfl) ?_
  refine A_putFR (jj := 72) (dd := 1051) 995 rfl (Or.inr ⟨_, rfl⟩) fl_12_170 ⟨isC_12, rfl⟩ rfl rfl (by decide) ⟨by decide, by decide⟩ ob_68 (by decide) (D_X12_init_14.at 15 rfl) ?_
  exact T
def U_X12_init_68_12 : List Up := ((0, 68, 75, 122) :: ((0, 122, 2, 116) :: ((0, 122, 1, 111) :: ((0, 122, 0, 110) :: ((1, 122, 0, 0) :: ((0, 68, 74, 121) :: ((0, 121, 4, 116) :: ((0, 121, 3, 115) :: ((0, 121, 2, 97) :: ((0, 121, 1, 101) :: ((0, 121, 0, 108) :: ((1, 121, 0, 0) :: ((0, 68, 73, 120) :: ((0, 120, 3, 116) :: ((0, 120, 2, 115) :: ((0, 120, 1, 111) :: ((0, 120, 0, 109) :: ((1, 120, 0, 0) :: []))))))))))))))))))
theorem kc_X12_init_68_12 {w : Wd} {h : Hp} {K : Int → Hp → Prop} (T : JG w false m_X12_init 1 137 123 1076 [(0, vR 68)] [] (ap U_X12_init_68_12 h) K) : JG w false m_X12_init 1 137 120 995 [(0, vR 68)] [] h K := by
  show JG w false m_X12_init 1 137 120 995 [(0, vR 68)] [] (ap [] h) K
  refine J_aload_n 996 rfl 0 0 rfl ⟨by decide, by decide⟩ (D_X12_init_14.at 16 rfl) ?_
  refine J_iconst 997 rfl (D_X12_init_14.at 17 rfl) ?_
  refine A_newarr (n2 := 121) (ov := 120) (at' := .char) (len := 4) (kd := 3) 999 rfl rfl rfl rfl (by decide) ac_3 rfl ar_120 (by decide) (by decide +kernel) (D_X12_init_14.at 18 rfl) ?_
  refine J_dup 1000 rfl rfl (D_X12_init_14.at 19 rfl) ?_
  refine J_iconst 1001 rfl (D_X12_init_14.at 20 rfl) ?_
  refine J_bipush 1003 rfl ⟨by decide, by decide⟩ (D_X12_init_14.at 21 rfl) ?_
  refine A_cast 1004 rfl ar_120 (by decide) ⟨by decide, by decide⟩ ⟨by decide, by decide⟩ (D_X12_init_14.at 22 rfl) ?_
  refine J_dup 1005 rfl rfl (D_X12_init_14.at 23 rfl) ?_
  refine J_iconst 1006 rfl (D_X12_init_14.at 24 rfl) ?_
  refine J_bipush 1008 rfl ⟨by decide, by decide⟩ (D_X12_init_14.at 25 rfl) ?_
  refine A_cast 1009 rfl ar_120 (by decide) ⟨by decide, by decide⟩ ⟨by decide, by decide⟩ (D_X12_init_14.at 26 rfl) ?_
  refine J_dup 1010 rfl rfl (D_X12_init_14.at 27 rfl) ?_
  refine J_iconst 1011 rfl (D_X12_init_14.at 28 rfl) ?_
  refine J_bipush 1013 rfl ⟨by decide, by decide⟩ (D_X12_init_14.at 29 rfl) ?_
  refine A_cast 1014 rfl ar_120 (by decide) ⟨by decide, by decide⟩ ⟨by decide, by decide⟩ (D_X12_init_14.at 30 rfl) ?_
  refine J_dup 1015 rfl rfl (D_X12_init_14.at 31 rfl) ?_
  refine J_iconst 1016 rfl (D_X12_init_14.at 32 rfl) ?_
  refine J_bipush 1018 rfl ⟨by decide, by decide⟩ (D_X12_init_14.at 33 rfl) ?_
  refine A_cast 1019 rfl ar_120 (by decide) ⟨by decide, by decide⟩ ⟨by decide, by decide⟩ (D_X12_init_14.at 34 rfl) ?_
  refine A_putFR (jj := 73) (dd := 1052) 1022 rfl (Or.inr ⟨_, rfl⟩) fl_12_173 ⟨isC_12, rfl⟩ rfl rfl (by decide) ⟨by decide, by decide⟩ ob_68 (by decide) (D_X12_init_14.at 35 rfl) ?_
  refine J_aload_n 1023 rfl 0 0 rfl ⟨by decide, by decide⟩ (D_X12_init_14.at 36 rfl) ?_
  refine J_iconst 1024 rfl (D_X12_init_14.at 37 rfl) ?_
  refine A_newarr (n2 := 122) (ov := 121) (at' := .char) (len := 5) (kd := 3) 1026 rfl rfl rfl rfl (by decide) ac_3 rfl ar_121 (by decide) (by decide +kernel) (D_X12_init_14.at 38 rfl) ?_
  refine J_dup 1027 rfl rfl (D_X12_init_14.at 39 rfl) ?_
  refine J_iconst 1028 rfl (D_X12_init_14.at 40 rfl) ?_
  refine J_bipush 1030 rfl ⟨by decide, by decide⟩ (D_X12_init_14.at 41 rfl) ?_
  refine A_cast 1031 rfl ar_121 (by decide) ⟨by decide, by decide⟩ ⟨by decide, by decide⟩ (D_X12_init_14.at 42 rfl) ?_
  refine J_dup 1032 rfl rfl (D_X12_init_14.at 43 rfl) ?_
  refine J_iconst 1033 rfl (D_X12_init_14.at 44 rfl) ?_
  refine J_bipush 1035 rfl ⟨by decide, by decide⟩ (D_X12_init_14.at 45 rfl) ?_
  refine A_cast 1036 rfl ar_121 (by decide) ⟨by decide, by decide⟩ ⟨by decide, by decide⟩ (D_X12_init_14.at 46 rfl) ?_
  refine J_dup 1037 rfl rfl (D_X12_init_14.at 47 rfl) ?_
  refine J_iconst 1038 rfl (D_X12_init_15.at 0 rfl) ?_
  refine J_bipush 1040 rfl ⟨by decide, by decide⟩ (D_X12_init_15.at 1 rfl) ?_
  refine A_cast 1041 rfl ar_121 (by decide) ⟨by decide, by decide⟩ ⟨by decide, by decide⟩ (D_X12_init_15.at 2 rfl) ?_
  refine J_dup 1042 rfl rfl (D_X12_init_15.at 3 rfl) ?_
  refine J_iconst 1043 rfl (D_X12_init_15.at 4 rfl) ?_
  refine J_bipush 1045 rfl ⟨by decide, by decide⟩ (D_X12_init_15.at 5 rfl) ?_
  refine A_cast 1046 rfl ar_121 (by decide) ⟨by decide, by decide⟩ ⟨by decide, by decide⟩ (D_X12_init_15.at 6 rfl) ?_
  refine J_dup 1047 rfl rfl (D_X12_init_15.at 7 rfl) ?_
  refine J_iconst 1048 rfl (D_X12_init_15.at 8 rfl) ?_
  refine J_bipush 1050 rfl ⟨by decide, by decide⟩ (D_X12_init_15.at 9 rfl) ?_
  refine A_cast 1051 rfl ar_121 (by decide) ⟨by decide, by decide⟩ ⟨by decide, by decide⟩ (D_X12_init_15.at 10 rfl) ?_
  refine A_putFR (jj := 74) (dd := 1053) 1054 rfl (Or.inr ⟨_, rfl⟩) fl_12_176 ⟨isC_12, rfl⟩ rfl rfl (by decide) ⟨by decide, by decide⟩ ob_68 (by decide) (D_X12_init_15.at 11 rfl) ?_
  refine J_aload_n 1055 rfl 0 0 rfl ⟨by decide, by decide⟩ (D_X12_init_15.at 12 rfl) ?_
  refine J_iconst 1056 rfl (D_X12_init_15.at 13 rfl) ?_
  refine A_newarr (n2 := 123) (ov := 122) (at' := .char) (len := 3) (kd := 3) 1058 rfl rfl rfl rfl (by decide) ac_3 rfl ar_122 (by decide) (by decide +kernel) (D_X12_init_15.at 14 rfl) ?_
  refine J_dup 1059 rfl rfl (D_X12_init_15.at 15 rfl) ?_
  refine J_iconst 1060 rfl (D_X12_init_15.at 16 rfl) ?_
  refine J_bipush 1062 rfl ⟨by decide, by decide⟩ (D_X12_init_15.at 17 rfl) ?_
  refine A_cast 1063 rfl ar_122 (by decide) ⟨by decide, by decide⟩ ⟨by decide, by decide⟩ (D_X12_init_15.at 18 rfl) ?_
  refine J_dup 1064 rfl rfl (D_X12_init_15.at 19 rfl) ?_
  refine J_iconst 1065 rfl (D_X12_init_15.at 20 rfl) ?_
  refine J_bipush 1067 rfl ⟨by decide, by decide⟩ (D_X12_init_15.at 21 rfl) ?_
  refine A_cast 1068 rfl ar_122 (by decide) ⟨by decide, by decide⟩ ⟨by decide, by decide⟩ (D_X12_init_15.at 22 rfl) ?_
  refine J_dup 1069 rfl rfl (D_X12_init_15.at 23 rfl) ?_
  refine J_iconst 1070 rfl (D_X12_init_15.at 24 rfl) ?_
  refine J_bipush 1072 rfl ⟨by decide, by decide⟩ (D_X12_init_15.at 25 rfl) ?_
  refine A_cast 1073 rfl ar_122 (by decide) ⟨by decide, by decide⟩ ⟨by decide, by decide⟩ (D_X12_init_15.at 26 rfl) ?_
  refine A_putFR (jj := 75) (dd := 1054) 1076 rfl (Or.inr ⟨_, rfl⟩) fl_12_179 ⟨isC_12, rfl⟩ rfl rfl (by decide) ⟨by decide, by decide⟩ ob_68 (by decide) (D_X12_init_15.at 27 rfl) ?_
  exact T
def U_X12_init_68_13 : List Up := ((0, 68, 79, 126) :: ((0, 126, 2, 110) :: ((0, 126, 1, 105) :: ((0, 126, 0, 109) :: ((1, 126, 0, 0) :: ((0, 68, 78, 125) :: ((0, 125, 2, 108) :: ((0, 125, 1, 108) :: ((0, 125, 0, 97) :: ((1, 125, 0, 0) :: ((0, 68, 77, 124) :: ((0, 124, 1, 114) :: ((0, 124, 0, 111) :: ((1, 124, 0, 0) :: ((0, 68, 76, 123) :: ((0, 123, 2, 100) :: ((0, 123, 1, 110) :: ((0, 123, 0, 97) :: ((1, 123, 0, 0) :: [])))))))))))))))))))
theorem kc_X12_init_68_13 {w : Wd} {h : Hp} {K : Int → Hp → Prop} (T : JG w false m_X12_init 1 137 127 1159 [(0, vR 68)] [] (ap U_X12_init_68_13 h) K) : JG w false m_X12_init 1 137 123 1076 [(0, vR 68)] [] h K := by
  show JG w false m_X12_init 1 137 123 1076 [(0, vR 68)] [] (ap [] h) K
  refine J_aload_n 1077 rfl 0 0 rfl ⟨by decide, by decide⟩ (D_X12_init_15.at 28 rfl) ?_
  refine J_iconst 1078 rfl (D_X12_init_15.at 29 rfl) ?_
  refine A_newarr (n2 := 124) (ov := 123) (at' := .char) (len := 3) (kd := 3) 1080 rfl rfl rfl rfl (by decide) ac_3 rfl ar_123 (by decide) (by decide +kernel) (D_X12_init_15.at 30 rfl) ?_
  refine J_dup 1081 rfl rfl (D_X12_init_15.at 31 rfl) ?_
  refine J_iconst 1082 rfl (D_X12_init_15.at 32 rfl) ?_
  refine J_bipush 1084 rfl ⟨by decide, by decide⟩ (D_X12_init_15.at 33 rfl) ?_
  refine A_cast 1085 rfl ar_123 (by decide) ⟨by decide, by decide⟩ ⟨by decide, by decide⟩ (D_X12_init_15.at 34 rfl) ?_
  refine J_dup 1086 rfl rfl (D_X12_init_15.at 35 rfl) ?_
  refine J_iconst 1087 rfl (D_X12_init_15.at 36 rfl) ?_
  refine J_bipush 1089 rfl ⟨by decide, by decide⟩ (D_X12_init_15.at 37 rfl) ?_
  refine A_cast 1090 rfl ar_123 (by decide) ⟨by decide, by decide⟩ ⟨by decide, by decide⟩ (D_X12_init_15.at 38 rfl) ?_
  refine J_dup 1091 rfl rfl (D_X12_init_15.at 39 rfl) ?_
  refine J_iconst 1092 rfl (D_X12_init_15.at 40 rfl) ?_
  refine J_bipush 1094 rfl ⟨by decide, by decide⟩ (D_X12_init_15.at 41 rfl) ?_
  refine A_cast 1095 rfl ar_123 (by decide) ⟨by decide, by decide⟩ ⟨by decide, by decide⟩ (D_X12_init_15.at 42 rfl) ?_
  refine A_putFR (jj := 76) (dd := 1055) 1098 rfl (Or.inr ⟨_, rfl⟩) fl_12_182 ⟨isC_12, rfl⟩ rfl rfl (by decide) ⟨by decide, by decide⟩ ob_68 (by decide) (D_X12_init_15.at 43 rfl) ?_
  refine J_aload_n 1099 rfl 0 0 rfl ⟨by decide, by decide⟩ (D_X12_init_15.at 44 rfl) ?_
  refine J_iconst 1100 rfl (D_X12_init_15.at 45 rfl) ?_
  refine A_newarr (n2 := 125) (ov := 124) (at' := .char) (len := 2) (kd := 3) 1102 rfl rfl rfl rfl (by decide) ac_3 rfl ar_124 (by decide) (by decide +kernel) (D_X12_init_15.at 46 rfl) ?_
  refine J_dup 1103 rfl rfl (D_X12_init_15.at 47 rfl) ?_
  refine J_iconst 1104 rfl (D_X12_init_16.at 0 rfl) ?_
  refine J_bipush 1106 rfl ⟨by decide, by decide⟩ (D_X12_init_16.at 1 rfl) ?_
  refine A_cast 1107 rfl ar_124 (by decide) ⟨by decide, by decide⟩ ⟨by decide, by decide⟩ (D_X12_init_16.at 2 rfl) ?_
  refine J_dup 1108 rfl rfl (D_X12_init_16.at 3 rfl) ?_
  refine J_iconst 1109 rfl (D_X12_init_16.at 4 rfl) ?_
  refine J_bipush 1111 rfl ⟨by decide, by decide⟩ (D_X12_init_16.at 5 rfl) ?_
  refine A_cast 1112 rfl ar_124 (by decide) ⟨by decide, by decide⟩ ⟨by decide, by decide⟩ (D_X12_init_16.at 6 rfl) ?_
  refine A_putFR (jj := 77) (dd := 1056) 1115 rfl (Or.inr ⟨_, rfl⟩) fl_12_185 ⟨isC_12, rfl⟩ rfl rfl (by decide) ⟨by decide, by decide⟩ ob_68 (by decide) (D_X12_init_16.at 7 rfl) ?_
  refine J_aload_n 1116 rfl 0 0 rfl ⟨by decide, by decide⟩ (D_X12_init_16.at 8 rfl) ?_
  refine J_iconst 1117 rfl (D_X12_init_16.at 9 rfl) ?_
  refine A_newarr (n2 := 126) (ov := 125) (at' := .char) (len := 3) (kd := 3) 1119 rfl rfl rfl rfl (by decide) ac_3 rfl ar_125 (by decide) (by decide +kernel) (D_X12_init_16.at 10 rfl) ?_
  refine J_dup 1120 rfl rfl (D_X12_init_16.at 11 rfl) ?_
  refine J_iconst 1121 rfl (D_X12_init_16.at 12 rfl) ?_
  refine J_bipush 1123 rfl ⟨by decide, by decide⟩ (D_X12_init_16.at 13 rfl) ?_
  refine A_cast 1124 rfl ar_125 (by decide) ⟨by decide, by decide⟩ ⟨by decide, by decide⟩ (D_X12_init_16.at 14 rfl) ?_
  refine J_dup 1125 rfl rfl (D_X12_init_16.at 15 rfl) ?_
  refine J_iconst 1126 rfl (D_X12_init_16.at 16 rfl) ?_
  refine J_bipush 1128 rfl ⟨by decide, by decide⟩ (D_X12_init_16.at 17 rfl) ?_
  refine A_cast 1129 rfl ar_125 (by decide) ⟨by decide, by decide⟩ ⟨by decide, by decide⟩ (D_X12_init_16.at 18 rfl) ?_
  refine J_dup 1130 rfl rfl (D_X12_init_16.at 19 rfl) ?_
  refine J_iconst 1131 rfl (D_X12_init_16.at 20 rfl) ?_
  refine J_bipush 1133 rfl ⟨by decide, by decide⟩ (D_X12_init_16.at 21 rfl) ?_
  refine A_cast 1134 rfl ar_125 (by decide) ⟨by decide, by decide⟩ ⟨by decide, by decide⟩ (D_X12_init_16.at 22 rfl) ?_
  refine A_putFR (jj := 78) (dd := 1057) 1137 rfl (Or.inr ⟨_, rfl⟩) fl_12_188 ⟨isC_12, rfl⟩ rfl rfl (by decide) ⟨by decide, by decide⟩ ob_68 (by decide) (D_X12_init_16.at 23 rfl) ?_
  refine J_aload_n 1138 rfl 0 0 rfl ⟨by decide, by decide⟩ (D_X12_init_16.at 24 rfl) ?_
  refine J_iconst 1139 rfl (D_X12_init_16.at 25 rfl) ?_
  refine A_newarr (n2 := 127) (ov := 126) (at' := .char) (len := 3) (kd := 3) 1141 rfl rfl rfl rfl (by decide) ac_3 rfl ar_126 (by decide) (by decide +kernel) (D_X12_init_16.at 26 rfl) ?_
  refine J_dup 1142 rfl rfl (D_X12_init_16.at 27 rfl) ?_
  refine J_iconst 1143 rfl (D_X12_init_16.at 28 rfl) ?_
  refine J_bipush 1145 rfl ⟨by decide, by decide⟩ (D_X12_init_16.at 29 rfl) ?_
  refine A_cast 1146 rfl ar_126 (by decide) ⟨by decide, by decide⟩ ⟨by decide, by decide⟩ (D_X12_init_16.at 30 rfl) ?_
  refine J_dup 1147 rfl rfl (D_X12_init_16.at 31 rfl) ?_
  refine J_iconst 1148 rfl (D_X12_init_16.at 32 rfl) ?_
  refine J_bipush 1150 rfl ⟨by decide, by decide⟩ (D_X12_init_16.at 33 rfl) ?_
  refine A_cast 1151 rfl ar_126 (by decide) ⟨by decide, by decide⟩ ⟨by decide, by decide⟩ (D_X12_init_16.at 34 rfl) ?_
  refine J_dup 1152 rfl rfl (D_X12_init_16.at 35 rfl) ?_
  refine J_iconst 1153 rfl (D_X12_init_16.at 36 rfl) ?_
  refine J_bipush 1155 rfl ⟨by decide, by decide⟩ (D_X12_init_16.at 37 rfl) ?_
  refine A_cast 1156 rfl ar_126 (by decide) ⟨by decide, by decide⟩ ⟨by decide, by decide⟩ (D_X12_init_16.at 38 rfl) ?_
  refine A_putFR (jj := 79) (dd := 1058) 1159 rfl (Or.inr ⟨_, rfl⟩) fl_12_191 ⟨isC_12, rfl⟩ rfl rfl (by decide) ⟨by decide, by decide⟩ ob_68 (by decide) (D_X12_init_16.at 39 rfl) ?_
  exact T
def U_X12_init_68_14 : List Up := ((0, 68, 82, 129) :: ((0, 129, 4, 110) :: ((0, 129, 3, 101) :: ((0, 129, 2, 107) :: ((0, 129, 1, 97) :: ((0, 129, 0, 116) :: ((1, 129, 0, 0) :: ((0, 68, 81, 128) :: ((0, 128, 4, 108) :: ((0, 128, 3, 101) :: ((0, 128, 2, 118) :: ((0, 128, 1, 101) :: ((0, 128, 0, 108) :: ((1, 128, 0, 0) :: ((0, 68, 80, 127) :: ((0, 127, 2, 120) :: ((0, 127, 1, 97) :: ((0, 127, 0, 109) :: ((1, 127, 0, 0) :: [])))))))))))))))))))
theorem kc_X12_init_68_14 {w : Wd} {h : Hp} {K : Int → Hp → Prop} (T : JG w false m_X12_init 1 137 130 1245 [(0, vR 68)] [] (ap U_X12_init_68_14 h) K) : JG w false m_X12_init 1 137 127 1159 [(0, vR 68)] [] h K := by
  show JG w false m_X12_init 1 137 127 1159 [(0, vR 68)] [] (ap [] h) K
  refine J_aload_n 1160 rfl 0 0 rfl ⟨by decide, by decide⟩ (D_X12_init_16.at 40 rfl) ?_
  refine J_iconst 1161 rfl (D_X12_init_16.at 41 rfl) ?_
  refine A_newarr (n2 := 128) (ov := 127) (at' := .char) (len := 3) (kd := 3) 1163 rfl rfl rfl rfl (by decide) ac_3 rfl ar_127 (by decide) (by decide +kernel) (D_X12_init_16.at 42 rfl) ?_
  refine J_dup 1164 rfl rfl (D_X12_init_16.at 43 rfl) ?_
  refine J_iconst 1165 rfl (D_X12_init_16.at 44 rfl) ?_
  refine J_bipush 1167 rfl ⟨by decide, by decide⟩ (D_X12_init_16.at 45 rfl) ?_
  refine A_cast 1168 rfl ar_127 (by decide) ⟨by decide, by decide⟩ ⟨by decide, by decide⟩ (D_X12_init_16.at 46 rfl) ?_
  refine J_dup 1169 rfl rfl (D_X12_init_16.at 47 rfl) ?_
  refine J_iconst 1170 rfl (D_X12_init_17.at 0 rfl) ?_
  refine J_bipush 1172 rfl ⟨by decide, by decide⟩ (D_X12_init_17.at 1 rfl) ?_
  refine A_cast 1173 rfl ar_127 (by decide) ⟨by decide, by decide⟩ ⟨by decide, by decide⟩ (D_X12_init_17.at 2 rfl) ?_
  refine J_dup 1174 rfl rfl (D_X12_init_17.at 3 rfl) ?_
  refine J_iconst 1175 rfl (D_X12_init_17.at 4 rfl) ?_
  refine J_bipush 1177 rfl ⟨by decide, by decide⟩ (D_X12_init_17.at 5 rfl) ?_
  refine A_cast 1178 rfl ar_127 (by decide) ⟨by decide, by decide⟩ ⟨by decide, by decide⟩ (D_X12_init_17.at 6 rfl) ?_
  refine A_putFR (jj := 80) (dd := 1059) 1181 rfl (Or.inr ⟨_, rfl⟩) fl_12_194 ⟨isC_12, rfl⟩ rfl rfl (by decide) ⟨by decide, by decide⟩ ob_68 (by decide) (D_X12_init_17.at 7 rfl) ?_
  refine J_aload_n 1182 rfl 0 0 rfl ⟨by decide, by decide⟩ (D_X12_init_17.at 8 rfl) ?_
  refine J_iconst 1183 rfl (D_X12_init_17.at 9 rfl) ?_
  refine A_newarr (n2 := 129) (ov := 128) (at' := .char) (len := 5) (kd := 3) 1185 rfl rfl rfl rfl (by decide) ac_3 rfl ar_128 (by decide) (by decide +kernel) (D_X12_init_17.at 10 rfl) ?_
  refine J_dup 1186 rfl rfl (D_X12_init_17.at 11 rfl) ?_
  refine J_iconst 1187 rfl (D_X12_init_17.at 12 rfl) ?_
  refine J_bipush 1189 rfl ⟨by decide, by decide⟩ (D_X12_init_17.at 13 rfl) ?_
  refine A_cast 1190 rfl ar_128 (by decide) ⟨by decide, by decide⟩ ⟨by decide, by decide⟩ (D_X12_init_17.at 14 rfl) ?_
  refine J_dup 1191 rfl rfl (D_X12_init_17.at 15 rfl) ?_
  refine J_iconst 1192 rfl (D_X12_init_17.at 16 rfl) ?_
  refine J_bipush 1194 rfl ⟨by decide, by decide⟩ (D_X12_init_17.at 17 rfl) ?_
  refine A_cast 1195 rfl ar_128 (by decide) ⟨by decide, by decide⟩ ⟨by decide, by decide⟩ (D_X12_init_17.at 18 rfl) ?_
  refine J_dup 1196 rfl rfl (D_X12_init_17.at 19 rfl) ?_
  refine J_iconst 1197 rfl (D_X12_init_17.at 20 rfl) ?_
  refine J_bipush 1199 rfl ⟨by decide, by decide⟩ (D_X12_init_17.at 21 rfl) ?_
  refine A_cast 1200 rfl ar_128 (by decide) ⟨by decide, by decide⟩ ⟨by decide, by decide⟩ (D_X12_init_17.at 22 rfl) ?_
  refine J_dup 1201 rfl rfl (D_X12_init_17.at 23 rfl) ?_
  refine J_iconst 1202 rfl (D_X12_init_17.at 24 rfl) ?_
  refine J_bipush 1204 rfl ⟨by decide, by decide⟩ (D_X12_init_17.at 25 rfl) ?_
  refine A_cast 1205 rfl ar_128 (by decide) ⟨by decide, by decide⟩ ⟨by decide, by decide⟩ (D_X12_init_17.at 26 rfl) ?_
  refine J_dup 1206 rfl rfl (D_X12_init_17.at 27 rfl) ?_
  refine J_iconst 1207 rfl (D_X12_init_17.at 28 rfl) ?_
  refine J_bipush 1209 rfl ⟨by decide, by decide⟩ (D_X12_init_17.at 29 rfl) ?_
  refine A_cast 1210 rfl ar_128 (by decide) ⟨by decide, by decide⟩ ⟨by decide, by decide⟩ (D_X12_init_17.at 30 rfl) ?_
  refine A_putFR (jj := 81) (dd := 1060) 1213 rfl (Or.inr ⟨_, rfl⟩) fl_12_197 ⟨isC_12, rfl⟩ rfl rfl (by decide) ⟨by decide, by decide⟩ ob_68 (by decide) (D_X12_init_17.at 31 rfl) ?_
  refine J_aload_n 1214 rfl 0 0 rfl ⟨by decide, by decide⟩ (D_X12_init_17.at 32 rfl) ?_
  refine J_iconst 1215 rfl (D_X12_init_17.at 33 rfl) ?_
  refine A_newarr (n2 := 130) (ov := 129) (at' := .char) (len := 5) (kd := 3) 1217 rfl rfl rfl rfl (by decide) ac_3 rfl ar_129 (by decide) (by decide +kernel) (D_X12_init_17.at 34 rfl) ?_
  refine J_dup 1218 rfl rfl (D_X12_init_17.at 35 rfl) ?_
  refine J_iconst 1219 rfl (D_X12_init_17.at 36 rfl) ?_
  refine J_bipush 1221 rfl ⟨by decide, by decide⟩ (D_X12_init_17.at 37 rfl) ?_
  refine A_cast 1222 rfl ar_129 (by decide) ⟨by decide, by decide⟩ ⟨by decide, by decide⟩ (D_X12_init_17.at 38 rfl) ?_
  refine J_dup 1223 rfl rfl (D_X12_init_17.at 39 rfl) ?_
  refine J_iconst 1224 rfl (D_X12_init_17.at 40 rfl) ?_
  refine J_bipush 1226 rfl ⟨by decide, by decide⟩ (D_X12_init_17.at 41 rfl) ?_
  refine A_cast 1227 rfl ar_129 (by decide) ⟨by decide, by decide⟩ ⟨by decide, by decide⟩ (D_X12_init_17.at 42 rfl) ?_
  refine J_dup 1228 rfl rfl (D_X12_init_17.at 43 rfl) ?_
  refine J_iconst 1229 rfl (D_X12_init_17.at 44 rfl) ?_
  refine J_bipush 1231 rfl ⟨by decide, by decide⟩ (D_X12_init_17.at 45 rfl) ?_
  refine A_cast 1232 rfl ar_129 (by decide) ⟨by decide, by decide⟩ ⟨by decide, by decide⟩ (D_X12_init_17.at 46 rfl) ?_
  refine J_dup 1233 rfl rfl (D_X12_init_17.at 47 rfl) ?_
  refine J_iconst 1234 rfl (D_X12_init_18.at 0 rfl) ?_
  refine J_bipush 1236 rfl ⟨by decide, by decide⟩ (D_X12_init_18.at 1 rfl) ?_
  refine A_cast 1237 rfl ar_129 (by decide) ⟨by decide, by decide⟩ ⟨by decide, by decide⟩ (D_X12_init_18.at 2 rfl) ?_
  refine J_dup 1238 rfl rfl (D_X12_init_18.at 3 rfl) ?_
  refine J_iconst 1239 rfl (D_X12_init_18.at 4 rfl) ?_
  refine J_bipush 1241 rfl ⟨by decide, by decide⟩ (D_X12_init_18.at 5 rfl) ?_
  refine A_cast 1242 rfl ar_129 (by decide) ⟨by decide, by decide⟩ ⟨by decide, by decide⟩ (D_X12_init_18.at 6 rfl) ?_
  refine A_putFR (jj := 82) (dd := 1061) 1245 rfl (Or.inr ⟨_, rfl⟩) fl_12_200 ⟨isC_12, rfl⟩ rfl rfl (by decide) ⟨by decide, by decide⟩ ob_68 (by decide) (D_X12_init_18.at 7 rfl) ?_
  exact T
def U_X12_init_68_15 : List Up := ((0, 68, 85, 132) :: ((0, 132, 4, 115) :: ((0, 132, 3, 100) :: ((0, 132, 2, 108) :: ((0, 132, 1, 111) :: ((0, 132, 0, 104) :: ((1, 132, 0, 0) :: ((0, 68, 84, 131) :: ((0, 131, 3, 115) :: ((0, 131, 2, 101) :: ((0, 131, 1, 105) :: ((0, 131, 0, 108) :: ((1, 131, 0, 0) :: ((0, 68, 83, 130) :: ((0, 130, 2, 97) :: ((0, 130, 1, 101) :: ((0, 130, 0, 115) :: ((1, 130, 0, 0) :: []))))))))))))))))))
theorem kc_X12_init_68_15 {w : Wd} {h : Hp} {K : Int → Hp → Prop} (T : JG w false m_X12_init 1 137 133 1326 [(0, vR 68)] [] (ap U_X12_init_68_15 h) K) : JG w false m_X12_init 1 137 130 1245 [(0, vR 68)] [] h K := by
  show JG w false m_X12_init 1 137 130 1245 [(0, vR 68)] [] (ap [] h) K
  refine J_aload_n 1246 rfl 0 0 rfl ⟨by decide, by decide⟩ (D_X12_init_18.at 8 rfl) ?_
  refine J_iconst 1247 rfl (D_X12_init_18.at 9 rfl) ?_
  refine A_newarr (n2 := 131) (ov := 130) (at' := .char) (len := 3) (kd := 3) 1249 rfl rfl rfl rfl (by decide) ac_3 rfl ar_130 (by decide) (by decide +kernel) (D_X12_init_18.at 10 rfl) ?_
  refine J_dup 1250 rfl rfl (D_X12_init_18.at 11 rfl) ?_
  refine J_iconst 1251 rfl (D_X12_init_18.at 12 rfl) ?_
  refine J_bipush 1253 rfl ⟨by decide, by decide⟩ (D_X12_init_18.at 13 rfl) ?_
  refine A_cast 1254 rfl ar_130 (by decide) ⟨by decide, by decide⟩ ⟨by decide, by decide⟩ (D_X12_init_18.at 14 rfl) ?_
  refine J_dup 1255 rfl rfl (D_X12_init_18.at 15 rfl) ?_
  refine J_iconst 1256 rfl (D_X12_init_18.at 16 rfl) ?_
  refine J_bipush 1258 rfl ⟨by decide, by decide⟩ (D_X12_init_18.at 17 rfl) ?_
  refine A_cast 1259 rfl ar_130 (by decide) ⟨by decide, by decide⟩ ⟨by decide, by decide⟩ (D_X12_init_18.at 18 rfl) ?_
  refine J_dup 1260 rfl rfl (D_X12_init_18.at 19 rfl) ?_
  refine J_iconst 1261 rfl (D_X12_init_18.at 20 rfl) ?_
  refine J_bipush 1263 rfl ⟨by decide, by decide⟩ (D_X12_init_18.at 21 rfl) ?_
  refine A_cast 1264 rfl ar_130 (by decide) ⟨by decide, by decide⟩ ⟨by decide, by decide⟩ (D_X12_init_18.at 22 rfl) ?_
  refine A_putFR (jj := 83) (dd := 1062) 1267 rfl (Or.inr ⟨_, rfl⟩) fl_12_203 ⟨isC_12, rfl⟩ rfl rfl (by decide) ⟨by decide, by decide⟩ ob_68 (by decide) (D_X12_init_18.at 23 rfl) ?_
  refine J_aload_n 1268 rfl 0 0 rfl ⟨by decide, by decide⟩ (D_X12_init_18.at 24 rfl) ?_
  refine J_iconst 1269 rfl (D_X12_init_18.at 25 rfl) ?_
  refine A_newarr (n2 := 132) (ov := 131) (at' := .char) (len := 4) (kd := 3) 1271 rfl rfl rfl rfl (by decide) ac_3 rfl ar_131 (by decide) (by decide +kernel) (D_X12_init_18.at 26 rfl) ?_
  refine J_dup 1272 rfl rfl (D_X12_init_18.at 27 rfl) ?_
  refine J_iconst 1273 rfl (D_X12_init_18.at 28 rfl) ?_
  refine J_bipush 1275 rfl ⟨by decide, by decide⟩ (D_X12_init_18.at 29 rfl) ?_
  refine A_cast 1276 rfl ar_131 (by decide) ⟨by decide, by decide⟩ ⟨by decide, by decide⟩ (D_X12_init_18.at 30 rfl) ?_
  refine J_dup 1277 rfl rfl (D_X12_init_18.at 31 rfl) ?_
  refine J_iconst 1278 rfl (D_X12_init_18.at 32 rfl) ?_
  refine J_bipush 1280 rfl ⟨by decide, by decide⟩ (D_X12_init_18.at 33 rfl) ?_
  refine A_cast 1281 rfl ar_131 (by decide) ⟨by decide, by decide⟩ ⟨by decide, by decide⟩ (D_X12_init_18.at 34 rfl) ?_
  refine J_dup 1282 rfl rfl (D_X12_init_18.at 35 rfl) ?_
  refine J_iconst 1283 rfl (D_X12_init_18.at 36 rfl) ?_
  refine J_bipush 1285 rfl ⟨by decide, by decide⟩ (D_X12_init_18.at 37 rfl) ?_
  refine A_cast 1286 rfl ar_131 (by decide) ⟨by decide, by decide⟩ ⟨by decide, by decide⟩ (D_X12_init_18.at 38 rfl) ?_
  refine J_dup 1287 rfl rfl (D_X12_init_18.at 39 rfl) ?_
  refine J_iconst 1288 rfl (D_X12_init_18.at 40 rfl) ?_
  refine J_bipush 1290 rfl ⟨by decide, by decide⟩ (D_X12_init_18.at 41 rfl) ?_
  refine A_cast 1291 rfl ar_131 (by decide) ⟨by decide, by decide⟩ ⟨by decide, by decide⟩ (D_X12_init_18.at 42 rfl) ?_
  refine A_putFR (jj := 84) (dd := 1063) 1294 rfl (Or.inr ⟨_, rfl⟩) fl_12_206 ⟨isC_12, rfl⟩ rfl rfl (by decide) ⟨by decide, by decide⟩ ob_68 (by decide) (D_X12_init_18.at 43 rfl) ?_
  refine J_aload_n 1295 rfl 0 0 rfl ⟨by decide, by decide⟩ (D_X12_init_18.at 44 rfl) ?_
  refine J_iconst 1296 rfl (D_X12_init_18.at 45 rfl) ?_
  refine A_newarr (n2 := 133) (ov := 132) (at' := .char) (len := 5) (kd := 3) 1298 rfl rfl rfl rfl (by decide) ac_3 rfl ar_132 (by decide) (by decide +kernel) (D_X12_init_18.at 46 rfl) ?_
  refine J_dup 1299 rfl rfl (D_X12_init_18.at 47 rfl) ?_
  refine J_iconst 1300 rfl (D_X12_init_19.at 0 rfl) ?_
  refine J_bipush 1302 rfl ⟨by decide, by decide⟩ (D_X12_init_19.at 1 rfl) ?_
  refine A_cast 1303 rfl ar_132 (by decide) ⟨by decide, by decide⟩ ⟨by decide, by decide⟩ (D_X12_init_19.at 2 rfl) ?_
  refine J_dup 1304 rfl rfl (D_X12_init_19.at 3 rfl) ?_
  refine J_iconst 1305 rfl (D_X12_init_19.at 4 rfl) ?_
  refine J_bipush 1307 rfl ⟨by decide, by decide⟩ (D_X12_init_19.at 5 rfl) ?_
  refine A_cast 1308 rfl ar_132 (by decide) ⟨by decide, by decide⟩ ⟨by decide, by decide⟩ (D_X12_init_19.at 6 rfl) ?_
  refine J_dup 1309 rfl rfl (D_X12_init_19.at 7 rfl) ?_
  refine J_iconst 1310 rfl (D_X12_init_19.at 8 rfl) ?_
  refine J_bipush 1312 rfl ⟨by decide, by decide⟩ (D_X12_init_19.at 9 rfl) ?_
  refine A_cast 1313 rfl ar_132 (by decide) ⟨by decide, by decide⟩ ⟨by decide, by decide⟩ (D_X12_init_19.at 10 rfl) ?_
  refine J_dup 1314 rfl rfl (D_X12_init_19.at 11 rfl) ?_
  refine J_iconst 1315 rfl (D_X12_init_19.at 12 rfl) ?_
  refine J_bipush 1317 rfl ⟨by decide, by decide⟩ (D_X12_init_19.at 13 rfl) ?_
  refine A_cast 1318 rfl ar_132 (by decide) ⟨by decide, by decide⟩ ⟨by decide, by decide⟩ (D_X12_init_19.at 14 rfl) ?_
  refine J_dup 1319 rfl rfl (D_X12_init_19.at 15 rfl) ?_
  refine J_iconst 1320 rfl (D_X12_init_19.at 16 rfl) ?_
  refine J_bipush 1322 rfl ⟨by decide, by decide⟩ (D_X12_init_19.at 17 rfl) ?_
  refine A_cast 1323 rfl ar_132 (by decide) ⟨by decide, by decide⟩ ⟨by decide, by decide⟩ (D_X12_init_19.at 18 rfl) ?_
  refine A_putFR (jj := 85) (dd := 1064) 1326 rfl (Or.inr ⟨_, rfl⟩) fl_12_209 ⟨isC_12, rfl⟩ rfl rfl (by decide) ⟨by decide, by decide⟩ ob_68 (by decide) (D_X12_init_19.at 19 rfl) ?_
  exact T
def U_X12_init_68_16 : List Up := ((0, 68, 96, 136) :: ((1, 136, 0, 0) :: ((0, 68, 92, 135) :: ((1, 135, 0, 0) :: ((0, 68, 88, 134) :: ((1, 134, 0, 0) :: ((0, 68, 86, 133) :: ((1, 133, 0, 0) :: []))))))))
theorem kc_X12_init_68_16 {w : Wd} {h : Hp} {K : Int → Hp → Prop} (T : JG w false m_X12_init 1 137 137 1362 [(0, vR 68)] [] (ap U_X12_init_68_16 h) K) : JG w false m_X12_init 1 137 133 1326 [(0, vR 68)] [] h K := by
  show JG w false m_X12_init 1 137 133 1326 [(0, vR 68)] [] (ap [] h) K
  refine J_aload_n 1327 rfl 0 0 rfl ⟨by decide, by decide⟩ (D_X12_init_19.at 20 rfl) ?_
  refine J_sipush 1330 rfl ⟨by decide, by decide⟩ (D_X12_init_19.at 21 rfl) ?_
  refine A_newarr (n2 := 134) (ov := 133) (at' := .int) (len := 1700) (kd := 0) 1332 rfl rfl rfl rfl (by decide) ac_0 rfl ar_133 (by decide) (by decide +kernel) (D_X12_init_19.at 22 rfl) ?_
  refine A_putFR (jj := 86) (dd := 1065) 1335 rfl (Or.inr ⟨_, rfl⟩) fl_12_212 ⟨isC_12, rfl⟩ rfl rfl (by decide) ⟨by decide, by decide⟩ ob_68 (by decide) (D_X12_init_19.at 23 rfl) ?_
  refine J_aload_n 1336 rfl 0 0 rfl ⟨by decide, by decide⟩ (D_X12_init_19.at 24 rfl) ?_
  refine J_sipush 1339 rfl ⟨by decide, by decide⟩ (D_X12_init_19.at 25 rfl) ?_
  refine A_newarr (n2 := 135) (ov := 134) (at' := .int) (len := 1700) (kd := 0) 1341 rfl rfl rfl rfl (by decide) ac_0 rfl ar_134 (by decide) (by decide +kernel) (D_X12_init_19.at 26 rfl) ?_
  refine A_putFR (jj := 88) (dd := 1066) 1344 rfl (Or.inr ⟨_, rfl⟩) fl_12_215 ⟨isC_12, rfl⟩ rfl rfl (by decide) ⟨by decide, by decide⟩ ob_68 (by decide) (D_X12_init_19.at 27 rfl) ?_
  refine J_aload_n 1345 rfl 0 0 rfl ⟨by decide, by decide⟩ (D_X12_init_19.at 28 rfl) ?_
  refine J_sipush 1348 rfl ⟨by decide, by decide⟩ (D_X12_init_19.at 29 rfl) ?_
  refine A_newarr (n2 := 136) (ov := 135) (at' := .long) (len := 1700) (kd := 1) 1350 rfl rfl rfl rfl (by decide) ac_1 rfl ar_135 (by decide) (by decide +kernel) (D_X12_init_19.at 30 rfl) ?_
  refine A_putFR (jj := 92) (dd := 1067) 1353 rfl (Or.inr ⟨_, rfl⟩) fl_12_218 ⟨isC_12, rfl⟩ rfl rfl (by decide) ⟨by decide, by decide⟩ ob_68 (by decide) (D_X12_init_19.at 31 rfl) ?_
  refine J_aload_n 1354 rfl 0 0 rfl ⟨by decide, by decide⟩ (D_X12_init_19.at 32 rfl) ?_
  refine J_sipush 1357 rfl ⟨by decide, by decide⟩ (D_X12_init_19.at 33 rfl) ?_
  refine A_newarr (n2 := 137) (ov := 136) (at' := .int) (len := 201) (kd := 0) 1359 rfl rfl rfl rfl (by decide) ac_0 rfl ar_136 (by decide) (by decide +kernel) (D_X12_init_19.at 34 rfl) ?_
  refine A_putFR (jj := 96) (dd := 1068) 1362 rfl (Or.inr ⟨_, rfl⟩) fl_12_221 ⟨isC_12, rfl⟩ rfl rfl (by decide) ⟨by decide, by decide⟩ ob_68 (by decide) (D_X12_init_19.at 35 rfl) ?_
  exact T
def U_X12_init_68 : List Up := (U_X12_init_68_16 ++ (U_X12_init_68_15 ++ (U_X12_init_68_14 ++ (U_X12_init_68_13 ++ (U_X12_init_68_12 ++ (U_X12_init_68_11 ++ (U_X12_init_68_10 ++ (U_X12_init_68_9 ++ (U_X12_init_68_8 ++ (U_X12_init_68_7 ++ (U_X12_init_68_6 ++ (U_X12_init_68_5 ++ (U_X12_init_68_4 ++ (U_X12_init_68_3 ++ (U_X12_init_68_2 ++ (U_X12_init_68_1 ++ U_X12_init_68_0))))))))))))))))
theorem kc_X12_init_68 {w : Wd} {h : Hp} {K : Int → Hp → Prop} (T : K 0 (ap U_X12_init_68 h)) : CGm w false m_X12_init 1 69 137 [vR 68] h K := by
  unfold U_X12_init_68 at T
  simp only [ap_app] at T
  refine CGm_of2 (by decide) (by decide) trivial (by decide) ?_
  exact (kc_X12_init_68_0 (kc_X12_init_68_1 (kc_X12_init_68_2 (kc_X12_init_68_3 (kc_X12_init_68_4 (kc_X12_init_68_5 (kc_X12_init_68_6 (kc_X12_init_68_7 (kc_X12_init_68_8 (kc_X12_init_68_9 (kc_X12_init_68_10 (kc_X12_init_68_11 (kc_X12_init_68_12 (kc_X12_init_68_13 (kc_X12_init_68_14 (kc_X12_init_68_15 (kc_X12_init_68_16 (J_vret rfl (D_X12_init_19.at 36 rfl) T))))))))))))))))))
