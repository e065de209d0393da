def C_X12_qCode (w : Wd) (a1 : Int) (h : Hp) (K : Int → Hp → Prop) : Prop := CGm w true m_X12_qCode 1 NT NT [vR 68, vI a1] h K
def C_X12_qIsBracket (w : Wd) (a1 : Int) (h : Hp) (K : Int → Hp → Prop) : Prop := CGm w true m_X12_qIsBracket 1 NT NT [vI a1] h K
def C_X12_qIsOn (w : Wd) (a1 : Int) (h : Hp) (K : Int → Hp → Prop) : Prop := CGm w true m_X12_qIsOn 1 NT NT [vR 68, vI a1] h K
def C_X12_qHasSquare (w : Wd) (h : Hp) (K : Int → Hp → Prop) : Prop := CGm w true m_X12_qHasSquare 1 NT NT [vR 68] h K
def L_X12_qHasSquare_2 (w : Wd) (v1 : Int) (h : Hp) (K : Int → Hp → Prop) : Prop := JG w true m_X12_qHasSquare 1 NT NT 2 [(0, vR 68), (1, vI v1)] [] h K
def C_X12_qPuts (w : Wd) (a1 : Int) (h : Hp) (K : Int → Hp → Prop) : Prop := CGm w true m_X12_qPuts 1 NT NT [vR 68, vL a1] h K
def C_X12_qClip (w : Wd) (a1 : Int) (h : Hp) (K : Int → Hp → Prop) : Prop := CGm w true m_X12_qClip 1 NT NT [vL a1] h K
def C_X12_qFloor (w : Wd) (a1 a2 : Int) (h : Hp) (K : Int → Hp → Prop) : Prop := CGm w true m_X12_qFloor 1 NT NT [vL a1, vL a2] h K
def C_X12_qTakes (w : Wd) (a1 a2 a3 : Int) (h : Hp) (K : Int → Hp → Prop) : Prop := CGm w true m_X12_qTakes 1 NT NT [vR 68, vI a1, vL a2, vI a3] h K
def L_X12_qTakes_15 (w : Wd) (v1 v2 v4 : Int) (h : Hp) (K : Int → Hp → Prop) : Prop := JG w true m_X12_qTakes 1 NT NT 15 [(0, vR 68), (1, vI v1), (2, vL v2), (4, vI v4)] [] h K
def L_X12_qTakes_38 (w : Wd) (v1 v2 v4 v5 : Int) (h : Hp) (K : Int → Hp → Prop) : Prop := JG w true m_X12_qTakes 1 NT NT 38 [(0, vR 68), (1, vI v1), (2, vL v2), (4, vI v4), (5, vI v5)] [] h K
def L_X12_qTakes_48 (w : Wd) (v1 v2 v4 v5 : Int) (h : Hp) (K : Int → Hp → Prop) : Prop := JG w true m_X12_qTakes 1 NT NT 48 [(0, vR 68), (1, vI v1), (2, vL v2), (4, vI v4), (5, vI v5)] [] h K
def L_X12_qTakes_55 (w : Wd) (v1 v2 v5 : Int) (h : Hp) (K : Int → Hp → Prop) : Prop := JG w true m_X12_qTakes 1 NT NT 55 [(0, vR 68), (1, vI v1), (2, vL v2), (5, vI v5)] [] h K
def L_X12_qTakes_75 (w : Wd) (v1 v2 : Int) (h : Hp) (K : Int → Hp → Prop) : Prop := JG w true m_X12_qTakes 1 NT NT 75 [(0, vR 68), (1, vI v1), (2, vL v2)] [] h K
def L_X12_qTakes_90 (w : Wd) (v1 v2 : Int) (h : Hp) (K : Int → Hp → Prop) : Prop := JG w true m_X12_qTakes 1 NT NT 90 [(0, vR 68), (1, vI v1), (2, vL v2)] [] h K
def L_X12_qTakes_133 (w : Wd) (h : Hp) (K : Int → Hp → Prop) : Prop := JG w true m_X12_qTakes 1 NT NT 133 [(0, vR 68)] [] h K
def L_X12_qTakes_128 (w : Wd) (v2 : Int) (h : Hp) (K : Int → Hp → Prop) : Prop := JG w true m_X12_qTakes 1 NT NT 128 [(0, vR 68), (2, vL v2)] [] h K
def C_X12_qOpens (w : Wd) (a1 a2 : Int) (h : Hp) (K : Int → Hp → Prop) : Prop := CGm w true m_X12_qOpens 2 NT NT [vR 68, vI a1, vI a2] h K
def C_X12_qDrops (w : Wd) (h : Hp) (K : Int → Hp → Prop) : Prop := CGm w true m_X12_qDrops 2 NT NT [vR 68] h K
def C_X12_qBracket (w : Wd) (h : Hp) (K : Int → Hp → Prop) : Prop := CGm w true m_X12_qBracket 2 NT NT [vR 68] h K
def L_X12_qBracket_7 (w : Wd) (v1 : Int) (h : Hp) (K : Int → Hp → Prop) : Prop := JG w true m_X12_qBracket 2 NT NT 7 [(0, vR 68), (1, vI v1)] [] h K
def C_X12_qPartOf (w : Wd) (a1 a2 : Int) (h : Hp) (K : Int → Hp → Prop) : Prop := CGm w true m_X12_qPartOf 2 NT NT [vR 68, vI a1, vI a2] h K
def C_X12_qJoins (w : Wd) (a1 : Int) (h : Hp) (K : Int → Hp → Prop) : Prop := CGm w true m_X12_qJoins 2 NT NT [vR 68, vI a1] h K
def C_X12_qWordHere (w : Wd) (h : Hp) (K : Int → Hp → Prop) : Prop := CGm w true m_X12_qWordHere 3 NT NT [vR 68] h K
def C_X12_qEndsPart (w : Wd) (h : Hp) (K : Int → Hp → Prop) : Prop := CGm w true m_X12_qEndsPart 3 NT NT [vR 68] h K
def L_X12_qEndsPart_0 (w : Wd) (h : Hp) (K : Int → Hp → Prop) : Prop := JG w true m_X12_qEndsPart 3 NT NT 0 [(0, vR 68)] [] h K
def C_X12_qDropsToBracket (w : Wd) (h : Hp) (K : Int → Hp → Prop) : Prop := CGm w true m_X12_qDropsToBracket 3 NT NT [vR 68] h K
def L_X12_qDropsToBracket_0 (w : Wd) (h : Hp) (K : Int → Hp → Prop) : Prop := JG w true m_X12_qDropsToBracket 3 NT NT 0 [(0, vR 68)] [] h K
def C_X12_qDropsNots (w : Wd) (h : Hp) (K : Int → Hp → Prop) : Prop := CGm w true m_X12_qDropsNots 3 NT NT [vR 68] h K
def L_X12_qDropsNots_0 (w : Wd) (h : Hp) (K : Int → Hp → Prop) : Prop := JG w true m_X12_qDropsNots 3 NT NT 0 [(0, vR 68)] [] h K
def C_X12_qWordOf (w : Wd) (a1 a2 : Int) (h : Hp) (K : Int → Hp → Prop) : Prop := CGm w true m_X12_qWordOf 4 NT NT [vR 68, vI a1, vI a2] h K
def C_X12_qGoesOn (w : Wd) (h : Hp) (K : Int → Hp → Prop) : Prop := CGm w true m_X12_qGoesOn 4 NT NT [vR 68] h K
def L_X12_qGoesOn_0 (w : Wd) (h : Hp) (K : Int → Hp → Prop) : Prop := JG w true m_X12_qGoesOn 4 NT NT 0 [(0, vR 68)] [] h K
def L_X12_qGoesOn_122 (w : Wd) (h : Hp) (K : Int → Hp → Prop) : Prop := JG w true m_X12_qGoesOn 4 NT NT 122 [(0, vR 68)] [] h K
def L_X12_qGoesOn_43 (w : Wd) (h : Hp) (K : Int → Hp → Prop) : Prop := JG w true m_X12_qGoesOn 4 NT NT 43 [(0, vR 68)] [] h K
def L_X12_qGoesOn_115 (w : Wd) (h : Hp) (K : Int → Hp → Prop) : Prop := JG w true m_X12_qGoesOn 4 NT NT 115 [(0, vR 68)] [] h K
def L_X12_qGoesOn_140 (w : Wd) (h : Hp) (K : Int → Hp → Prop) : Prop := JG w true m_X12_qGoesOn 4 NT NT 140 [(0, vR 68)] [] h K
def L_X12_qGoesOn_225 (w : Wd) (h : Hp) (K : Int → Hp → Prop) : Prop := JG w true m_X12_qGoesOn 4 NT NT 225 [(0, vR 68)] [] h K
def L_X12_qGoesOn_326 (w : Wd) (h : Hp) (K : Int → Hp → Prop) : Prop := JG w true m_X12_qGoesOn 4 NT NT 326 [(0, vR 68)] [] h K
def L_X12_qGoesOn_386 (w : Wd) (h : Hp) (K : Int → Hp → Prop) : Prop := JG w true m_X12_qGoesOn 4 NT NT 386 [] [] h K
def L_X12_qGoesOn_247 (w : Wd) (v1 : Int) (h : Hp) (K : Int → Hp → Prop) : Prop := JG w true m_X12_qGoesOn 4 NT NT 247 [(0, vR 68), (1, vI v1)] [] h K
def L_X12_qGoesOn_279 (w : Wd) (v1 : Int) (h : Hp) (K : Int → Hp → Prop) : Prop := JG w true m_X12_qGoesOn 4 NT NT 279 [(0, vR 68), (1, vI v1)] [] h K
def L_X12_qGoesOn_162 (w : Wd) (v1 : Int) (h : Hp) (K : Int → Hp → Prop) : Prop := JG w true m_X12_qGoesOn 4 NT NT 162 [(0, vR 68), (1, vI v1)] [] h K
def L_X12_qGoesOn_178 (w : Wd) (v1 : Int) (h : Hp) (K : Int → Hp → Prop) : Prop := JG w true m_X12_qGoesOn 4 NT NT 178 [(0, vR 68), (1, vI v1)] [] h K
def C_X12_qGoesOnTest (w : Wd) (h : Hp) (K : Int → Hp → Prop) : Prop := CGm w true m_X12_qGoesOnTest 4 NT NT [vR 68] h K
def L_X12_qGoesOnTest_0 (w : Wd) (h : Hp) (K : Int → Hp → Prop) : Prop := JG w true m_X12_qGoesOnTest 4 NT NT 0 [(0, vR 68)] [] h K
def L_X12_qGoesOnTest_76 (w : Wd) (h : Hp) (K : Int → Hp → Prop) : Prop := JG w true m_X12_qGoesOnTest 4 NT NT 76 [(0, vR 68)] [] h K
def L_X12_qGoesOnTest_33 (w : Wd) (h : Hp) (K : Int → Hp → Prop) : Prop := JG w true m_X12_qGoesOnTest 4 NT NT 33 [(0, vR 68)] [] h K
def L_X12_qGoesOnTest_208 (w : Wd) (h : Hp) (K : Int → Hp → Prop) : Prop := JG w true m_X12_qGoesOnTest 4 NT NT 208 [] [] h K
def L_X12_qGoesOnTest_137 (w : Wd) (h : Hp) (K : Int → Hp → Prop) : Prop := JG w true m_X12_qGoesOnTest 4 NT NT 137 [(0, vR 68)] [] h K
def L_X12_qGoesOnTest_87 (w : Wd) (h : Hp) (K : Int → Hp → Prop) : Prop := JG w true m_X12_qGoesOnTest 4 NT NT 87 [(0, vR 68)] [] h K
def L_X12_qGoesOnTest_155 (w : Wd) (h : Hp) (K : Int → Hp → Prop) : Prop := JG w true m_X12_qGoesOnTest 4 NT NT 155 [(0, vR 68)] [] h K
def C_X12_qOf (w : Wd) (a1 a2 a3 : Int) (h : Hp) (K : Int → Hp → Prop) : Prop := CGm w true m_X12_qOf 4 NT NT [vR 68, vI a1, vL a2, vI a3] h K
def C_X12_qKind (w : Wd) (h : Hp) (K : Int → Hp → Prop) : Prop := CGm w true m_X12_qKind 5 NT NT [vR 68] h K
def C_X12_qAsksWord (w : Wd) (a1 : Int) (h : Hp) (K : Int → Hp → Prop) : Prop := CGm w true m_X12_qAsksWord 5 NT NT [vR 68, vI a1] h K
def C_X12_qTold (w : Wd) (a1 : Int) (h : Hp) (K : Int → Hp → Prop) : Prop := CGm w true m_X12_qTold 5 NT NT [vR 68, vI a1] h K
def L_X12_qTold_7 (w : Wd) (v1 v2 : Int) (h : Hp) (K : Int → Hp → Prop) : Prop := JG w true m_X12_qTold 5 NT NT 7 [(0, vR 68), (1, vI v1), (2, vI v2)] [] h K
def C_X12_qPartTold (w : Wd) (h : Hp) (K : Int → Hp → Prop) : Prop := CGm w true m_X12_qPartTold 6 NT NT [vR 68] h K
def L_X12_qPartTold_2 (w : Wd) (v1 : Int) (h : Hp) (K : Int → Hp → Prop) : Prop := JG w true m_X12_qPartTold 6 NT NT 2 [(0, vR 68), (1, vI v1)] [] h K
def L_X12_qPartTold_183 (w : Wd) (h : Hp) (K : Int → Hp → Prop) : Prop := JG w true m_X12_qPartTold 6 NT NT 183 [(0, vR 68)] [] h K
def L_X12_qPartTold_76 (w : Wd) (v1 : Int) (h : Hp) (K : Int → Hp → Prop) : Prop := JG w true m_X12_qPartTold 6 NT NT 76 [(0, vR 68), (1, vI v1)] [] h K
def L_X12_qPartTold_180 (w : Wd) (v1 : Int) (h : Hp) (K : Int → Hp → Prop) : Prop := JG w true m_X12_qPartTold 6 NT NT 180 [(0, vR 68), (1, vI v1)] [] h K
def L_X12_qPartTold_99 (w : Wd) (v1 v4 : Int) (h : Hp) (K : Int → Hp → Prop) : Prop := JG w true m_X12_qPartTold 6 NT NT 99 [(0, vR 68), (1, vI v1), (4, vI v4)] [] h K
def L_X12_qPartTold_142 (w : Wd) (v1 : Int) (h : Hp) (K : Int → Hp → Prop) : Prop := JG w true m_X12_qPartTold 6 NT NT 142 [(0, vR 68), (1, vI v1)] [] h K
def L_X12_qPartTold_208 (w : Wd) (v2 : Int) (h : Hp) (K : Int → Hp → Prop) : Prop := JG w true m_X12_qPartTold 6 NT NT 208 [(0, vR 68), (2, vI v2)] [] h K
def C_X12_qSums (w : Wd) (h : Hp) (K : Int → Hp → Prop) : Prop := CGm w true m_X12_qSums 7 NT NT [vR 68] h K
def L_X12_qSums_15 (w : Wd) (v1 v2 : Int) (h : Hp) (K : Int → Hp → Prop) : Prop := JG w true m_X12_qSums 7 NT NT 15 [(0, vR 68), (1, vI v1), (2, vI v2)] [] h K
def L_X12_qSums_53 (w : Wd) (v1 : Int) (h : Hp) (K : Int → Hp → Prop) : Prop := JG w true m_X12_qSums 7 NT NT 53 [(0, vR 68), (1, vI v1)] [] h K
def C_X12_qFact (w : Wd) (h : Hp) (K : Int → Hp → Prop) : Prop := CGm w true m_X12_qFact 8 NT NT [vR 68] h K
def C_X12_qTest (w : Wd) (h : Hp) (K : Int → Hp → Prop) : Prop := CGm w true m_X12_qTest 9 NT NT [vR 68] h K
def L_X12_qTest_2 (w : Wd) (v1 : Int) (h : Hp) (K : Int → Hp → Prop) : Prop := JG w true m_X12_qTest 9 NT NT 2 [(0, vR 68), (1, vI v1)] [] h K
def L_X12_qTest_110 (w : Wd) (h : Hp) (K : Int → Hp → Prop) : Prop := JG w true m_X12_qTest 9 NT NT 110 [(0, vR 68)] [] h K
def C_X12_ask (w : Wd) (h : Hp) (K : Int → Hp → Prop) : Prop := CGm w true m_X12_ask 10 NT NT [vR 68] h K
def L_X12_ask_93 (w : Wd) (v1 : Int) (h : Hp) (K : Int → Hp → Prop) : Prop := JG w true m_X12_ask 10 NT NT 93 [(0, vR 68), (1, vI v1)] [] h K
def L_X12_ask_104 (w : Wd) (v1 : Int) (h : Hp) (K : Int → Hp → Prop) : Prop := JG w true m_X12_ask 10 NT NT 104 [(0, vR 68), (1, vI v1)] [] h K
def L_X12_ask_128 (w : Wd) (v1 : Int) (h : Hp) (K : Int → Hp → Prop) : Prop := JG w true m_X12_ask 10 NT NT 128 [(0, vR 68), (1, vI v1)] [] h K
def L_X12_ask_178 (w : Wd) (v1 v2 : Int) (h : Hp) (K : Int → Hp → Prop) : Prop := JG w true m_X12_ask 10 NT NT 178 [(0, vR 68), (1, vI v1), (2, vI v2)] [] h K
theorem c_X12_qCode {w : Wd} {a1 : Int} {h : Hp} {K : Int → Hp → Prop} (T : (0 ≤ (h 68 87) ∧ (h 68 87) < 1700) ∧ (∀ h2 : Hp, h2 = hu h 133 (h 68 87) a1 → ∀ h4 : Hp, h4 = hu h2 68 87 ((h2 68 87) + 1) → K 0 h4)) : C_X12_qCode w a1 h K := by
  refine CGm_of2 (by decide) (by decide) trivial (Nat.le_of_ble_eq_true rfl) ?_
  refine J_aload_n 1 rfl 0 0 rfl ⟨by decide, by decide⟩ (D_X12_qCode_0.at 0 rfl) ?_
  refine J_getF (ov := 133) (dd := 1065) 4 rfl fl_12_212 rfl (by decide) rfl ob_68 (Ob.lt ob_68) (D_X12_qCode_0.at 1 rfl) ?_
  refine J_aload_n 5 rfl 0 0 rfl ⟨by decide, by decide⟩ (D_X12_qCode_0.at 2 rfl) ?_
  refine J_getI (z := (h 68 87)) 8 rfl fl_12_574 rfl ob_68 (Ob.lt ob_68) (D_X12_qCode_0.at 3 rfl) rfl ?_
  refine J_iload_n 9 rfl 1 1 rfl (D_X12_qCode_0.at 4 rfl) ?_
  obtain ⟨s1, T⟩ := T
  refine J_iastH 10 rfl ar_133 (Ar.lt ar_133) s1 trivial (D_X12_qCode_0.at 5 rfl) (fun h2 e3 => ?_)
  replace T := T h2 e3
  refine J_aload_n 11 rfl 0 0 rfl ⟨by decide, by decide⟩ (D_X12_qCode_0.at 6 rfl) ?_
  refine J_dup 12 rfl rfl (D_X12_qCode_0.at 7 rfl) ?_
  refine J_getI (z := (h2 68 87)) 15 rfl fl_12_574 rfl ob_68 (Ob.lt ob_68) (D_X12_qCode_0.at 8 rfl) rfl ?_
  refine J_iconst 16 rfl (D_X12_qCode_0.at 9 rfl) ?_
  refine J_iadd 17 rfl (D_X12_qCode_0.at 10 rfl) ?_
  refine J_putI 20 rfl fl_12_574 rfl rfl ob_68 (Ob.lt ob_68) (D_X12_qCode_0.at 11 rfl) (fun h4 e5 => ?_)
  replace T := T h4 e5
  exact J_vret rfl (D_X12_qCode_0.at 12 rfl) T
theorem c_X12_qIsBracket {w : Wd} {a1 : Int} {h : Hp} {K : Int → Hp → Prop} (T : (inR a1) ∧ (((a1 < 20) → (K 0 h)) ∧ (¬ (a1 < 20) → ((inR a1) ∧ (((a1 > 24) → (K 0 h)) ∧ (¬ (a1 > 24) → (K 1 h))))))) : C_X12_qIsBracket w a1 h K := by
  refine CGm_of2 (by decide) (by decide) trivial (Nat.le_of_ble_eq_true rfl) ?_
  refine J_iload_n 1 rfl 0 0 rfl (D_X12_qIsBracket_0.at 0 rfl) ?_
  refine J_bipush 3 rfl ⟨by decide, by decide⟩ (D_X12_qIsBracket_0.at 1 rfl) ?_
  obtain ⟨s1, T⟩ := T
  refine J_icmp_lt 6 rfl 16 s1 ⟨by decide, by decide⟩ (D_X12_qIsBracket_0.at 2 rfl) (by decide) (fun c4 => ?_) (fun c4 => ?_)
  · replace T := T.1 c4
    refine J_iconst 17 rfl (D_X12_qIsBracket_0.at 8 rfl) ?_
    exact J_zret rfl (Or.inl rfl) (D_X12_qIsBracket_0.at 9 rfl) T
  replace T := T.2 c4
  refine J_iload_n 7 rfl 0 0 rfl (D_X12_qIsBracket_0.at 3 rfl) ?_
  refine J_bipush 9 rfl ⟨by decide, by decide⟩ (D_X12_qIsBracket_0.at 4 rfl) ?_
  obtain ⟨s2, T⟩ := T
  refine J_icmp_gt 12 rfl 16 s2 ⟨by decide, by decide⟩ (D_X12_qIsBracket_0.at 5 rfl) (by decide) (fun c3 => ?_) (fun c3 => ?_)
  · replace T := T.1 c3
    refine J_iconst 17 rfl (D_X12_qIsBracket_0.at 8 rfl) ?_
    exact J_zret rfl (Or.inl rfl) (D_X12_qIsBracket_0.at 9 rfl) T
  replace T := T.2 c3
  refine J_iconst 13 rfl (D_X12_qIsBracket_0.at 6 rfl) ?_
  refine J_goto 17 (D_X12_qIsBracket_0.at 7 rfl) (by decide) ?_
  exact J_zret rfl (Or.inr rfl) (D_X12_qIsBracket_0.at 9 rfl) T
theorem c_X12_qIsOn {w : Wd} {a1 : Int} {h : Hp} {K : Int → Hp → Prop} (T : (inR (h 68 89)) ∧ ((((h 68 89) ≤ 0) → (K 0 h)) ∧ (¬ ((h 68 89) ≤ 0) → ((0 ≤ ((h 68 89) - 1) ∧ ((h 68 89) - 1) < 1700) ∧ ((inR (h 134 ((h 68 89) - 1))) ∧ ((inR a1) ∧ ((((h 134 ((h 68 89) - 1)) ≠ a1) → (K 0 h)) ∧ (¬ ((h 134 ((h 68 89) - 1)) ≠ a1) → (K 1 h))))))))) : C_X12_qIsOn w a1 h K := by
  refine CGm_of2 (by decide) (by decide) trivial (Nat.le_of_ble_eq_true rfl) ?_
  refine J_aload_n 1 rfl 0 0 rfl ⟨by decide, by decide⟩ (D_X12_qIsOn_0.at 0 rfl) ?_
  refine J_getI (z := (h 68 89)) 4 rfl fl_12_580 rfl ob_68 (Ob.lt ob_68) (D_X12_qIsOn_0.at 1 rfl) rfl ?_
  obtain ⟨s1, T⟩ := T
  refine J_if_le 7 rfl 26 s1 (D_X12_qIsOn_0.at 2 rfl) (by decide) (fun c6 => ?_) (fun c6 => ?_)
  · replace T := T.1 c6
    refine J_iconst 27 rfl (D_X12_qIsOn_0.at 14 rfl) ?_
    exact J_zret rfl (Or.inl rfl) (D_X12_qIsOn_0.at 15 rfl) T
  replace T := T.2 c6
  refine J_aload_n 8 rfl 0 0 rfl ⟨by decide, by decide⟩ (D_X12_qIsOn_0.at 3 rfl) ?_
  refine J_getF (ov := 134) (dd := 1066) 11 rfl fl_12_215 rfl (by decide) rfl ob_68 (Ob.lt ob_68) (D_X12_qIsOn_0.at 4 rfl) ?_
  refine J_aload_n 12 rfl 0 0 rfl ⟨by decide, by decide⟩ (D_X12_qIsOn_0.at 5 rfl) ?_
  refine J_getI (z := (h 68 89)) 15 rfl fl_12_580 rfl ob_68 (Ob.lt ob_68) (D_X12_qIsOn_0.at 6 rfl) rfl ?_
  refine J_iconst 16 rfl (D_X12_qIsOn_0.at 7 rfl) ?_
  refine J_isub 17 rfl (D_X12_qIsOn_0.at 8 rfl) ?_
  obtain ⟨s2, T⟩ := T
  refine J_iald 18 rfl ar_134 (Ar.lt ar_134) s2 (D_X12_qIsOn_0.at 9 rfl) ?_
  refine J_iload_n 19 rfl 1 1 rfl (D_X12_qIsOn_0.at 10 rfl) ?_
  obtain ⟨s3, T⟩ := T
  obtain ⟨s4, T⟩ := T
  refine J_icmp_ne 22 rfl 26 s3 s4 (D_X12_qIsOn_0.at 11 rfl) (by decide) (fun c5 => ?_) (fun c5 => ?_)
  · replace T := T.1 c5
    refine J_iconst 27 rfl (D_X12_qIsOn_0.at 14 rfl) ?_
    exact J_zret rfl (Or.inl rfl) (D_X12_qIsOn_0.at 15 rfl) T
  replace T := T.2 c5
  refine J_iconst 23 rfl (D_X12_qIsOn_0.at 12 rfl) ?_
  refine J_goto 27 (D_X12_qIsOn_0.at 13 rfl) (by decide) ?_
  exact J_zret rfl (Or.inr rfl) (D_X12_qIsOn_0.at 15 rfl) T
theorem c_X12_qHasSquare {w : Wd} {h : Hp} {K : Int → Hp → Prop} (T : L_X12_qHasSquare_2 w 0 h K) : C_X12_qHasSquare w h K := by
  refine CGm_of2 (by decide) (by decide) trivial (Nat.le_of_ble_eq_true rfl) ?_
  refine J_iconst 1 rfl (D_X12_qHasSquare_0.at 0 rfl) ?_
  refine J_istore_n (lv' := [(1, vI 0), (0, vR 68)]) 2 rfl 1 (by decide) rfl (D_X12_qHasSquare_0.at 1 rfl) ?_
  exact J_sub (lv' := [(0, vR 68), (1, vI 0)]) [1, 0] rfl T
theorem l_X12_qHasSquare_2 {w : Wd} {v1 : Int} {h : Hp} {K : Int → Hp → Prop} (T : (inR v1) ∧ ((inR (h 68 89)) ∧ (((v1 ≥ (h 68 89)) → (K 0 h)) ∧ (¬ (v1 ≥ (h 68 89)) → ((0 ≤ v1 ∧ v1 < 1700) ∧ ((inR (h 134 v1)) ∧ ((((h 134 v1) ≠ 25) → (L_X12_qHasSquare_2 w (v1 + 1) h K)) ∧ (¬ ((h 134 v1) ≠ 25) → (K 1 h))))))))) : L_X12_qHasSquare_2 w v1 h K := by
  unfold L_X12_qHasSquare_2
  refine J_iload_n 3 rfl 1 1 rfl (D_X12_qHasSquare_0.at 2 rfl) ?_
  refine J_aload_n 4 rfl 0 0 rfl ⟨by decide, by decide⟩ (D_X12_qHasSquare_0.at 3 rfl) ?_
  refine J_getI (z := (h 68 89)) 7 rfl fl_12_580 rfl ob_68 (Ob.lt ob_68) (D_X12_qHasSquare_0.at 4 rfl) rfl ?_
  obtain ⟨s1, T⟩ := T
  obtain ⟨s2, T⟩ := T
  refine J_icmp_ge 10 rfl 29 s1 s2 (D_X12_qHasSquare_0.at 5 rfl) (by decide) (fun c6 => ?_) (fun c6 => ?_)
  · replace T := T.1 c6
    refine J_iconst 30 rfl (D_X12_qHasSquare_0.at 16 rfl) ?_
    exact J_zret rfl (Or.inl rfl) (D_X12_qHasSquare_0.at 17 rfl) T
  replace T := T.2 c6
  refine J_aload_n 11 rfl 0 0 rfl ⟨by decide, by decide⟩ (D_X12_qHasSquare_0.at 6 rfl) ?_
  refine J_getF (ov := 134) (dd := 1066) 14 rfl fl_12_215 rfl (by decide) rfl ob_68 (Ob.lt ob_68) (D_X12_qHasSquare_0.at 7 rfl) ?_
  refine J_iload_n 15 rfl 1 1 rfl (D_X12_qHasSquare_0.at 8 rfl) ?_
  obtain ⟨s3, T⟩ := T
  refine J_iald 16 rfl ar_134 (Ar.lt ar_134) s3 (D_X12_qHasSquare_0.at 9 rfl) ?_
  refine J_bipush 18 rfl ⟨by decide, by decide⟩ (D_X12_qHasSquare_0.at 10 rfl) ?_
  obtain ⟨s4, T⟩ := T
  refine J_icmp_ne 21 rfl 23 s4 ⟨by decide, by decide⟩ (D_X12_qHasSquare_0.at 11 rfl) (by decide) (fun c5 => ?_) (fun c5 => ?_)
  · replace T := T.1 c5
    refine J_iinc (v := (v1 + 1)) (lv' := [(1, vI (v1 + 1)), (0, vR 68)]) 26 rfl 1 1 1 rfl rfl (by decide) rfl (D_X12_qHasSquare_0.at 14 rfl) ?_
    refine J_goto 2 (D_X12_qHasSquare_0.at 15 rfl) (by decide) ?_
    exact J_sub (lv' := [(0, vR 68), (1, vI (v1 + 1))]) [1, 0] rfl T
  replace T := T.2 c5
  refine J_iconst 22 rfl (D_X12_qHasSquare_0.at 12 rfl) ?_
  exact J_zret rfl (Or.inr rfl) (D_X12_qHasSquare_0.at 13 rfl) T
theorem c_X12_qPuts {w : Wd} {a1 : Int} {h : Hp} {K : Int → Hp → Prop} (T : (0 ≤ (h 68 93) ∧ (h 68 93) < 1700) ∧ (∀ h2 : Hp, h2 = hu h 135 (h 68 93) a1 → ∀ h4 : Hp, h4 = hu h2 68 93 ((h2 68 93) + 1) → K 0 h4)) : C_X12_qPuts w a1 h K := by
  refine CGm_of2 (by decide) (by decide) trivial (Nat.le_of_ble_eq_true rfl) ?_
  refine J_aload_n 1 rfl 0 0 rfl ⟨by decide, by decide⟩ (D_X12_qPuts_0.at 0 rfl) ?_
  refine J_getF (ov := 135) (dd := 1067) 4 rfl fl_12_218 rfl (by decide) rfl ob_68 (Ob.lt ob_68) (D_X12_qPuts_0.at 1 rfl) ?_
  refine J_aload_n 5 rfl 0 0 rfl ⟨by decide, by decide⟩ (D_X12_qPuts_0.at 2 rfl) ?_
  refine J_getI (z := (h 68 93)) 8 rfl fl_12_640 rfl ob_68 (Ob.lt ob_68) (D_X12_qPuts_0.at 3 rfl) rfl ?_
  refine J_lload_n 9 rfl 1 1 rfl (D_X12_qPuts_0.at 4 rfl) ?_
  obtain ⟨s1, T⟩ := T
  refine J_lastH 10 rfl ar_135 (Ar.lt ar_135) s1 trivial (D_X12_qPuts_0.at 5 rfl) (fun h2 e3 => ?_)
  replace T := T h2 e3
  refine J_aload_n 11 rfl 0 0 rfl ⟨by decide, by decide⟩ (D_X12_qPuts_0.at 6 rfl) ?_
  refine J_dup 12 rfl rfl (D_X12_qPuts_0.at 7 rfl) ?_
  refine J_getI (z := (h2 68 93)) 15 rfl fl_12_640 rfl ob_68 (Ob.lt ob_68) (D_X12_qPuts_0.at 8 rfl) rfl ?_
  refine J_iconst 16 rfl (D_X12_qPuts_0.at 9 rfl) ?_
  refine J_iadd 17 rfl (D_X12_qPuts_0.at 10 rfl) ?_
  refine J_putI 20 rfl fl_12_640 rfl rfl ob_68 (Ob.lt ob_68) (D_X12_qPuts_0.at 11 rfl) (fun h4 e5 => ?_)
  replace T := T h4 e5
  exact J_vret rfl (D_X12_qPuts_0.at 12 rfl) T
theorem c_X12_qClip {w : Wd} {a1 : Int} {h : Hp} {K : Int → Hp → Prop} (T : (inL a1) ∧ (((a1 ≤ 1000000) → ((inL a1) ∧ (((a1 ≥ (-1000000)) → (K a1 h)) ∧ (¬ (a1 ≥ (-1000000)) → (K (-1000000) h))))) ∧ (¬ (a1 ≤ 1000000) → (K 1000000 h)))) : C_X12_qClip w a1 h K := by
  refine CGm_of2 (by decide) (by decide) trivial (Nat.le_of_ble_eq_true rfl) ?_
  refine J_lload_n 1 rfl 0 0 rfl (D_X12_qClip_0.at 0 rfl) ?_
  refine J_ldc2 4 rfl ko_12_393 (D_X12_qClip_0.at 1 rfl) ?_
  obtain ⟨s1, T⟩ := T
  refine J_lcmp_le 8 rfl 14 s1 ⟨by decide, by decide⟩ (D_X12_qClip_0.at 2 rfl) (D_X12_qClip_0.at 3 rfl) (by decide) (fun c4 => ?_) (fun c4 => ?_)
  · replace T := T.1 c4
    refine J_lload_n 15 rfl 0 0 rfl (D_X12_qClip_0.at 6 rfl) ?_
    refine J_ldc2 18 rfl ko_12_395 (D_X12_qClip_0.at 7 rfl) ?_
    obtain ⟨s2, T⟩ := T
    refine J_lcmp_ge 22 rfl 28 s2 ⟨by decide, by decide⟩ (D_X12_qClip_0.at 8 rfl) (D_X12_qClip_0.at 9 rfl) (by decide) (fun c3 => ?_) (fun c3 => ?_)
    · replace T := T.1 c3
      refine J_lload_n 29 rfl 0 0 rfl (D_X12_qClip_0.at 12 rfl) ?_
      exact J_lret rfl (D_X12_qClip_0.at 13 rfl) T
    replace T := T.2 c3
    refine J_ldc2 25 rfl ko_12_395 (D_X12_qClip_0.at 10 rfl) ?_
    refine J_goto 29 (D_X12_qClip_0.at 11 rfl) (by decide) ?_
    exact J_lret rfl (D_X12_qClip_0.at 13 rfl) T
  replace T := T.2 c4
  refine J_ldc2 11 rfl ko_12_393 (D_X12_qClip_0.at 4 rfl) ?_
  refine J_goto 29 (D_X12_qClip_0.at 5 rfl) (by decide) ?_
  exact J_lret rfl (D_X12_qClip_0.at 13 rfl) T
theorem c_X12_qFloor {w : Wd} {a1 a2 : Int} {h : Hp} {K : Int → Hp → Prop} (T : (inL a2) ∧ (((a2 ≠ 0) → ((-9223372036854775808 < a1 ∧ a1 < 9223372036854775808) ∧ ((inL a2) ∧ ((a2 ≠ 0) ∧ ((-9223372036854775808 < a1 ∧ a1 < 9223372036854775808) ∧ ((inL a2) ∧ ((a2 ≠ 0) ∧ ((inL (Int.tmod a1 a2)) ∧ ((((Int.tmod a1 a2) = 0) → (K (Int.tdiv a1 a2) h)) ∧ (¬ ((Int.tmod a1 a2) = 0) → ((inL a1) ∧ (((a1 ≥ 0) → ((inL a2) ∧ (((a2 ≥ 0) → (K (Int.tdiv a1 a2) h)) ∧ (¬ (a2 ≥ 0) → (K ((Int.tdiv a1 a2) - 1) h))))) ∧ (¬ (a1 ≥ 0) → ((inL a2) ∧ (((a2 ≥ 0) → (K ((Int.tdiv a1 a2) - 1) h)) ∧ (¬ (a2 ≥ 0) → (K (Int.tdiv a1 a2) h))))))))))))))))) ∧ (¬ (a2 ≠ 0) → (K 0 h)))) : C_X12_qFloor w a1 a2 h K := by
  refine CGm_of2 (by decide) (by decide) trivial (Nat.le_of_ble_eq_true rfl) ?_
  refine J_lload_n 1 rfl 2 1 rfl (D_X12_qFloor_0.at 0 rfl) ?_
  refine J_lconst (z := 0) 2 rfl rfl (D_X12_qFloor_0.at 1 rfl) ?_
  obtain ⟨s1, T⟩ := T
  refine J_lcmp_ne 6 rfl 8 s1 ⟨by decide, by decide⟩ (D_X12_qFloor_0.at 2 rfl) (D_X12_qFloor_0.at 3 rfl) (by decide) (fun c16 => ?_) (fun c16 => ?_)
  · replace T := T.1 c16
    refine J_lload_n 9 rfl 0 0 rfl (D_X12_qFloor_0.at 6 rfl) ?_
    refine J_lload_n 10 rfl 2 1 rfl (D_X12_qFloor_0.at 7 rfl) ?_
    obtain ⟨s2, T⟩ := T
    obtain ⟨s3, T⟩ := T
    obtain ⟨s4, T⟩ := T
    refine J_ldivS 11 rfl s2 s3 s4 (D_X12_qFloor_0.at 8 rfl) ?_
    refine J_lstore (lv' := [(4, vL (Int.tdiv a1 a2)), (0, vL a1), (2, vL a2)]) 13 rfl 4 (by decide) rfl (D_X12_qFloor_0.at 9 rfl) ?_
    refine J_lload_n 14 rfl 0 1 rfl (D_X12_qFloor_0.at 10 rfl) ?_
    refine J_lload_n 15 rfl 2 2 rfl (D_X12_qFloor_0.at 11 rfl) ?_
    obtain ⟨s5, T⟩ := T
    obtain ⟨s6, T⟩ := T
    obtain ⟨s7, T⟩ := T
    refine J_lremS 16 rfl s5 s6 s7 (D_X12_qFloor_0.at 12 rfl) ?_
    refine J_lconst (z := 0) 17 rfl rfl (D_X12_qFloor_0.at 13 rfl) ?_
    obtain ⟨s8, T⟩ := T
    refine J_lcmp_eq 21 rfl 53 s8 ⟨by decide, by decide⟩ (D_X12_qFloor_0.at 14 rfl) (D_X12_qFloor_0.at 15 rfl) (by decide) (fun c15 => ?_) (fun c15 => ?_)
    · replace T := T.1 c15
      refine J_lload 55 rfl 4 0 rfl (D_X12_qFloor_0.at 35 rfl) ?_
      exact J_lret rfl (D_X12_qFloor_0.at 36 rfl) T
    replace T := T.2 c15
    refine J_lload_n 22 rfl 0 1 rfl (D_X12_qFloor_0.at 16 rfl) ?_
    refine J_lconst (z := 0) 23 rfl rfl (D_X12_qFloor_0.at 17 rfl) ?_
    obtain ⟨s9, T⟩ := T
    refine J_lcmp_ge 27 rfl 31 s9 ⟨by decide, by decide⟩ (D_X12_qFloor_0.at 18 rfl) (D_X12_qFloor_0.at 19 rfl) (by decide) (fun c14 => ?_) (fun c14 => ?_)
    · replace T := T.1 c14
      refine J_iconst 32 rfl (D_X12_qFloor_0.at 22 rfl) ?_
      refine J_lload_n 33 rfl 2 2 rfl (D_X12_qFloor_0.at 23 rfl) ?_
      refine J_lconst (z := 0) 34 rfl rfl (D_X12_qFloor_0.at 24 rfl) ?_
      obtain ⟨s10, T⟩ := T
      refine J_lcmp_ge 38 rfl 42 s10 ⟨by decide, by decide⟩ (D_X12_qFloor_0.at 25 rfl) (D_X12_qFloor_0.at 26 rfl) (by decide) (fun c11 => ?_) (fun c11 => ?_)
      · replace T := T.1 c11
        refine J_iconst 43 rfl (D_X12_qFloor_0.at 29 rfl) ?_
        refine J_icmp_eq 46 rfl 53 ⟨by decide, by decide⟩ ⟨by decide, by decide⟩ (D_X12_qFloor_0.at 30 rfl) (by decide) (fun _ => ?_) (fun c => absurd (by decide) c)
        refine J_lload 55 rfl 4 0 rfl (D_X12_qFloor_0.at 35 rfl) ?_
        exact J_lret rfl (D_X12_qFloor_0.at 36 rfl) T
      replace T := T.2 c11
      refine J_iconst 39 rfl (D_X12_qFloor_0.at 27 rfl) ?_
      refine J_goto 43 (D_X12_qFloor_0.at 28 rfl) (by decide) ?_
      refine J_icmp_eq 46 rfl 53 ⟨by decide, by decide⟩ ⟨by decide, by decide⟩ (D_X12_qFloor_0.at 30 rfl) (by decide) (fun c => absurd c (by decide)) (fun _ => ?_)
      refine J_lload 48 rfl 4 0 rfl (D_X12_qFloor_0.at 31 rfl) ?_
      refine J_lconst (z := 1) 49 rfl rfl (D_X12_qFloor_0.at 32 rfl) ?_
      refine J_lsub 50 rfl (D_X12_qFloor_0.at 33 rfl) ?_
      refine J_goto 55 (D_X12_qFloor_0.at 34 rfl) (by decide) ?_
      exact J_lret rfl (D_X12_qFloor_0.at 36 rfl) T
    replace T := T.2 c14
    refine J_iconst 28 rfl (D_X12_qFloor_0.at 20 rfl) ?_
    refine J_goto 32 (D_X12_qFloor_0.at 21 rfl) (by decide) ?_
    refine J_lload_n 33 rfl 2 2 rfl (D_X12_qFloor_0.at 23 rfl) ?_
    refine J_lconst (z := 0) 34 rfl rfl (D_X12_qFloor_0.at 24 rfl) ?_
    obtain ⟨s12, T⟩ := T
    refine J_lcmp_ge 38 rfl 42 s12 ⟨by decide, by decide⟩ (D_X12_qFloor_0.at 25 rfl) (D_X12_qFloor_0.at 26 rfl) (by decide) (fun c13 => ?_) (fun c13 => ?_)
    · replace T := T.1 c13
      refine J_iconst 43 rfl (D_X12_qFloor_0.at 29 rfl) ?_
      refine J_icmp_eq 46 rfl 53 ⟨by decide, by decide⟩ ⟨by decide, by decide⟩ (D_X12_qFloor_0.at 30 rfl) (by decide) (fun c => absurd c (by decide)) (fun _ => ?_)
      refine J_lload 48 rfl 4 0 rfl (D_X12_qFloor_0.at 31 rfl) ?_
      refine J_lconst (z := 1) 49 rfl rfl (D_X12_qFloor_0.at 32 rfl) ?_
      refine J_lsub 50 rfl (D_X12_qFloor_0.at 33 rfl) ?_
      refine J_goto 55 (D_X12_qFloor_0.at 34 rfl) (by decide) ?_
      exact J_lret rfl (D_X12_qFloor_0.at 36 rfl) T
    replace T := T.2 c13
    refine J_iconst 39 rfl (D_X12_qFloor_0.at 27 rfl) ?_
    refine J_goto 43 (D_X12_qFloor_0.at 28 rfl) (by decide) ?_
    refine J_icmp_eq 46 rfl 53 ⟨by decide, by decide⟩ ⟨by decide, by decide⟩ (D_X12_qFloor_0.at 30 rfl) (by decide) (fun _ => ?_) (fun c => absurd (by decide) c)
    refine J_lload 55 rfl 4 0 rfl (D_X12_qFloor_0.at 35 rfl) ?_
    exact J_lret rfl (D_X12_qFloor_0.at 36 rfl) T
  replace T := T.2 c16
  refine J_lconst (z := 0) 7 rfl rfl (D_X12_qFloor_0.at 4 rfl) ?_
  exact J_lret rfl (D_X12_qFloor_0.at 5 rfl) T
theorem c_X12_qTakes {w : Wd} {a1 a2 a3 : Int} {h : Hp} {K : Int → Hp → Prop} (T : (inR a1) ∧ (((a1 ≥ 3) → (L_X12_qTakes_15 w a1 a2 a3 h K)) ∧ (¬ (a1 ≥ 3) → ((inL a2) ∧ (((a2 ≠ 1) → (L_X12_qTakes_15 w a1 a2 a3 h K)) ∧ (¬ (a2 ≠ 1) → ((inR a1) ∧ (((a1 ≠ 0) → (L_X12_qTakes_38 w a1 a2 a3 1 h K)) ∧ (¬ (a1 ≠ 0) → ((inL (h 68 94)) ∧ ((((h 68 94) = (-1)) → (L_X12_qTakes_48 w a1 a2 a3 1 h K)) ∧ (¬ ((h 68 94) = (-1)) → (L_X12_qTakes_38 w a1 a2 a3 1 h K))))))))))))) : C_X12_qTakes w a1 a2 a3 h K := by
  refine CGm_of2 (by decide) (by decide) trivial (Nat.le_of_ble_eq_true rfl) ?_
  refine J_iload_n 1 rfl 1 1 rfl (D_X12_qTakes_0.at 0 rfl) ?_
  refine J_iconst 2 rfl (D_X12_qTakes_0.at 1 rfl) ?_
  obtain ⟨s1, T⟩ := T
  refine J_icmp_ge 5 rfl 15 s1 ⟨by decide, by decide⟩ (D_X12_qTakes_0.at 2 rfl) (by decide) (fun c8 => ?_) (fun c8 => ?_)
  · replace T := T.1 c8
    exact T
  replace T := T.2 c8
  refine J_lload_n 6 rfl 2 2 rfl (D_X12_qTakes_0.at 3 rfl) ?_
  refine J_lconst (z := 1) 7 rfl rfl (D_X12_qTakes_0.at 4 rfl) ?_
  obtain ⟨s2, T⟩ := T
  refine J_lcmp_ne 11 rfl 15 s2 ⟨by decide, by decide⟩ (D_X12_qTakes_0.at 5 rfl) (D_X12_qTakes_0.at 6 rfl) (by decide) (fun c7 => ?_) (fun c7 => ?_)
  · replace T := T.1 c7
    exact T
  replace T := T.2 c7
  refine J_iconst 12 rfl (D_X12_qTakes_0.at 7 rfl) ?_
  refine J_goto 16 (D_X12_qTakes_0.at 8 rfl) (by decide) ?_
  refine J_istore (lv' := [(5, vI 1), (0, vR 68), (1, vI a1), (2, vL a2), (4, vI a3)]) 18 rfl 5 (by decide) rfl (D_X12_qTakes_0.at 10 rfl) ?_
  refine J_iload_n 19 rfl 1 2 rfl (D_X12_qTakes_0.at 11 rfl) ?_
  obtain ⟨s3, T⟩ := T
  refine J_if_ne 22 rfl 38 s3 (D_X12_qTakes_0.at 12 rfl) (by decide) (fun c6 => ?_) (fun c6 => ?_)
  · replace T := T.1 c6
    exact J_sub (lv' := [(0, vR 68), (1, vI a1), (2, vL a2), (4, vI a3), (5, vI 1)]) [1, 2, 3, 4, 0] rfl T
  replace T := T.2 c6
  refine J_iload 24 rfl 5 0 rfl (D_X12_qTakes_0.at 13 rfl) ?_
  refine J_if_eq 27 rfl 38 ⟨by decide, by decide⟩ (D_X12_qTakes_0.at 14 rfl) (by decide) (fun c => absurd c (by decide)) (fun _ => ?_)
  refine J_aload_n 28 rfl 0 1 rfl ⟨by decide, by decide⟩ (D_X12_qTakes_0.at 15 rfl) ?_
  refine J_getL (z := (h 68 94)) 31 rfl fl_12_663 rfl ob_68 (Ob.lt ob_68) (D_X12_qTakes_0.at 16 rfl) rfl ?_
  refine J_ldc2 34 rfl ko_12_666 (D_X12_qTakes_0.at 17 rfl) ?_
  obtain ⟨s4, T⟩ := T
  refine J_lcmp_eq 38 rfl 48 s4 ⟨by decide, by decide⟩ (D_X12_qTakes_0.at 18 rfl) (D_X12_qTakes_0.at 19 rfl) (by decide) (fun c5 => ?_) (fun c5 => ?_)
  · replace T := T.1 c5
    exact J_sub (lv' := [(0, vR 68), (1, vI a1), (2, vL a2), (4, vI a3), (5, vI 1)]) [1, 2, 3, 4, 0] rfl T
  replace T := T.2 c5
  exact J_sub (lv' := [(0, vR 68), (1, vI a1), (2, vL a2), (4, vI a3), (5, vI 1)]) [1, 2, 3, 4, 0] rfl T
theorem l_X12_qTakes_48 {w : Wd} {v1 v2 v4 v5 : Int} {h : Hp} {K : Int → Hp → Prop} (T : (inR v4) ∧ (∀ h10 : Hp, h10 = hu h 68 94 v4 → L_X12_qTakes_55 w v1 v2 v5 h10 K)) : L_X12_qTakes_48 w v1 v2 v4 v5 h K := by
  unfold L_X12_qTakes_48
  refine J_aload_n 49 rfl 0 0 rfl ⟨by decide, by decide⟩ (D_X12_qTakes_0.at 25 rfl) ?_
  refine J_iload 51 rfl 4 3 rfl (D_X12_qTakes_0.at 26 rfl) ?_
  obtain ⟨s9, T⟩ := T
  refine J_i2l 52 rfl s9 (D_X12_qTakes_0.at 27 rfl) ?_
  refine J_putL 55 rfl fl_12_663 rfl rfl ob_68 (Ob.lt ob_68) (D_X12_qTakes_0.at 28 rfl) (fun h10 e11 => ?_)
  replace T := T h10 e11
  exact J_sub (lv' := [(0, vR 68), (1, vI v1), (2, vL v2), (5, vI v5)]) [0, 1, 2, 4] rfl T
theorem l_X12_qTakes_55 {w : Wd} {v1 v2 v5 : Int} {h : Hp} {K : Int → Hp → Prop} (T : (inR v1) ∧ (((v1 ≠ 2) → (L_X12_qTakes_75 w v1 v2 h K)) ∧ (¬ (v1 ≠ 2) → ((inR v5) ∧ (((v5 = 0) → (L_X12_qTakes_75 w v1 v2 h K)) ∧ (¬ (v5 = 0) → (∀ h14 : Hp, h14 = hu h 68 94 ((h 68 94) + 1) → L_X12_qTakes_75 w v1 v2 h14 K))))))) : L_X12_qTakes_55 w v1 v2 v5 h K := by
  unfold L_X12_qTakes_55
  refine J_iload_n 56 rfl 1 1 rfl (D_X12_qTakes_0.at 29 rfl) ?_
  refine J_iconst 57 rfl (D_X12_qTakes_0.at 30 rfl) ?_
  obtain ⟨s12, T⟩ := T
  refine J_icmp_ne 60 rfl 75 s12 ⟨by decide, by decide⟩ (D_X12_qTakes_0.at 31 rfl) (by decide) (fun c17 => ?_) (fun c17 => ?_)
  · replace T := T.1 c17
    exact J_sub (lv' := [(0, vR 68), (1, vI v1), (2, vL v2)]) [0, 1, 2] rfl T
  replace T := T.2 c17
  refine J_iload 62 rfl 5 3 rfl (D_X12_qTakes_0.at 32 rfl) ?_
  obtain ⟨s13, T⟩ := T
  refine J_if_eq 65 rfl 75 s13 (D_X12_qTakes_0.at 33 rfl) (by decide) (fun c16 => ?_) (fun c16 => ?_)
  · replace T := T.1 c16
    exact J_sub (lv' := [(0, vR 68), (1, vI v1), (2, vL v2)]) [0, 1, 2] rfl T
  replace T := T.2 c16
  refine J_aload_n 66 rfl 0 0 rfl ⟨by decide, by decide⟩ (D_X12_qTakes_0.at 34 rfl) ?_
  refine J_dup 67 rfl rfl (D_X12_qTakes_0.at 35 rfl) ?_
  refine J_getL (z := (h 68 94)) 70 rfl fl_12_663 rfl ob_68 (Ob.lt ob_68) (D_X12_qTakes_0.at 36 rfl) rfl ?_
  refine J_lconst (z := 1) 71 rfl rfl (D_X12_qTakes_0.at 37 rfl) ?_
  refine J_ladd 72 rfl (D_X12_qTakes_0.at 38 rfl) ?_
  refine J_putL 75 rfl fl_12_663 rfl rfl ob_68 (Ob.lt ob_68) (D_X12_qTakes_0.at 39 rfl) (fun h14 e15 => ?_)
  replace T := T h14 e15
  exact J_sub (lv' := [(0, vR 68), (1, vI v1), (2, vL v2)]) [0, 1, 2] rfl T
theorem l_X12_qTakes_75 {w : Wd} {v1 v2 : Int} {h : Hp} {K : Int → Hp → Prop} (T : (inR v1) ∧ (((v1 ≠ 3) → (L_X12_qTakes_90 w v1 v2 h K)) ∧ (¬ (v1 ≠ 3) → (∀ h19 : Hp, h19 = hu h 68 94 ((h 68 94) + v2) → L_X12_qTakes_90 w v1 v2 h19 K)))) : L_X12_qTakes_75 w v1 v2 h K := by
  unfold L_X12_qTakes_75
  refine J_iload_n 76 rfl 1 1 rfl (D_X12_qTakes_0.at 40 rfl) ?_
  refine J_iconst 77 rfl (D_X12_qTakes_0.at 41 rfl) ?_
  obtain ⟨s18, T⟩ := T
  refine J_icmp_ne 80 rfl 90 s18 ⟨by decide, by decide⟩ (D_X12_qTakes_0.at 42 rfl) (by decide) (fun c21 => ?_) (fun c21 => ?_)
  · replace T := T.1 c21
    exact T
  replace T := T.2 c21
  refine J_aload_n 81 rfl 0 0 rfl ⟨by decide, by decide⟩ (D_X12_qTakes_0.at 43 rfl) ?_
  refine J_dup 82 rfl rfl (D_X12_qTakes_0.at 44 rfl) ?_
  refine J_getL (z := (h 68 94)) 85 rfl fl_12_663 rfl ob_68 (Ob.lt ob_68) (D_X12_qTakes_0.at 45 rfl) rfl ?_
  refine J_lload_n 86 rfl 2 2 rfl (D_X12_qTakes_0.at 46 rfl) ?_
  refine J_ladd 87 rfl (D_X12_qTakes_0.at 47 rfl) ?_
  refine J_putL 90 rfl fl_12_663 rfl rfl ob_68 (Ob.lt ob_68) (D_X12_qTakes_1.at 0 rfl) (fun h19 e20 => ?_)
  replace T := T h19 e20
  exact T
theorem l_X12_qTakes_90 {w : Wd} {v1 v2 : Int} {h : Hp} {K : Int → Hp → Prop} (T : (inR v1) ∧ (((v1 ≤ 3) → (L_X12_qTakes_133 w h K)) ∧ (¬ (v1 ≤ 3) → ((inR (h 68 95)) ∧ ((((h 68 95) ≠ 0) → (L_X12_qTakes_128 w v2 h K)) ∧ (¬ ((h 68 95) ≠ 0) → ((inR v1) ∧ (((v1 ≠ 4) → ((inL v2) ∧ ((inL (h 68 94)) ∧ (((v2 ≥ (h 68 94)) → (L_X12_qTakes_133 w h K)) ∧ (¬ (v2 ≥ (h 68 94)) → (L_X12_qTakes_128 w v2 h K)))))) ∧ (¬ (v1 ≠ 4) → ((inL v2) ∧ ((inL (h 68 94)) ∧ (((v2 ≤ (h 68 94)) → (L_X12_qTakes_133 w h K)) ∧ (¬ (v2 ≤ (h 68 94)) → (L_X12_qTakes_128 w v2 h K)))))))))))))) : L_X12_qTakes_90 w v1 v2 h K := by
  unfold L_X12_qTakes_90
  refine J_iload_n 91 rfl 1 1 rfl (D_X12_qTakes_1.at 1 rfl) ?_
  refine J_iconst 92 rfl (D_X12_qTakes_1.at 2 rfl) ?_
  obtain ⟨s22, T⟩ := T
  refine J_icmp_le 95 rfl 133 s22 ⟨by decide, by decide⟩ (D_X12_qTakes_1.at 3 rfl) (by decide) (fun c33 => ?_) (fun c33 => ?_)
  · replace T := T.1 c33
    exact J_sub (lv' := [(0, vR 68)]) [0] rfl T
  replace T := T.2 c33
  refine J_aload_n 96 rfl 0 0 rfl ⟨by decide, by decide⟩ (D_X12_qTakes_1.at 4 rfl) ?_
  refine J_getI (z := (h 68 95)) 99 rfl fl_12_668 rfl ob_68 (Ob.lt ob_68) (D_X12_qTakes_1.at 5 rfl) rfl ?_
  obtain ⟨s23, T⟩ := T
  refine J_if_ne 102 rfl 128 s23 (D_X12_qTakes_1.at 6 rfl) (by decide) (fun c32 => ?_) (fun c32 => ?_)
  · replace T := T.1 c32
    exact J_sub (lv' := [(0, vR 68), (2, vL v2)]) [0, 2] rfl T
  replace T := T.2 c32
  refine J_iload_n 103 rfl 1 1 rfl (D_X12_qTakes_1.at 7 rfl) ?_
  refine J_iconst 104 rfl (D_X12_qTakes_1.at 8 rfl) ?_
  obtain ⟨s24, T⟩ := T
  refine J_icmp_ne 107 rfl 119 s24 ⟨by decide, by decide⟩ (D_X12_qTakes_1.at 9 rfl) (by decide) (fun c31 => ?_) (fun c31 => ?_)
  · replace T := T.1 c31
    refine J_lload_n 120 rfl 2 2 rfl (D_X12_qTakes_1.at 16 rfl) ?_
    refine J_aload_n 121 rfl 0 0 rfl ⟨by decide, by decide⟩ (D_X12_qTakes_1.at 17 rfl) ?_
    refine J_getL (z := (h 68 94)) 124 rfl fl_12_663 rfl ob_68 (Ob.lt ob_68) (D_X12_qTakes_1.at 18 rfl) rfl ?_
    obtain ⟨s25, T⟩ := T
    obtain ⟨s26, T⟩ := T
    refine J_lcmp_ge 128 rfl 133 s25 s26 (D_X12_qTakes_1.at 19 rfl) (D_X12_qTakes_1.at 20 rfl) (by decide) (fun c27 => ?_) (fun c27 => ?_)
    · replace T := T.1 c27
      exact J_sub (lv' := [(0, vR 68)]) [0] rfl T
    replace T := T.2 c27
    exact J_sub (lv' := [(0, vR 68), (2, vL v2)]) [0, 2] rfl T
  replace T := T.2 c31
  refine J_lload_n 108 rfl 2 2 rfl (D_X12_qTakes_1.at 10 rfl) ?_
  refine J_aload_n 109 rfl 0 0 rfl ⟨by decide, by decide⟩ (D_X12_qTakes_1.at 11 rfl) ?_
  refine J_getL (z := (h 68 94)) 112 rfl fl_12_663 rfl ob_68 (Ob.lt ob_68) (D_X12_qTakes_1.at 12 rfl) rfl ?_
  obtain ⟨s28, T⟩ := T
  obtain ⟨s29, T⟩ := T
  refine J_lcmp_le 116 rfl 133 s28 s29 (D_X12_qTakes_1.at 13 rfl) (D_X12_qTakes_1.at 14 rfl) (by decide) (fun c30 => ?_) (fun c30 => ?_)
  · replace T := T.1 c30
    exact J_sub (lv' := [(0, vR 68)]) [0] rfl T
  replace T := T.2 c30
  refine J_goto 128 (D_X12_qTakes_1.at 15 rfl) (by decide) ?_
  exact J_sub (lv' := [(0, vR 68), (2, vL v2)]) [0, 2] rfl T
theorem l_X12_qTakes_128 {w : Wd} {v2 : Int} {h : Hp} {K : Int → Hp → Prop} (T : ∀ h34 : Hp, h34 = hu h 68 94 v2 → L_X12_qTakes_133 w h34 K) : L_X12_qTakes_128 w v2 h K := by
  unfold L_X12_qTakes_128
  refine J_aload_n 129 rfl 0 0 rfl ⟨by decide, by decide⟩ (D_X12_qTakes_1.at 21 rfl) ?_
  refine J_lload_n 130 rfl 2 1 rfl (D_X12_qTakes_1.at 22 rfl) ?_
  refine J_putL 133 rfl fl_12_663 rfl rfl ob_68 (Ob.lt ob_68) (D_X12_qTakes_1.at 23 rfl) (fun h34 e35 => ?_)
  replace T := T h34 e35
  exact J_sub (lv' := [(0, vR 68)]) [0] rfl T
theorem l_X12_qTakes_133 {w : Wd} {h : Hp} {K : Int → Hp → Prop} (T : ∀ h36 : Hp, h36 = hu h 68 95 0 → K 0 h36) : L_X12_qTakes_133 w h K := by
  unfold L_X12_qTakes_133
  refine J_aload_n 134 rfl 0 0 rfl ⟨by decide, by decide⟩ (D_X12_qTakes_1.at 24 rfl) ?_
  refine J_iconst 135 rfl (D_X12_qTakes_1.at 25 rfl) ?_
  refine J_putZ 138 rfl fl_12_668 rfl rfl (Or.inl rfl) ob_68 (Ob.lt ob_68) (D_X12_qTakes_1.at 26 rfl) (fun h36 e37 => ?_)
  replace T := T h36 e37
  exact J_vret rfl (D_X12_qTakes_1.at 27 rfl) T
theorem l_X12_qTakes_38 {w : Wd} {v1 v2 v4 v5 : Int} {h : Hp} {K : Int → Hp → Prop} (T : (inR v1) ∧ (((v1 ≠ 1) → (L_X12_qTakes_55 w v1 v2 v5 h K)) ∧ (¬ (v1 ≠ 1) → ((inR v5) ∧ (((v5 = 0) → (L_X12_qTakes_55 w v1 v2 v5 h K)) ∧ (¬ (v5 = 0) → (L_X12_qTakes_48 w v1 v2 v4 v5 h K))))))) : L_X12_qTakes_38 w v1 v2 v4 v5 h K := by
  unfold L_X12_qTakes_38
  refine J_iload_n 39 rfl 1 1 rfl (D_X12_qTakes_0.at 20 rfl) ?_
  refine J_iconst 40 rfl (D_X12_qTakes_0.at 21 rfl) ?_
  obtain ⟨s38, T⟩ := T
  refine J_icmp_ne 43 rfl 55 s38 ⟨by decide, by decide⟩ (D_X12_qTakes_0.at 22 rfl) (by decide) (fun c41 => ?_) (fun c41 => ?_)
  · replace T := T.1 c41
    exact J_sub (lv' := [(0, vR 68), (1, vI v1), (2, vL v2), (5, vI v5)]) [0, 1, 2, 4] rfl T
  replace T := T.2 c41
  refine J_iload 45 rfl 5 4 rfl (D_X12_qTakes_0.at 23 rfl) ?_
  obtain ⟨s39, T⟩ := T
  refine J_if_eq 48 rfl 55 s39 (D_X12_qTakes_0.at 24 rfl) (by decide) (fun c40 => ?_) (fun c40 => ?_)
  · replace T := T.1 c40
    exact J_sub (lv' := [(0, vR 68), (1, vI v1), (2, vL v2), (5, vI v5)]) [0, 1, 2, 4] rfl T
  replace T := T.2 c40
  exact T
theorem l_X12_qTakes_15 {w : Wd} {v1 v2 v4 : Int} {h : Hp} {K : Int → Hp → Prop} (T : (inR v1) ∧ (((v1 ≠ 0) → (L_X12_qTakes_38 w v1 v2 v4 0 h K)) ∧ (¬ (v1 ≠ 0) → (L_X12_qTakes_38 w v1 v2 v4 0 h K)))) : L_X12_qTakes_15 w v1 v2 v4 h K := by
  unfold L_X12_qTakes_15
  refine J_iconst 16 rfl (D_X12_qTakes_0.at 9 rfl) ?_
  refine J_istore (lv' := [(5, vI 0), (0, vR 68), (1, vI v1), (2, vL v2), (4, vI v4)]) 18 rfl 5 (by decide) rfl (D_X12_qTakes_0.at 10 rfl) ?_
  refine J_iload_n 19 rfl 1 2 rfl (D_X12_qTakes_0.at 11 rfl) ?_
  obtain ⟨s42, T⟩ := T
  refine J_if_ne 22 rfl 38 s42 (D_X12_qTakes_0.at 12 rfl) (by decide) (fun c43 => ?_) (fun c43 => ?_)
  · replace T := T.1 c43
    exact J_sub (lv' := [(0, vR 68), (1, vI v1), (2, vL v2), (4, vI v4), (5, vI 0)]) [1, 2, 3, 4, 0] rfl T
  replace T := T.2 c43
  refine J_iload 24 rfl 5 0 rfl (D_X12_qTakes_0.at 13 rfl) ?_
  refine J_if_eq 27 rfl 38 ⟨by decide, by decide⟩ (D_X12_qTakes_0.at 14 rfl) (by decide) (fun _ => ?_) (fun c => absurd (by decide) c)
  exact J_sub (lv' := [(0, vR 68), (1, vI v1), (2, vL v2), (4, vI v4), (5, vI 0)]) [1, 2, 3, 4, 0] rfl T
theorem c_X12_qOpens {w : Wd} {a1 a2 : Int} {h : Hp} {K : Int → Hp → Prop} (T : (inR (h 68 5)) ∧ ((((h 68 5) = 0) → ((inR (h 68 90)) ∧ ((((h 68 90) ≠ 6) → (∀ h3 : Hp, h3 = hu h 68 90 ((h 68 90) + 1) → (0 ≤ (h3 68 89) ∧ (h3 68 89) < 1700) ∧ (∀ h6 : Hp, h6 = hu h3 134 (h3 68 89) a1 → ∀ h8 : Hp, h8 = hu h6 68 89 ((h6 68 89) + 1) → K 0 h8))) ∧ (¬ ((h 68 90) ≠ 6) → (C_X12_fail w 4 a2 h (fun _ h11 => K 0 h11)))))) ∧ (¬ ((h 68 5) = 0) → (K 0 h)))) : C_X12_qOpens w a1 a2 h K := by
  refine CGm_of2 (by decide) (by decide) trivial (Nat.le_of_ble_eq_true rfl) ?_
  refine J_aload_n 1 rfl 0 0 rfl ⟨by decide, by decide⟩ (D_X12_qOpens_0.at 0 rfl) ?_
  refine J_getI (z := (h 68 5)) 4 rfl fl_12_227 rfl ob_68 (Ob.lt ob_68) (D_X12_qOpens_0.at 1 rfl) rfl ?_
  obtain ⟨s1, T⟩ := T
  refine J_if_eq 7 rfl 8 s1 (D_X12_qOpens_0.at 2 rfl) (by decide) (fun c14 => ?_) (fun c14 => ?_)
  · replace T := T.1 c14
    refine J_aload_n 9 rfl 0 0 rfl ⟨by decide, by decide⟩ (D_X12_qOpens_0.at 4 rfl) ?_
    refine J_getI (z := (h 68 90)) 12 rfl fl_12_577 rfl ob_68 (Ob.lt ob_68) (D_X12_qOpens_0.at 5 rfl) rfl ?_
    refine J_bipush 14 rfl ⟨by decide, by decide⟩ (D_X12_qOpens_0.at 6 rfl) ?_
    obtain ⟨s2, T⟩ := T
    refine J_icmp_ne 17 rfl 24 s2 ⟨by decide, by decide⟩ (D_X12_qOpens_0.at 7 rfl) (by decide) (fun c13 => ?_) (fun c13 => ?_)
    · replace T := T.1 c13
      refine J_aload_n 25 rfl 0 0 rfl ⟨by decide, by decide⟩ (D_X12_qOpens_0.at 13 rfl) ?_
      refine J_dup 26 rfl rfl (D_X12_qOpens_0.at 14 rfl) ?_
      refine J_getI (z := (h 68 90)) 29 rfl fl_12_577 rfl ob_68 (Ob.lt ob_68) (D_X12_qOpens_0.at 15 rfl) rfl ?_
      refine J_iconst 30 rfl (D_X12_qOpens_0.at 16 rfl) ?_
      refine J_iadd 31 rfl (D_X12_qOpens_0.at 17 rfl) ?_
      refine J_putI 34 rfl fl_12_577 rfl rfl ob_68 (Ob.lt ob_68) (D_X12_qOpens_0.at 18 rfl) (fun h3 e4 => ?_)
      replace T := T h3 e4
      refine J_aload_n 35 rfl 0 0 rfl ⟨by decide, by decide⟩ (D_X12_qOpens_0.at 19 rfl) ?_
      refine J_getF (ov := 134) (dd := 1066) 38 rfl fl_12_215 rfl (by decide) rfl ob_68 (Ob.lt ob_68) (D_X12_qOpens_0.at 20 rfl) ?_
      refine J_aload_n 39 rfl 0 0 rfl ⟨by decide, by decide⟩ (D_X12_qOpens_0.at 21 rfl) ?_
      refine J_getI (z := (h3 68 89)) 42 rfl fl_12_580 rfl ob_68 (Ob.lt ob_68) (D_X12_qOpens_0.at 22 rfl) rfl ?_
      refine J_iload_n 43 rfl 1 1 rfl (D_X12_qOpens_0.at 23 rfl) ?_
      obtain ⟨s5, T⟩ := T
      refine J_iastH 44 rfl ar_134 (Ar.lt ar_134) s5 trivial (D_X12_qOpens_0.at 24 rfl) (fun h6 e7 => ?_)
      replace T := T h6 e7
      refine J_aload_n 45 rfl 0 0 rfl ⟨by decide, by decide⟩ (D_X12_qOpens_0.at 25 rfl) ?_
      refine J_dup 46 rfl rfl (D_X12_qOpens_0.at 26 rfl) ?_
      refine J_getI (z := (h6 68 89)) 49 rfl fl_12_580 rfl ob_68 (Ob.lt ob_68) (D_X12_qOpens_0.at 27 rfl) rfl ?_
      refine J_iconst 50 rfl (D_X12_qOpens_0.at 28 rfl) ?_
      refine J_iadd 51 rfl (D_X12_qOpens_0.at 29 rfl) ?_
      refine J_putI 54 rfl fl_12_580 rfl rfl ob_68 (Ob.lt ob_68) (D_X12_qOpens_0.at 30 rfl) (fun h8 e9 => ?_)
      replace T := T h8 e9
      exact J_vret rfl (D_X12_qOpens_0.at 31 rfl) T
    replace T := T.2 c13
    refine J_aload_n 18 rfl 0 0 rfl ⟨by decide, by decide⟩ (D_X12_qOpens_0.at 8 rfl) ?_
    refine J_iconst 19 rfl (D_X12_qOpens_0.at 9 rfl) ?_
    refine J_iload_n 20 rfl 2 2 rfl (D_X12_qOpens_0.at 10 rfl) ?_
    refine J_callV (d' := 1) (sr := fun z => []) (as := [vI 4, vI a2]) (st := []) (o := 68) 23 rfl ok_X12_fail im_X12_fail se_X12_fail ml_12_257 isC_12 ob_68 (Ob.lt ob_68) rfl (by decide) ⟨Nat.le_refl _, Nat.le_refl _⟩ (Nat.le_of_ble_eq_true rfl) (D_X12_qOpens_0.at 11 rfl) (fun _ => rfl) T (fun r10 h11 T b12 => ?_)
    exact J_vret rfl (D_X12_qOpens_0.at 12 rfl) T
  replace T := T.2 c14
  exact J_vret rfl (D_X12_qOpens_0.at 3 rfl) T
theorem c_X12_qDrops {w : Wd} {h : Hp} {K : Int → Hp → Prop} (T : ∀ h1 : Hp, h1 = hu h 68 89 ((h 68 89) - 1) → (0 ≤ (h1 68 89) ∧ (h1 68 89) < 1700) ∧ (C_X12_qCode w (h1 134 (h1 68 89)) h1 (fun _ h5 => K 0 h5))) : C_X12_qDrops w h K := by
  refine CGm_of2 (by decide) (by decide) trivial (Nat.le_of_ble_eq_true rfl) ?_
  refine J_aload_n 1 rfl 0 0 rfl ⟨by decide, by decide⟩ (D_X12_qDrops_0.at 0 rfl) ?_
  refine J_dup 2 rfl rfl (D_X12_qDrops_0.at 1 rfl) ?_
  refine J_getI (z := (h 68 89)) 5 rfl fl_12_580 rfl ob_68 (Ob.lt ob_68) (D_X12_qDrops_0.at 2 rfl) rfl ?_
  refine J_iconst 6 rfl (D_X12_qDrops_0.at 3 rfl) ?_
  refine J_isub 7 rfl (D_X12_qDrops_0.at 4 rfl) ?_
  refine J_putI 10 rfl fl_12_580 rfl rfl ob_68 (Ob.lt ob_68) (D_X12_qDrops_0.at 5 rfl) (fun h1 e2 => ?_)
  replace T := T h1 e2
  refine J_aload_n 11 rfl 0 0 rfl ⟨by decide, by decide⟩ (D_X12_qDrops_0.at 6 rfl) ?_
  refine J_aload_n 12 rfl 0 0 rfl ⟨by decide, by decide⟩ (D_X12_qDrops_0.at 7 rfl) ?_
  refine J_getF (ov := 134) (dd := 1066) 15 rfl fl_12_215 rfl (by decide) rfl ob_68 (Ob.lt ob_68) (D_X12_qDrops_0.at 8 rfl) ?_
  refine J_aload_n 16 rfl 0 0 rfl ⟨by decide, by decide⟩ (D_X12_qDrops_0.at 9 rfl) ?_
  refine J_getI (z := (h1 68 89)) 19 rfl fl_12_580 rfl ob_68 (Ob.lt ob_68) (D_X12_qDrops_0.at 10 rfl) rfl ?_
  obtain ⟨s3, T⟩ := T
  refine J_iald 20 rfl ar_134 (Ar.lt ar_134) s3 (D_X12_qDrops_0.at 11 rfl) ?_
  refine J_callV (d' := 1) (sr := fun z => []) (as := [vI (h1 134 (h1 68 89))]) (st := []) (o := 68) 23 rfl ok_X12_qCode im_X12_qCode se_X12_qCode ml_12_583 isC_12 ob_68 (Ob.lt ob_68) rfl (by decide) ⟨Nat.le_refl _, Nat.le_refl _⟩ (Nat.le_of_ble_eq_true rfl) (D_X12_qDrops_0.at 12 rfl) (fun _ => rfl) T (fun r4 h5 T b6 => ?_)
  exact J_vret rfl (D_X12_qDrops_0.at 13 rfl) T
theorem c_X12_qBracket {w : Wd} {h : Hp} {K : Int → Hp → Prop} (T : L_X12_qBracket_7 w ((h 68 89) - 1) h K) : C_X12_qBracket w h K := by
  refine CGm_of2 (by decide) (by decide) trivial (Nat.le_of_ble_eq_true rfl) ?_
  refine J_aload_n 1 rfl 0 0 rfl ⟨by decide, by decide⟩ (D_X12_qBracket_0.at 0 rfl) ?_
  refine J_getI (z := (h 68 89)) 4 rfl fl_12_580 rfl ob_68 (Ob.lt ob_68) (D_X12_qBracket_0.at 1 rfl) rfl ?_
  refine J_iconst 5 rfl (D_X12_qBracket_0.at 2 rfl) ?_
  refine J_isub 6 rfl (D_X12_qBracket_0.at 3 rfl) ?_
  refine J_istore_n (lv' := [(1, vI ((h 68 89) - 1)), (0, vR 68)]) 7 rfl 1 (by decide) rfl (D_X12_qBracket_0.at 4 rfl) ?_
  exact J_sub (lv' := [(0, vR 68), (1, vI ((h 68 89) - 1))]) [1, 0] rfl T
theorem l_X12_qBracket_7 {w : Wd} {v1 : Int} {h : Hp} {K : Int → Hp → Prop} (T : (inR v1) ∧ ((inR (h 68 91)) ∧ (((v1 < (h 68 91)) → ((inR v1) ∧ ((inR (h 68 91)) ∧ (((v1 < (h 68 91)) → (K (-1) h)) ∧ (¬ (v1 < (h 68 91)) → ((0 ≤ v1 ∧ v1 < 1700) ∧ (K (h 134 v1) h))))))) ∧ (¬ (v1 < (h 68 91)) → ((0 ≤ v1 ∧ v1 < 1700) ∧ (C_X12_qIsBracket w (h 134 v1) h (fun r8 h9 => (r8 = 0 ∨ r8 = 1) → ((r8 ≠ 0) → ((inR v1) ∧ ((inR (h9 68 91)) ∧ (((v1 < (h9 68 91)) → (K (-1) h9)) ∧ (¬ (v1 < (h9 68 91)) → ((0 ≤ v1 ∧ v1 < 1700) ∧ (K (h9 134 v1) h9))))))) ∧ (¬ (r8 ≠ 0) → (L_X12_qBracket_7 w (v1 + (-1)) h9 K))))))))) : L_X12_qBracket_7 w v1 h K := by
  unfold L_X12_qBracket_7
  refine J_iload_n 8 rfl 1 1 rfl (D_X12_qBracket_0.at 5 rfl) ?_
  refine J_aload_n 9 rfl 0 0 rfl ⟨by decide, by decide⟩ (D_X12_qBracket_0.at 6 rfl) ?_
  refine J_getI (z := (h 68 91)) 12 rfl fl_12_586 rfl ob_68 (Ob.lt ob_68) (D_X12_qBracket_0.at 7 rfl) rfl ?_
  obtain ⟨s1, T⟩ := T
  obtain ⟨s2, T⟩ := T
  refine J_icmp_lt 15 rfl 33 s1 s2 (D_X12_qBracket_0.at 8 rfl) (by decide) (fun c16 => ?_) (fun c16 => ?_)
  · replace T := T.1 c16
    refine J_iload_n 34 rfl 1 1 rfl (D_X12_qBracket_0.at 17 rfl) ?_
    refine J_aload_n 35 rfl 0 0 rfl ⟨by decide, by decide⟩ (D_X12_qBracket_0.at 18 rfl) ?_
    refine J_getI (z := (h 68 91)) 38 rfl fl_12_586 rfl ob_68 (Ob.lt ob_68) (D_X12_qBracket_0.at 19 rfl) rfl ?_
    obtain ⟨s3, T⟩ := T
    obtain ⟨s4, T⟩ := T
    refine J_icmp_lt 41 rfl 50 s3 s4 (D_X12_qBracket_0.at 20 rfl) (by decide) (fun c6 => ?_) (fun c6 => ?_)
    · replace T := T.1 c6
      refine J_iconst 51 rfl (D_X12_qBracket_0.at 26 rfl) ?_
      exact J_iret rfl (D_X12_qBracket_0.at 27 rfl) T
    replace T := T.2 c6
    refine J_aload_n 42 rfl 0 0 rfl ⟨by decide, by decide⟩ (D_X12_qBracket_0.at 21 rfl) ?_
    refine J_getF (ov := 134) (dd := 1066) 45 rfl fl_12_215 rfl (by decide) rfl ob_68 (Ob.lt ob_68) (D_X12_qBracket_0.at 22 rfl) ?_
    refine J_iload_n 46 rfl 1 1 rfl (D_X12_qBracket_0.at 23 rfl) ?_
    obtain ⟨s5, T⟩ := T
    refine J_iald 47 rfl ar_134 (Ar.lt ar_134) s5 (D_X12_qBracket_0.at 24 rfl) ?_
    refine J_goto 51 (D_X12_qBracket_0.at 25 rfl) (by decide) ?_
    exact J_iret rfl (D_X12_qBracket_0.at 27 rfl) T
  replace T := T.2 c16
  refine J_aload_n 16 rfl 0 0 rfl ⟨by decide, by decide⟩ (D_X12_qBracket_0.at 9 rfl) ?_
  refine J_getF (ov := 134) (dd := 1066) 19 rfl fl_12_215 rfl (by decide) rfl ob_68 (Ob.lt ob_68) (D_X12_qBracket_0.at 10 rfl) ?_
  refine J_iload_n 20 rfl 1 1 rfl (D_X12_qBracket_0.at 11 rfl) ?_
  obtain ⟨s7, T⟩ := T
  refine J_iald 21 rfl ar_134 (Ar.lt ar_134) s7 (D_X12_qBracket_0.at 12 rfl) ?_
  refine J_callS (d' := 1) (sr := fun z => [vI z]) (as := [vI (h 134 v1)]) (st := []) 24 rfl ok_X12_qIsBracket sm_X12_qIsBracket ml_12_589 rfl (by decide) ⟨Nat.le_refl _, Nat.le_refl _⟩ (Nat.le_of_ble_eq_true rfl) (D_X12_qBracket_0.at 13 rfl) (fun _ => rfl) T (fun r8 h9 T b10 => ?_)
  replace T := T b10
  refine J_if_ne 27 rfl 33 (inR_b b10) (D_X12_qBracket_0.at 14 rfl) (by decide) (fun c15 => ?_) (fun c15 => ?_)
  · replace T := T.1 c15
    refine J_iload_n 34 rfl 1 1 rfl (D_X12_qBracket_0.at 17 rfl) ?_
    refine J_aload_n 35 rfl 0 0 rfl ⟨by decide, by decide⟩ (D_X12_qBracket_0.at 18 rfl) ?_
    refine J_getI (z := (h9 68 91)) 38 rfl fl_12_586 rfl ob_68 (Ob.lt ob_68) (D_X12_qBracket_0.at 19 rfl) rfl ?_
    obtain ⟨s11, T⟩ := T
    obtain ⟨s12, T⟩ := T
    refine J_icmp_lt 41 rfl 50 s11 s12 (D_X12_qBracket_0.at 20 rfl) (by decide) (fun c14 => ?_) (fun c14 => ?_)
    · replace T := T.1 c14
      refine J_iconst 51 rfl (D_X12_qBracket_0.at 26 rfl) ?_
      exact J_iret rfl (D_X12_qBracket_0.at 27 rfl) T
    replace T := T.2 c14
    refine J_aload_n 42 rfl 0 0 rfl ⟨by decide, by decide⟩ (D_X12_qBracket_0.at 21 rfl) ?_
    refine J_getF (ov := 134) (dd := 1066) 45 rfl fl_12_215 rfl (by decide) rfl ob_68 (Ob.lt ob_68) (D_X12_qBracket_0.at 22 rfl) ?_
    refine J_iload_n 46 rfl 1 1 rfl (D_X12_qBracket_0.at 23 rfl) ?_
    obtain ⟨s13, T⟩ := T
    refine J_iald 47 rfl ar_134 (Ar.lt ar_134) s13 (D_X12_qBracket_0.at 24 rfl) ?_
    refine J_goto 51 (D_X12_qBracket_0.at 25 rfl) (by decide) ?_
    exact J_iret rfl (D_X12_qBracket_0.at 27 rfl) T
  replace T := T.2 c15
  refine J_iinc (v := (v1 + (-1))) (lv' := [(1, vI (v1 + (-1))), (0, vR 68)]) 30 rfl 1 1 (-1) rfl rfl (by decide) rfl (D_X12_qBracket_0.at 15 rfl) ?_
  refine J_goto 7 (D_X12_qBracket_0.at 16 rfl) (by decide) ?_
  exact J_sub (lv' := [(0, vR 68), (1, vI (v1 + (-1)))]) [1, 0] rfl T
theorem c_X12_qPartOf {w : Wd} {a1 a2 : Int} {h : Hp} {K : Int → Hp → Prop} (T : (inR a1) ∧ ((a1 = 0 → (inR a2) ∧ (K a2 h)) ∧ (a1 = 1 → C_X12_sumOf w 107 h (fun r5 h6 => (inR r5) ∧ (K r5 h6))) ∧ (a1 ≠ 0 ∧ a1 ≠ 1 → C_X12_sumOf w 111 h (fun r10 h11 => (inR r10) ∧ (K r10 h11))))) : C_X12_qPartOf w a1 a2 h K := by
  refine CGm_of2 (by decide) (by decide) trivial (Nat.le_of_ble_eq_true rfl) ?_
  refine J_iload_n 1 rfl 1 1 rfl (D_X12_qPartOf_0.at 0 rfl) ?_
  obtain ⟨s1, T⟩ := T
  by_cases g4 : a1 = 0
  · replace T := T.1 g4
    refine J_look 27 28 s1 (D_X12_qPartOf_0.at 1 rfl) (by decide) (by rw [g4]; rfl) (by decide) ?_
    refine J_iload_n 29 rfl 2 2 rfl (D_X12_qPartOf_0.at 2 rfl) ?_
    obtain ⟨s3, T⟩ := T
    refine J_i2l 30 rfl s3 (D_X12_qPartOf_0.at 3 rfl) ?_
    exact J_lret rfl (D_X12_qPartOf_0.at 4 rfl) T
  by_cases g9 : a1 = 1
  · replace T := T.2.1 g9
    refine J_look 30 31 s1 (D_X12_qPartOf_0.at 1 rfl) (by decide) (by rw [g9]; rfl) (by decide) ?_
    refine J_aload_n 32 rfl 0 0 rfl ⟨by decide, by decide⟩ (D_X12_qPartOf_0.at 5 rfl) ?_
    refine J_getF (ov := 107) (dd := 1039) 35 rfl fl_12_130 rfl (by decide) rfl ob_68 (Ob.lt ob_68) (D_X12_qPartOf_0.at 6 rfl) ?_
    refine J_callS (d' := 1) (sr := fun z => [vI z]) (as := [vR 107]) (st := []) 38 rfl ok_X12_sumOf sm_X12_sumOf ml_12_519 rfl (by decide) ⟨Nat.le_refl _, Nat.le_refl _⟩ (Nat.le_of_ble_eq_true rfl) (D_X12_qPartOf_0.at 7 rfl) (fun _ => rfl) T (fun r5 h6 T b7 => ?_)
    obtain ⟨s8, T⟩ := T
    refine J_i2l 39 rfl s8 (D_X12_qPartOf_0.at 8 rfl) ?_
    exact J_lret rfl (D_X12_qPartOf_0.at 9 rfl) T
  replace T := T.2.2 ⟨g4, g9⟩
  refine J_look 39 40 s1 (D_X12_qPartOf_0.at 1 rfl) (by decide) (by show Op.lookupswitch.offset [(0, 27), (1, 30)] 39 _ = 39; rw [look_ne g4, look_ne g9]; rfl) (by decide) ?_
  refine J_aload_n 41 rfl 0 0 rfl ⟨by decide, by decide⟩ (D_X12_qPartOf_0.at 10 rfl) ?_
  refine J_getF (ov := 111) (dd := 1043) 44 rfl fl_12_142 rfl (by decide) rfl ob_68 (Ob.lt ob_68) (D_X12_qPartOf_0.at 11 rfl) ?_
  refine J_callS (d' := 1) (sr := fun z => [vI z]) (as := [vR 111]) (st := []) 47 rfl ok_X12_sumOf sm_X12_sumOf ml_12_519 rfl (by decide) ⟨Nat.le_refl _, Nat.le_refl _⟩ (Nat.le_of_ble_eq_true rfl) (D_X12_qPartOf_0.at 12 rfl) (fun _ => rfl) T (fun r10 h11 T b12 => ?_)
  obtain ⟨s13, T⟩ := T
  refine J_i2l 48 rfl s13 (D_X12_qPartOf_0.at 13 rfl) ?_
  exact J_lret rfl (D_X12_qPartOf_0.at 14 rfl) T
theorem c_X12_qJoins {w : Wd} {a1 : Int} {h : Hp} {K : Int → Hp → Prop} (T : (0 ≤ ((h 68 93) - 1) ∧ ((h 68 93) - 1) < 1700) ∧ ((0 ≤ ((h 68 93) - 2) ∧ ((h 68 93) - 2) < 1700) ∧ (∀ h3 : Hp, h3 = hu h 68 93 ((h 68 93) - 2) → (inR a1) ∧ ((a1 = 1 → C_X12_qClip w ((h 135 ((h 68 93) - 2)) + (h 135 ((h 68 93) - 1))) h3 (fun r7 h8 => C_X12_qPuts w r7 h8 (fun _ h11 => K 0 h11))) ∧ (a1 = 2 → C_X12_qClip w ((h 135 ((h 68 93) - 2)) - (h 135 ((h 68 93) - 1))) h3 (fun r13 h14 => C_X12_qPuts w r13 h14 (fun _ h17 => K 0 h17))) ∧ (a1 = 3 → C_X12_qClip w ((h 135 ((h 68 93) - 2)) * (h 135 ((h 68 93) - 1))) h3 (fun r19 h20 => C_X12_qPuts w r19 h20 (fun _ h23 => K 0 h23))) ∧ (a1 = 4 → C_X12_qFloor w (h 135 ((h 68 93) - 2)) (h 135 ((h 68 93) - 1)) h3 (fun r25 h26 => C_X12_qPuts w r25 h26 (fun _ h29 => K 0 h29))) ∧ (a1 = 5 → (inL (h 135 ((h 68 93) - 2))) ∧ ((inL (h 135 ((h 68 93) - 1))) ∧ ((((h 135 ((h 68 93) - 2)) ≥ (h 135 ((h 68 93) - 1))) → (C_X12_qPuts w (h 135 ((h 68 93) - 1)) h3 (fun _ h34 => K 0 h34))) ∧ (¬ ((h 135 ((h 68 93) - 2)) ≥ (h 135 ((h 68 93) - 1))) → (C_X12_qPuts w (h 135 ((h 68 93) - 2)) h3 (fun _ h37 => K 0 h37)))))) ∧ (a1 = 6 → (inL (h 135 ((h 68 93) - 2))) ∧ ((inL (h 135 ((h 68 93) - 1))) ∧ ((((h 135 ((h 68 93) - 2)) ≤ (h 135 ((h 68 93) - 1))) → (C_X12_qPuts w (h 135 ((h 68 93) - 1)) h3 (fun _ h43 => K 0 h43))) ∧ (¬ ((h 135 ((h 68 93) - 2)) ≤ (h 135 ((h 68 93) - 1))) → (C_X12_qPuts w (h 135 ((h 68 93) - 2)) h3 (fun _ h46 => K 0 h46)))))) ∧ (a1 = 7 → (inL (h 135 ((h 68 93) - 2))) ∧ ((inL (h 135 ((h 68 93) - 1))) ∧ ((((h 135 ((h 68 93) - 2)) ≥ (h 135 ((h 68 93) - 1))) → (C_X12_qPuts w 0 h3 (fun _ h52 => K 0 h52))) ∧ (¬ ((h 135 ((h 68 93) - 2)) ≥ (h 135 ((h 68 93) - 1))) → (C_X12_qPuts w 1 h3 (fun _ h55 => K 0 h55)))))) ∧ (a1 = 8 → (inL (h 135 ((h 68 93) - 2))) ∧ ((inL (h 135 ((h 68 93) - 1))) ∧ ((((h 135 ((h 68 93) - 2)) ≤ (h 135 ((h 68 93) - 1))) → (C_X12_qPuts w 0 h3 (fun _ h61 => K 0 h61))) ∧ (¬ ((h 135 ((h 68 93) - 2)) ≤ (h 135 ((h 68 93) - 1))) → (C_X12_qPuts w 1 h3 (fun _ h64 => K 0 h64)))))) ∧ (a1 = 9 → (inL (h 135 ((h 68 93) - 2))) ∧ ((inL (h 135 ((h 68 93) - 1))) ∧ ((((h 135 ((h 68 93) - 2)) ≠ (h 135 ((h 68 93) - 1))) → (C_X12_qPuts w 0 h3 (fun _ h70 => K 0 h70))) ∧ (¬ ((h 135 ((h 68 93) - 2)) ≠ (h 135 ((h 68 93) - 1))) → (C_X12_qPuts w 1 h3 (fun _ h73 => K 0 h73)))))) ∧ (a1 = 10 → C_X12_qPuts w ((h 135 ((h 68 93) - 2)) * (h 135 ((h 68 93) - 1))) h3 (fun _ h77 => K 0 h77)) ∧ ((a1 < 1 ∨ 10 < a1) → (inL ((h 135 ((h 68 93) - 2)) + (h 135 ((h 68 93) - 1)))) ∧ (((((h 135 ((h 68 93) - 2)) + (h 135 ((h 68 93) - 1))) ≤ 0) → (C_X12_qPuts w 0 h3 (fun _ h81 => K 0 h81))) ∧ (¬ (((h 135 ((h 68 93) - 2)) + (h 135 ((h 68 93) - 1))) ≤ 0) → (C_X12_qPuts w 1 h3 (fun _ h84 => K 0 h84))))))))) : C_X12_qJoins w a1 h K := by
  refine CGm_of2 (by decide) (by decide) trivial (Nat.le_of_ble_eq_true rfl) ?_
  refine J_aload_n 1 rfl 0 0 rfl ⟨by decide, by decide⟩ (D_X12_qJoins_0.at 0 rfl) ?_
  refine J_getF (ov := 135) (dd := 1067) 4 rfl fl_12_218 rfl (by decide) rfl ob_68 (Ob.lt ob_68) (D_X12_qJoins_0.at 1 rfl) ?_
  refine J_aload_n 5 rfl 0 0 rfl ⟨by decide, by decide⟩ (D_X12_qJoins_0.at 2 rfl) ?_
  refine J_getI (z := (h 68 93)) 8 rfl fl_12_640 rfl ob_68 (Ob.lt ob_68) (D_X12_qJoins_0.at 3 rfl) rfl ?_
  refine J_iconst 9 rfl (D_X12_qJoins_0.at 4 rfl) ?_
  refine J_isub 10 rfl (D_X12_qJoins_0.at 5 rfl) ?_
  obtain ⟨s1, T⟩ := T
  refine J_lald 11 rfl ar_135 (Ar.lt ar_135) s1 (D_X12_qJoins_0.at 6 rfl) ?_
  refine J_lstore_n (lv' := [(2, vL (h 135 ((h 68 93) - 1))), (0, vR 68), (1, vI a1)]) 12 rfl 2 (by decide) rfl (D_X12_qJoins_0.at 7 rfl) ?_
  refine J_aload_n 13 rfl 0 1 rfl ⟨by decide, by decide⟩ (D_X12_qJoins_0.at 8 rfl) ?_
  refine J_getF (ov := 135) (dd := 1067) 16 rfl fl_12_218 rfl (by decide) rfl ob_68 (Ob.lt ob_68) (D_X12_qJoins_0.at 9 rfl) ?_
  refine J_aload_n 17 rfl 0 1 rfl ⟨by decide, by decide⟩ (D_X12_qJoins_0.at 10 rfl) ?_
  refine J_getI (z := (h 68 93)) 20 rfl fl_12_640 rfl ob_68 (Ob.lt ob_68) (D_X12_qJoins_0.at 11 rfl) rfl ?_
  refine J_iconst 21 rfl (D_X12_qJoins_0.at 12 rfl) ?_
  refine J_isub 22 rfl (D_X12_qJoins_0.at 13 rfl) ?_
  obtain ⟨s2, T⟩ := T
  refine J_lald 23 rfl ar_135 (Ar.lt ar_135) s2 (D_X12_qJoins_0.at 14 rfl) ?_
  refine J_lstore (lv' := [(4, vL (h 135 ((h 68 93) - 2))), (2, vL (h 135 ((h 68 93) - 1))), (0, vR 68), (1, vI a1)]) 25 rfl 4 (by decide) rfl (D_X12_qJoins_0.at 15 rfl) ?_
  refine J_aload_n 26 rfl 0 2 rfl ⟨by decide, by decide⟩ (D_X12_qJoins_0.at 16 rfl) ?_
  refine J_dup 27 rfl rfl (D_X12_qJoins_0.at 17 rfl) ?_
  refine J_getI (z := (h 68 93)) 30 rfl fl_12_640 rfl ob_68 (Ob.lt ob_68) (D_X12_qJoins_0.at 18 rfl) rfl ?_
  refine J_iconst 31 rfl (D_X12_qJoins_0.at 19 rfl) ?_
  refine J_isub 32 rfl (D_X12_qJoins_0.at 20 rfl) ?_
  refine J_putI 35 rfl fl_12_640 rfl rfl ob_68 (Ob.lt ob_68) (D_X12_qJoins_0.at 21 rfl) (fun h3 e4 => ?_)
  replace T := T h3 e4
  refine J_iload_n 36 rfl 1 3 rfl (D_X12_qJoins_0.at 22 rfl) ?_
  obtain ⟨s5, T⟩ := T
  have tg : a1 = 1 ∨ a1 = 2 ∨ a1 = 3 ∨ a1 = 4 ∨ a1 = 5 ∨ a1 = 6 ∨ a1 = 7 ∨ a1 = 8 ∨ a1 = 9 ∨ a1 = 10 ∨ (a1 < 1 ∨ 10 < a1) := by omega
  rcases tg with g6 | g6 | g6 | g6 | g6 | g6 | g6 | g6 | g6 | g6 | g6
  · replace T := T.1 g6
    refine J_tab 56 92 s5 (D_X12_qJoins_0.at 23 rfl) ⟨by omega, by omega⟩ (by rw [g6]; rfl) (by decide) ?_
    refine J_aload_n 93 rfl 0 2 rfl ⟨by decide, by decide⟩ (D_X12_qJoins_0.at 24 rfl) ?_
    refine J_lload 95 rfl 4 0 rfl (D_X12_qJoins_0.at 25 rfl) ?_
    refine J_lload_n 96 rfl 2 1 rfl (D_X12_qJoins_0.at 26 rfl) ?_
    refine J_ladd 97 rfl (D_X12_qJoins_0.at 27 rfl) ?_
    refine J_callS (d' := 1) (sr := fun z => [vL z, vR 68]) (as := [vL ((h 135 ((h 68 93) - 2)) + (h 135 ((h 68 93) - 1)))]) (st := [vR 68]) 100 rfl ok_X12_qClip sm_X12_qClip ml_12_643 rfl (by decide) ⟨Nat.le_refl _, Nat.le_refl _⟩ (Nat.le_of_ble_eq_true rfl) (D_X12_qJoins_0.at 28 rfl) (fun _ => rfl) T (fun r7 h8 T b9 => ?_)
    refine J_callV (d' := 1) (sr := fun z => []) (as := [vL r7]) (st := []) (o := 68) 103 rfl ok_X12_qPuts im_X12_qPuts se_X12_qPuts ml_12_646 isC_12 ob_68 (Ob.lt ob_68) rfl (by decide) ⟨Nat.le_refl _, Nat.le_refl _⟩ (Nat.le_of_ble_eq_true rfl) (D_X12_qJoins_0.at 29 rfl) (fun _ => rfl) T (fun r10 h11 T b12 => ?_)
    refine J_goto 273 (D_X12_qJoins_0.at 30 rfl) (by decide) ?_
    exact J_vret rfl (D_X12_qJoins_2.at 22 rfl) T
  · replace T := T.2.1 g6
    refine J_tab 70 106 s5 (D_X12_qJoins_0.at 23 rfl) ⟨by omega, by omega⟩ (by rw [g6]; rfl) (by decide) ?_
    refine J_aload_n 107 rfl 0 2 rfl ⟨by decide, by decide⟩ (D_X12_qJoins_0.at 31 rfl) ?_
    refine J_lload 109 rfl 4 0 rfl (D_X12_qJoins_0.at 32 rfl) ?_
    refine J_lload_n 110 rfl 2 1 rfl (D_X12_qJoins_0.at 33 rfl) ?_
    refine J_lsub 111 rfl (D_X12_qJoins_0.at 34 rfl) ?_
    refine J_callS (d' := 1) (sr := fun z => [vL z, vR 68]) (as := [vL ((h 135 ((h 68 93) - 2)) - (h 135 ((h 68 93) - 1)))]) (st := [vR 68]) 114 rfl ok_X12_qClip sm_X12_qClip ml_12_643 rfl (by decide) ⟨Nat.le_refl _, Nat.le_refl _⟩ (Nat.le_of_ble_eq_true rfl) (D_X12_qJoins_0.at 35 rfl) (fun _ => rfl) T (fun r13 h14 T b15 => ?_)
    refine J_callV (d' := 1) (sr := fun z => []) (as := [vL r13]) (st := []) (o := 68) 117 rfl ok_X12_qPuts im_X12_qPuts se_X12_qPuts ml_12_646 isC_12 ob_68 (Ob.lt ob_68) rfl (by decide) ⟨Nat.le_refl _, Nat.le_refl _⟩ (Nat.le_of_ble_eq_true rfl) (D_X12_qJoins_0.at 36 rfl) (fun _ => rfl) T (fun r16 h17 T b18 => ?_)
    refine J_goto 273 (D_X12_qJoins_0.at 37 rfl) (by decide) ?_
    exact J_vret rfl (D_X12_qJoins_2.at 22 rfl) T
  · replace T := T.2.2.1 g6
    refine J_tab 84 120 s5 (D_X12_qJoins_0.at 23 rfl) ⟨by omega, by omega⟩ (by rw [g6]; rfl) (by decide) ?_
    refine J_aload_n 121 rfl 0 2 rfl ⟨by decide, by decide⟩ (D_X12_qJoins_0.at 38 rfl) ?_
    refine J_lload 123 rfl 4 0 rfl (D_X12_qJoins_0.at 39 rfl) ?_
    refine J_lload_n 124 rfl 2 1 rfl (D_X12_qJoins_0.at 40 rfl) ?_
    refine J_lmul 125 rfl (D_X12_qJoins_0.at 41 rfl) ?_
    refine J_callS (d' := 1) (sr := fun z => [vL z, vR 68]) (as := [vL ((h 135 ((h 68 93) - 2)) * (h 135 ((h 68 93) - 1)))]) (st := [vR 68]) 128 rfl ok_X12_qClip sm_X12_qClip ml_12_643 rfl (by decide) ⟨Nat.le_refl _, Nat.le_refl _⟩ (Nat.le_of_ble_eq_true rfl) (D_X12_qJoins_0.at 42 rfl) (fun _ => rfl) T (fun r19 h20 T b21 => ?_)
    refine J_callV (d' := 1) (sr := fun z => []) (as := [vL r19]) (st := []) (o := 68) 131 rfl ok_X12_qPuts im_X12_qPuts se_X12_qPuts ml_12_646 isC_12 ob_68 (Ob.lt ob_68) rfl (by decide) ⟨Nat.le_refl _, Nat.le_refl _⟩ (Nat.le_of_ble_eq_true rfl) (D_X12_qJoins_0.at 43 rfl) (fun _ => rfl) T (fun r22 h23 T b24 => ?_)
    refine J_goto 273 (D_X12_qJoins_0.at 44 rfl) (by decide) ?_
    exact J_vret rfl (D_X12_qJoins_2.at 22 rfl) T
  · replace T := T.2.2.2.1 g6
    refine J_tab 98 134 s5 (D_X12_qJoins_0.at 23 rfl) ⟨by omega, by omega⟩ (by rw [g6]; rfl) (by decide) ?_
    refine J_aload_n 135 rfl 0 2 rfl ⟨by decide, by decide⟩ (D_X12_qJoins_0.at 45 rfl) ?_
    refine J_lload 137 rfl 4 0 rfl (D_X12_qJoins_0.at 46 rfl) ?_
    refine J_lload_n 138 rfl 2 1 rfl (D_X12_qJoins_0.at 47 rfl) ?_
    refine J_callS (d' := 1) (sr := fun z => [vL z, vR 68]) (as := [vL (h 135 ((h 68 93) - 2)), vL (h 135 ((h 68 93) - 1))]) (st := [vR 68]) 141 rfl ok_X12_qFloor sm_X12_qFloor ml_12_649 rfl (by decide) ⟨Nat.le_refl _, Nat.le_refl _⟩ (Nat.le_of_ble_eq_true rfl) (D_X12_qJoins_1.at 0 rfl) (fun _ => rfl) T (fun r25 h26 T b27 => ?_)
    refine J_callV (d' := 1) (sr := fun z => []) (as := [vL r25]) (st := []) (o := 68) 144 rfl ok_X12_qPuts im_X12_qPuts se_X12_qPuts ml_12_646 isC_12 ob_68 (Ob.lt ob_68) rfl (by decide) ⟨Nat.le_refl _, Nat.le_refl _⟩ (Nat.le_of_ble_eq_true rfl) (D_X12_qJoins_1.at 1 rfl) (fun _ => rfl) T (fun r28 h29 T b30 => ?_)
    refine J_goto 273 (D_X12_qJoins_1.at 2 rfl) (by decide) ?_
    exact J_vret rfl (D_X12_qJoins_2.at 22 rfl) T
  · replace T := T.2.2.2.2.1 g6
    refine J_tab 111 147 s5 (D_X12_qJoins_0.at 23 rfl) ⟨by omega, by omega⟩ (by rw [g6]; rfl) (by decide) ?_
    refine J_aload_n 148 rfl 0 2 rfl ⟨by decide, by decide⟩ (D_X12_qJoins_1.at 3 rfl) ?_
    refine J_lload 150 rfl 4 0 rfl (D_X12_qJoins_1.at 4 rfl) ?_
    refine J_lload_n 151 rfl 2 1 rfl (D_X12_qJoins_1.at 5 rfl) ?_
    obtain ⟨s31, T⟩ := T
    obtain ⟨s32, T⟩ := T
    refine J_lcmp_ge 155 rfl 160 s31 s32 (D_X12_qJoins_1.at 6 rfl) (D_X12_qJoins_1.at 7 rfl) (by decide) (fun c39 => ?_) (fun c39 => ?_)
    · replace T := T.1 c39
      refine J_lload_n 161 rfl 2 1 rfl (D_X12_qJoins_1.at 10 rfl) ?_
      refine J_callV (d' := 1) (sr := fun z => []) (as := [vL (h 135 ((h 68 93) - 1))]) (st := []) (o := 68) 164 rfl ok_X12_qPuts im_X12_qPuts se_X12_qPuts ml_12_646 isC_12 ob_68 (Ob.lt ob_68) rfl (by decide) ⟨Nat.le_refl _, Nat.le_refl _⟩ (Nat.le_of_ble_eq_true rfl) (D_X12_qJoins_1.at 11 rfl) (fun _ => rfl) T (fun r33 h34 T b35 => ?_)
      refine J_goto 273 (D_X12_qJoins_1.at 12 rfl) (by decide) ?_
      exact J_vret rfl (D_X12_qJoins_2.at 22 rfl) T
    replace T := T.2 c39
    refine J_lload 157 rfl 4 0 rfl (D_X12_qJoins_1.at 8 rfl) ?_
    refine J_goto 161 (D_X12_qJoins_1.at 9 rfl) (by decide) ?_
    refine J_callV (d' := 1) (sr := fun z => []) (as := [vL (h 135 ((h 68 93) - 2))]) (st := []) (o := 68) 164 rfl ok_X12_qPuts im_X12_qPuts se_X12_qPuts ml_12_646 isC_12 ob_68 (Ob.lt ob_68) rfl (by decide) ⟨Nat.le_refl _, Nat.le_refl _⟩ (Nat.le_of_ble_eq_true rfl) (D_X12_qJoins_1.at 11 rfl) (fun _ => rfl) T (fun r36 h37 T b38 => ?_)
    refine J_goto 273 (D_X12_qJoins_1.at 12 rfl) (by decide) ?_
    exact J_vret rfl (D_X12_qJoins_2.at 22 rfl) T
  · replace T := T.2.2.2.2.2.1 g6
    refine J_tab 131 167 s5 (D_X12_qJoins_0.at 23 rfl) ⟨by omega, by omega⟩ (by rw [g6]; rfl) (by decide) ?_
    refine J_aload_n 168 rfl 0 2 rfl ⟨by decide, by decide⟩ (D_X12_qJoins_1.at 13 rfl) ?_
    refine J_lload 170 rfl 4 0 rfl (D_X12_qJoins_1.at 14 rfl) ?_
    refine J_lload_n 171 rfl 2 1 rfl (D_X12_qJoins_1.at 15 rfl) ?_
    obtain ⟨s40, T⟩ := T
    obtain ⟨s41, T⟩ := T
    refine J_lcmp_le 175 rfl 180 s40 s41 (D_X12_qJoins_1.at 16 rfl) (D_X12_qJoins_1.at 17 rfl) (by decide) (fun c48 => ?_) (fun c48 => ?_)
    · replace T := T.1 c48
      refine J_lload_n 181 rfl 2 1 rfl (D_X12_qJoins_1.at 20 rfl) ?_
      refine J_callV (d' := 1) (sr := fun z => []) (as := [vL (h 135 ((h 68 93) - 1))]) (st := []) (o := 68) 184 rfl ok_X12_qPuts im_X12_qPuts se_X12_qPuts ml_12_646 isC_12 ob_68 (Ob.lt ob_68) rfl (by decide) ⟨Nat.le_refl _, Nat.le_refl _⟩ (Nat.le_of_ble_eq_true rfl) (D_X12_qJoins_1.at 21 rfl) (fun _ => rfl) T (fun r42 h43 T b44 => ?_)
      refine J_goto 273 (D_X12_qJoins_1.at 22 rfl) (by decide) ?_
      exact J_vret rfl (D_X12_qJoins_2.at 22 rfl) T
    replace T := T.2 c48
    refine J_lload 177 rfl 4 0 rfl (D_X12_qJoins_1.at 18 rfl) ?_
    refine J_goto 181 (D_X12_qJoins_1.at 19 rfl) (by decide) ?_
    refine J_callV (d' := 1) (sr := fun z => []) (as := [vL (h 135 ((h 68 93) - 2))]) (st := []) (o := 68) 184 rfl ok_X12_qPuts im_X12_qPuts se_X12_qPuts ml_12_646 isC_12 ob_68 (Ob.lt ob_68) rfl (by decide) ⟨Nat.le_refl _, Nat.le_refl _⟩ (Nat.le_of_ble_eq_true rfl) (D_X12_qJoins_1.at 21 rfl) (fun _ => rfl) T (fun r45 h46 T b47 => ?_)
    refine J_goto 273 (D_X12_qJoins_1.at 22 rfl) (by decide) ?_
    exact J_vret rfl (D_X12_qJoins_2.at 22 rfl) T
  · replace T := T.2.2.2.2.2.2.1 g6
    refine J_tab 151 187 s5 (D_X12_qJoins_0.at 23 rfl) ⟨by omega, by omega⟩ (by rw [g6]; rfl) (by decide) ?_
    refine J_aload_n 188 rfl 0 2 rfl ⟨by decide, by decide⟩ (D_X12_qJoins_1.at 23 rfl) ?_
    refine J_lload 190 rfl 4 0 rfl (D_X12_qJoins_1.at 24 rfl) ?_
    refine J_lload_n 191 rfl 2 1 rfl (D_X12_qJoins_1.at 25 rfl) ?_
    obtain ⟨s49, T⟩ := T
    obtain ⟨s50, T⟩ := T
    refine J_lcmp_ge 195 rfl 199 s49 s50 (D_X12_qJoins_1.at 26 rfl) (D_X12_qJoins_1.at 27 rfl) (by decide) (fun c57 => ?_) (fun c57 => ?_)
    · replace T := T.1 c57
      refine J_lconst (z := 0) 200 rfl rfl (D_X12_qJoins_1.at 30 rfl) ?_
      refine J_callV (d' := 1) (sr := fun z => []) (as := [vL 0]) (st := []) (o := 68) 203 rfl ok_X12_qPuts im_X12_qPuts se_X12_qPuts ml_12_646 isC_12 ob_68 (Ob.lt ob_68) rfl (by decide) ⟨Nat.le_refl _, Nat.le_refl _⟩ (Nat.le_of_ble_eq_true rfl) (D_X12_qJoins_1.at 31 rfl) (fun _ => rfl) T (fun r51 h52 T b53 => ?_)
      refine J_goto 273 (D_X12_qJoins_1.at 32 rfl) (by decide) ?_
      exact J_vret rfl (D_X12_qJoins_2.at 22 rfl) T
    replace T := T.2 c57
    refine J_lconst (z := 1) 196 rfl rfl (D_X12_qJoins_1.at 28 rfl) ?_
    refine J_goto 200 (D_X12_qJoins_1.at 29 rfl) (by decide) ?_
    refine J_callV (d' := 1) (sr := fun z => []) (as := [vL 1]) (st := []) (o := 68) 203 rfl ok_X12_qPuts im_X12_qPuts se_X12_qPuts ml_12_646 isC_12 ob_68 (Ob.lt ob_68) rfl (by decide) ⟨Nat.le_refl _, Nat.le_refl _⟩ (Nat.le_of_ble_eq_true rfl) (D_X12_qJoins_1.at 31 rfl) (fun _ => rfl) T (fun r54 h55 T b56 => ?_)
    refine J_goto 273 (D_X12_qJoins_1.at 32 rfl) (by decide) ?_
    exact J_vret rfl (D_X12_qJoins_2.at 22 rfl) T
  · replace T := T.2.2.2.2.2.2.2.1 g6
    refine J_tab 170 206 s5 (D_X12_qJoins_0.at 23 rfl) ⟨by omega, by omega⟩ (by rw [g6]; rfl) (by decide) ?_
    refine J_aload_n 207 rfl 0 2 rfl ⟨by decide, by decide⟩ (D_X12_qJoins_1.at 33 rfl) ?_
    refine J_lload 209 rfl 4 0 rfl (D_X12_qJoins_1.at 34 rfl) ?_
    refine J_lload_n 210 rfl 2 1 rfl (D_X12_qJoins_1.at 35 rfl) ?_
    obtain ⟨s58, T⟩ := T
    obtain ⟨s59, T⟩ := T
    refine J_lcmp_le 214 rfl 218 s58 s59 (D_X12_qJoins_1.at 36 rfl) (D_X12_qJoins_1.at 37 rfl) (by decide) (fun c66 => ?_) (fun c66 => ?_)
    · replace T := T.1 c66
      refine J_lconst (z := 0) 219 rfl rfl (D_X12_qJoins_1.at 40 rfl) ?_
      refine J_callV (d' := 1) (sr := fun z => []) (as := [vL 0]) (st := []) (o := 68) 222 rfl ok_X12_qPuts im_X12_qPuts se_X12_qPuts ml_12_646 isC_12 ob_68 (Ob.lt ob_68) rfl (by decide) ⟨Nat.le_refl _, Nat.le_refl _⟩ (Nat.le_of_ble_eq_true rfl) (D_X12_qJoins_1.at 41 rfl) (fun _ => rfl) T (fun r60 h61 T b62 => ?_)
      refine J_goto 273 (D_X12_qJoins_1.at 42 rfl) (by decide) ?_
      exact J_vret rfl (D_X12_qJoins_2.at 22 rfl) T
    replace T := T.2 c66
    refine J_lconst (z := 1) 215 rfl rfl (D_X12_qJoins_1.at 38 rfl) ?_
    refine J_goto 219 (D_X12_qJoins_1.at 39 rfl) (by decide) ?_
    refine J_callV (d' := 1) (sr := fun z => []) (as := [vL 1]) (st := []) (o := 68) 222 rfl ok_X12_qPuts im_X12_qPuts se_X12_qPuts ml_12_646 isC_12 ob_68 (Ob.lt ob_68) rfl (by decide) ⟨Nat.le_refl _, Nat.le_refl _⟩ (Nat.le_of_ble_eq_true rfl) (D_X12_qJoins_1.at 41 rfl) (fun _ => rfl) T (fun r63 h64 T b65 => ?_)
    refine J_goto 273 (D_X12_qJoins_1.at 42 rfl) (by decide) ?_
    exact J_vret rfl (D_X12_qJoins_2.at 22 rfl) T
  · replace T := T.2.2.2.2.2.2.2.2.1 g6
    refine J_tab 189 225 s5 (D_X12_qJoins_0.at 23 rfl) ⟨by omega, by omega⟩ (by rw [g6]; rfl) (by decide) ?_
    refine J_aload_n 226 rfl 0 2 rfl ⟨by decide, by decide⟩ (D_X12_qJoins_1.at 43 rfl) ?_
    refine J_lload 228 rfl 4 0 rfl (D_X12_qJoins_1.at 44 rfl) ?_
    refine J_lload_n 229 rfl 2 1 rfl (D_X12_qJoins_1.at 45 rfl) ?_
    obtain ⟨s67, T⟩ := T
    obtain ⟨s68, T⟩ := T
    refine J_lcmp_ne 233 rfl 237 s67 s68 (D_X12_qJoins_1.at 46 rfl) (D_X12_qJoins_1.at 47 rfl) (by decide) (fun c75 => ?_) (fun c75 => ?_)
    · replace T := T.1 c75
      refine J_lconst (z := 0) 238 rfl rfl (D_X12_qJoins_2.at 2 rfl) ?_
      refine J_callV (d' := 1) (sr := fun z => []) (as := [vL 0]) (st := []) (o := 68) 241 rfl ok_X12_qPuts im_X12_qPuts se_X12_qPuts ml_12_646 isC_12 ob_68 (Ob.lt ob_68) rfl (by decide) ⟨Nat.le_refl _, Nat.le_refl _⟩ (Nat.le_of_ble_eq_true rfl) (D_X12_qJoins_2.at 3 rfl) (fun _ => rfl) T (fun r69 h70 T b71 => ?_)
      refine J_goto 273 (D_X12_qJoins_2.at 4 rfl) (by decide) ?_
      exact J_vret rfl (D_X12_qJoins_2.at 22 rfl) T
    replace T := T.2 c75
    refine J_lconst (z := 1) 234 rfl rfl (D_X12_qJoins_2.at 0 rfl) ?_
    refine J_goto 238 (D_X12_qJoins_2.at 1 rfl) (by decide) ?_
    refine J_callV (d' := 1) (sr := fun z => []) (as := [vL 1]) (st := []) (o := 68) 241 rfl ok_X12_qPuts im_X12_qPuts se_X12_qPuts ml_12_646 isC_12 ob_68 (Ob.lt ob_68) rfl (by decide) ⟨Nat.le_refl _, Nat.le_refl _⟩ (Nat.le_of_ble_eq_true rfl) (D_X12_qJoins_2.at 3 rfl) (fun _ => rfl) T (fun r72 h73 T b74 => ?_)
    refine J_goto 273 (D_X12_qJoins_2.at 4 rfl) (by decide) ?_
    exact J_vret rfl (D_X12_qJoins_2.at 22 rfl) T
  · replace T := T.2.2.2.2.2.2.2.2.2.1 g6
    refine J_tab 208 244 s5 (D_X12_qJoins_0.at 23 rfl) ⟨by omega, by omega⟩ (by rw [g6]; rfl) (by decide) ?_
    refine J_aload_n 245 rfl 0 2 rfl ⟨by decide, by decide⟩ (D_X12_qJoins_2.at 5 rfl) ?_
    refine J_lload 247 rfl 4 0 rfl (D_X12_qJoins_2.at 6 rfl) ?_
    refine J_lload_n 248 rfl 2 1 rfl (D_X12_qJoins_2.at 7 rfl) ?_
    refine J_lmul 249 rfl (D_X12_qJoins_2.at 8 rfl) ?_
    refine J_callV (d' := 1) (sr := fun z => []) (as := [vL ((h 135 ((h 68 93) - 2)) * (h 135 ((h 68 93) - 1)))]) (st := []) (o := 68) 252 rfl ok_X12_qPuts im_X12_qPuts se_X12_qPuts ml_12_646 isC_12 ob_68 (Ob.lt ob_68) rfl (by decide) ⟨Nat.le_refl _, Nat.le_refl _⟩ (Nat.le_of_ble_eq_true rfl) (D_X12_qJoins_2.at 9 rfl) (fun _ => rfl) T (fun r76 h77 T b78 => ?_)
    refine J_goto 273 (D_X12_qJoins_2.at 10 rfl) (by decide) ?_
    exact J_vret rfl (D_X12_qJoins_2.at 22 rfl) T
  · replace T := T.2.2.2.2.2.2.2.2.2.2 g6
    refine J_tabO 255 s5 (D_X12_qJoins_0.at 23 rfl) g6 (by decide) ?_
    refine J_aload_n 256 rfl 0 2 rfl ⟨by decide, by decide⟩ (D_X12_qJoins_2.at 11 rfl) ?_
    refine J_lload 258 rfl 4 0 rfl (D_X12_qJoins_2.at 12 rfl) ?_
    refine J_lload_n 259 rfl 2 1 rfl (D_X12_qJoins_2.at 13 rfl) ?_
    refine J_ladd 260 rfl (D_X12_qJoins_2.at 14 rfl) ?_
    refine J_lconst (z := 0) 261 rfl rfl (D_X12_qJoins_2.at 15 rfl) ?_
    obtain ⟨s79, T⟩ := T
    refine J_lcmp_le 265 rfl 269 s79 ⟨by decide, by decide⟩ (D_X12_qJoins_2.at 16 rfl) (D_X12_qJoins_2.at 17 rfl) (by decide) (fun c86 => ?_) (fun c86 => ?_)
    · replace T := T.1 c86
      refine J_lconst (z := 0) 270 rfl rfl (D_X12_qJoins_2.at 20 rfl) ?_
      refine J_callV (d' := 1) (sr := fun z => []) (as := [vL 0]) (st := []) (o := 68) 273 rfl ok_X12_qPuts im_X12_qPuts se_X12_qPuts ml_12_646 isC_12 ob_68 (Ob.lt ob_68) rfl (by decide) ⟨Nat.le_refl _, Nat.le_refl _⟩ (Nat.le_of_ble_eq_true rfl) (D_X12_qJoins_2.at 21 rfl) (fun _ => rfl) T (fun r80 h81 T b82 => ?_)
      exact J_vret rfl (D_X12_qJoins_2.at 22 rfl) T
    replace T := T.2 c86
    refine J_lconst (z := 1) 266 rfl rfl (D_X12_qJoins_2.at 18 rfl) ?_
    refine J_goto 270 (D_X12_qJoins_2.at 19 rfl) (by decide) ?_
    refine J_callV (d' := 1) (sr := fun z => []) (as := [vL 1]) (st := []) (o := 68) 273 rfl ok_X12_qPuts im_X12_qPuts se_X12_qPuts ml_12_646 isC_12 ob_68 (Ob.lt ob_68) rfl (by decide) ⟨Nat.le_refl _, Nat.le_refl _⟩ (Nat.le_of_ble_eq_true rfl) (D_X12_qJoins_2.at 21 rfl) (fun _ => rfl) T (fun r83 h84 T b85 => ?_)
    exact J_vret rfl (D_X12_qJoins_2.at 22 rfl) T
theorem c_X12_qWordHere {w : Wd} {h : Hp} {K : Int → Hp → Prop} (T : C_X12_isHere w 128 h (fun r1 h2 => (r1 = 0 ∨ r1 = 1) → ((r1 = 0) → (C_X12_isHere w 129 h2 (fun r4 h5 => (r4 = 0 ∨ r4 = 1) → ((r4 = 0) → (C_X12_isHere w 130 h5 (fun r7 h8 => (r7 = 0 ∨ r7 = 1) → ((r7 = 0) → (C_X12_isHere w 131 h8 (fun r10 h11 => (r10 = 0 ∨ r10 = 1) → ((r10 = 0) → (C_X12_isHere w 132 h11 (fun r13 h14 => (r13 = 0 ∨ r13 = 1) → ((r13 = 0) → (K (-1) h14)) ∧ (¬ (r13 = 0) → (K 4 h14))))) ∧ (¬ (r10 = 0) → (K 3 h11))))) ∧ (¬ (r7 = 0) → (K 2 h8))))) ∧ (¬ (r4 = 0) → (K 1 h5))))) ∧ (¬ (r1 = 0) → (K 0 h2)))) : C_X12_qWordHere w h K := by
  refine CGm_of2 (by decide) (by decide) trivial (Nat.le_of_ble_eq_true rfl) ?_
  refine J_aload_n 1 rfl 0 0 rfl ⟨by decide, by decide⟩ (D_X12_qWordHere_0.at 0 rfl) ?_
  refine J_aload_n 2 rfl 0 0 rfl ⟨by decide, by decide⟩ (D_X12_qWordHere_0.at 1 rfl) ?_
  refine J_getF (ov := 128) (dd := 1060) 5 rfl fl_12_197 rfl (by decide) rfl ob_68 (Ob.lt ob_68) (D_X12_qWordHere_0.at 2 rfl) ?_
  refine J_callV (d' := 2) (sr := fun z => [vI z]) (as := [vR 128]) (st := []) (o := 68) 8 rfl ok_X12_isHere im_X12_isHere se_X12_isHere ml_12_250 isC_12 ob_68 (Ob.lt ob_68) rfl (by decide) ⟨Nat.le_refl _, Nat.le_refl _⟩ (Nat.le_of_ble_eq_true rfl) (D_X12_qWordHere_0.at 3 rfl) (fun _ => rfl) T (fun r1 h2 T b3 => ?_)
  replace T := T b3
  refine J_if_eq 11 rfl 13 (inR_b b3) (D_X12_qWordHere_0.at 4 rfl) (by decide) (fun c20 => ?_) (fun c20 => ?_)
  · replace T := T.1 c20
    refine J_aload_n 14 rfl 0 0 rfl ⟨by decide, by decide⟩ (D_X12_qWordHere_0.at 7 rfl) ?_
    refine J_aload_n 15 rfl 0 0 rfl ⟨by decide, by decide⟩ (D_X12_qWordHere_0.at 8 rfl) ?_
    refine J_getF (ov := 129) (dd := 1061) 18 rfl fl_12_200 rfl (by decide) rfl ob_68 (Ob.lt ob_68) (D_X12_qWordHere_0.at 9 rfl) ?_
    refine J_callV (d' := 2) (sr := fun z => [vI z]) (as := [vR 129]) (st := []) (o := 68) 21 rfl ok_X12_isHere im_X12_isHere se_X12_isHere ml_12_250 isC_12 ob_68 (Ob.lt ob_68) rfl (by decide) ⟨Nat.le_refl _, Nat.le_refl _⟩ (Nat.le_of_ble_eq_true rfl) (D_X12_qWordHere_0.at 10 rfl) (fun _ => rfl) T (fun r4 h5 T b6 => ?_)
    replace T := T b6
    refine J_if_eq 24 rfl 26 (inR_b b6) (D_X12_qWordHere_0.at 11 rfl) (by decide) (fun c19 => ?_) (fun c19 => ?_)
    · replace T := T.1 c19
      refine J_aload_n 27 rfl 0 0 rfl ⟨by decide, by decide⟩ (D_X12_qWordHere_0.at 14 rfl) ?_
      refine J_aload_n 28 rfl 0 0 rfl ⟨by decide, by decide⟩ (D_X12_qWordHere_0.at 15 rfl) ?_
      refine J_getF (ov := 130) (dd := 1062) 31 rfl fl_12_203 rfl (by decide) rfl ob_68 (Ob.lt ob_68) (D_X12_qWordHere_0.at 16 rfl) ?_
      refine J_callV (d' := 2) (sr := fun z => [vI z]) (as := [vR 130]) (st := []) (o := 68) 34 rfl ok_X12_isHere im_X12_isHere se_X12_isHere ml_12_250 isC_12 ob_68 (Ob.lt ob_68) rfl (by decide) ⟨Nat.le_refl _, Nat.le_refl _⟩ (Nat.le_of_ble_eq_true rfl) (D_X12_qWordHere_0.at 17 rfl) (fun _ => rfl) T (fun r7 h8 T b9 => ?_)
      replace T := T b9
      refine J_if_eq 37 rfl 39 (inR_b b9) (D_X12_qWordHere_0.at 18 rfl) (by decide) (fun c18 => ?_) (fun c18 => ?_)
      · replace T := T.1 c18
        refine J_aload_n 40 rfl 0 0 rfl ⟨by decide, by decide⟩ (D_X12_qWordHere_0.at 21 rfl) ?_
        refine J_aload_n 41 rfl 0 0 rfl ⟨by decide, by decide⟩ (D_X12_qWordHere_0.at 22 rfl) ?_
        refine J_getF (ov := 131) (dd := 1063) 44 rfl fl_12_206 rfl (by decide) rfl ob_68 (Ob.lt ob_68) (D_X12_qWordHere_0.at 23 rfl) ?_
        refine J_callV (d' := 2) (sr := fun z => [vI z]) (as := [vR 131]) (st := []) (o := 68) 47 rfl ok_X12_isHere im_X12_isHere se_X12_isHere ml_12_250 isC_12 ob_68 (Ob.lt ob_68) rfl (by decide) ⟨Nat.le_refl _, Nat.le_refl _⟩ (Nat.le_of_ble_eq_true rfl) (D_X12_qWordHere_0.at 24 rfl) (fun _ => rfl) T (fun r10 h11 T b12 => ?_)
        replace T := T b12
        refine J_if_eq 50 rfl 52 (inR_b b12) (D_X12_qWordHere_0.at 25 rfl) (by decide) (fun c17 => ?_) (fun c17 => ?_)
        · replace T := T.1 c17
          refine J_aload_n 53 rfl 0 0 rfl ⟨by decide, by decide⟩ (D_X12_qWordHere_0.at 28 rfl) ?_
          refine J_aload_n 54 rfl 0 0 rfl ⟨by decide, by decide⟩ (D_X12_qWordHere_0.at 29 rfl) ?_
          refine J_getF (ov := 132) (dd := 1064) 57 rfl fl_12_209 rfl (by decide) rfl ob_68 (Ob.lt ob_68) (D_X12_qWordHere_0.at 30 rfl) ?_
          refine J_callV (d' := 2) (sr := fun z => [vI z]) (as := [vR 132]) (st := []) (o := 68) 60 rfl ok_X12_isHere im_X12_isHere se_X12_isHere ml_12_250 isC_12 ob_68 (Ob.lt ob_68) rfl (by decide) ⟨Nat.le_refl _, Nat.le_refl _⟩ (Nat.le_of_ble_eq_true rfl) (D_X12_qWordHere_0.at 31 rfl) (fun _ => rfl) T (fun r13 h14 T b15 => ?_)
          replace T := T b15
          refine J_if_eq 63 rfl 65 (inR_b b15) (D_X12_qWordHere_0.at 32 rfl) (by decide) (fun c16 => ?_) (fun c16 => ?_)
          · replace T := T.1 c16
            refine J_iconst 66 rfl (D_X12_qWordHere_0.at 35 rfl) ?_
            exact J_iret rfl (D_X12_qWordHere_0.at 36 rfl) T
          replace T := T.2 c16
          refine J_iconst 64 rfl (D_X12_qWordHere_0.at 33 rfl) ?_
          exact J_iret rfl (D_X12_qWordHere_0.at 34 rfl) T
        replace T := T.2 c17
        refine J_iconst 51 rfl (D_X12_qWordHere_0.at 26 rfl) ?_
        exact J_iret rfl (D_X12_qWordHere_0.at 27 rfl) T
      replace T := T.2 c18
      refine J_iconst 38 rfl (D_X12_qWordHere_0.at 19 rfl) ?_
      exact J_iret rfl (D_X12_qWordHere_0.at 20 rfl) T
    replace T := T.2 c19
    refine J_iconst 25 rfl (D_X12_qWordHere_0.at 12 rfl) ?_
    exact J_iret rfl (D_X12_qWordHere_0.at 13 rfl) T
  replace T := T.2 c20
  refine J_iconst 12 rfl (D_X12_qWordHere_0.at 5 rfl) ?_
  exact J_iret rfl (D_X12_qWordHere_0.at 6 rfl) T
theorem c_X12_qEndsPart {w : Wd} {h : Hp} {K : Int → Hp → Prop} (T : L_X12_qEndsPart_0 w h K) : C_X12_qEndsPart w h K := by
  refine CGm_of2 (by decide) (by decide) trivial (Nat.le_of_ble_eq_true rfl) ?_
  exact T
theorem l_X12_qEndsPart_0 {w : Wd} {h : Hp} {K : Int → Hp → Prop} (T : (inR (h 68 5)) ∧ ((((h 68 5) ≠ 0) → (K 0 h)) ∧ (¬ ((h 68 5) ≠ 0) → ((inR (h 68 89)) ∧ ((inR (h 68 91)) ∧ ((((h 68 89) ≤ (h 68 91)) → (K 0 h)) ∧ (¬ ((h 68 89) ≤ (h 68 91)) → ((0 ≤ ((h 68 89) - 1) ∧ ((h 68 89) - 1) < 1700) ∧ ((inR (h 134 ((h 68 89) - 1))) ∧ ((((h 134 ((h 68 89) - 1)) < 60) → (K 0 h)) ∧ (¬ ((h 134 ((h 68 89) - 1)) < 60) → (∀ h6 : Hp, h6 = hu h 68 90 ((h 68 90) - 1) → C_X12_qDrops w h6 (fun _ h9 => L_X12_qEndsPart_0 w h9 K))))))))))))) : L_X12_qEndsPart_0 w h K := by
  unfold L_X12_qEndsPart_0
  refine J_aload_n 1 rfl 0 0 rfl ⟨by decide, by decide⟩ (D_X12_qEndsPart_0.at 0 rfl) ?_
  refine J_getI (z := (h 68 5)) 4 rfl fl_12_227 rfl ob_68 (Ob.lt ob_68) (D_X12_qEndsPart_0.at 1 rfl) rfl ?_
  obtain ⟨s1, T⟩ := T
  refine J_if_ne 7 rfl 51 s1 (D_X12_qEndsPart_0.at 2 rfl) (by decide) (fun c13 => ?_) (fun c13 => ?_)
  · replace T := T.1 c13
    exact J_vret rfl (D_X12_qEndsPart_0.at 26 rfl) T
  replace T := T.2 c13
  refine J_aload_n 8 rfl 0 0 rfl ⟨by decide, by decide⟩ (D_X12_qEndsPart_0.at 3 rfl) ?_
  refine J_getI (z := (h 68 89)) 11 rfl fl_12_580 rfl ob_68 (Ob.lt ob_68) (D_X12_qEndsPart_0.at 4 rfl) rfl ?_
  refine J_aload_n 12 rfl 0 0 rfl ⟨by decide, by decide⟩ (D_X12_qEndsPart_0.at 5 rfl) ?_
  refine J_getI (z := (h 68 91)) 15 rfl fl_12_586 rfl ob_68 (Ob.lt ob_68) (D_X12_qEndsPart_0.at 6 rfl) rfl ?_
  obtain ⟨s2, T⟩ := T
  obtain ⟨s3, T⟩ := T
  refine J_icmp_le 18 rfl 51 s2 s3 (D_X12_qEndsPart_0.at 7 rfl) (by decide) (fun c12 => ?_) (fun c12 => ?_)
  · replace T := T.1 c12
    exact J_vret rfl (D_X12_qEndsPart_0.at 26 rfl) T
  replace T := T.2 c12
  refine J_aload_n 19 rfl 0 0 rfl ⟨by decide, by decide⟩ (D_X12_qEndsPart_0.at 8 rfl) ?_
  refine J_getF (ov := 134) (dd := 1066) 22 rfl fl_12_215 rfl (by decide) rfl ob_68 (Ob.lt ob_68) (D_X12_qEndsPart_0.at 9 rfl) ?_
  refine J_aload_n 23 rfl 0 0 rfl ⟨by decide, by decide⟩ (D_X12_qEndsPart_0.at 10 rfl) ?_
  refine J_getI (z := (h 68 89)) 26 rfl fl_12_580 rfl ob_68 (Ob.lt ob_68) (D_X12_qEndsPart_0.at 11 rfl) rfl ?_
  refine J_iconst 27 rfl (D_X12_qEndsPart_0.at 12 rfl) ?_
  refine J_isub 28 rfl (D_X12_qEndsPart_0.at 13 rfl) ?_
  obtain ⟨s4, T⟩ := T
  refine J_iald 29 rfl ar_134 (Ar.lt ar_134) s4 (D_X12_qEndsPart_0.at 14 rfl) ?_
  refine J_bipush 31 rfl ⟨by decide, by decide⟩ (D_X12_qEndsPart_0.at 15 rfl) ?_
  obtain ⟨s5, T⟩ := T
  refine J_icmp_lt 34 rfl 51 s5 ⟨by decide, by decide⟩ (D_X12_qEndsPart_0.at 16 rfl) (by decide) (fun c11 => ?_) (fun c11 => ?_)
  · replace T := T.1 c11
    exact J_vret rfl (D_X12_qEndsPart_0.at 26 rfl) T
  replace T := T.2 c11
  refine J_aload_n 35 rfl 0 0 rfl ⟨by decide, by decide⟩ (D_X12_qEndsPart_0.at 17 rfl) ?_
  refine J_dup 36 rfl rfl (D_X12_qEndsPart_0.at 18 rfl) ?_
  refine J_getI (z := (h 68 90)) 39 rfl fl_12_577 rfl ob_68 (Ob.lt ob_68) (D_X12_qEndsPart_0.at 19 rfl) rfl ?_
  refine J_iconst 40 rfl (D_X12_qEndsPart_0.at 20 rfl) ?_
  refine J_isub 41 rfl (D_X12_qEndsPart_0.at 21 rfl) ?_
  refine J_putI 44 rfl fl_12_577 rfl rfl ob_68 (Ob.lt ob_68) (D_X12_qEndsPart_0.at 22 rfl) (fun h6 e7 => ?_)
  replace T := T h6 e7
  refine J_aload_n 45 rfl 0 0 rfl ⟨by decide, by decide⟩ (D_X12_qEndsPart_0.at 23 rfl) ?_
  refine J_callV (d' := 2) (sr := fun z => []) (as := []) (st := []) (o := 68) 48 rfl ok_X12_qDrops im_X12_qDrops se_X12_qDrops ml_12_592 isC_12 ob_68 (Ob.lt ob_68) rfl (by decide) ⟨Nat.le_refl _, Nat.le_refl _⟩ (Nat.le_of_ble_eq_true rfl) (D_X12_qEndsPart_0.at 24 rfl) (fun _ => rfl) T (fun r8 h9 T b10 => ?_)
  refine J_goto 0 (D_X12_qEndsPart_0.at 25 rfl) (by decide) ?_
  exact T
theorem c_X12_qDropsToBracket {w : Wd} {h : Hp} {K : Int → Hp → Prop} (T : L_X12_qDropsToBracket_0 w h K) : C_X12_qDropsToBracket w h K := by
  refine CGm_of2 (by decide) (by decide) trivial (Nat.le_of_ble_eq_true rfl) ?_
  exact T
theorem l_X12_qDropsToBracket_0 {w : Wd} {h : Hp} {K : Int → Hp → Prop} (T : (inR (h 68 89)) ∧ ((inR (h 68 91)) ∧ ((((h 68 89) ≤ (h 68 91)) → (K 0 h)) ∧ (¬ ((h 68 89) ≤ (h 68 91)) → ((0 ≤ ((h 68 89) - 1) ∧ ((h 68 89) - 1) < 1700) ∧ (C_X12_qIsBracket w (h 134 ((h 68 89) - 1)) h (fun r4 h5 => (r4 = 0 ∨ r4 = 1) → ((r4 ≠ 0) → (K 0 h5)) ∧ (¬ (r4 ≠ 0) → (C_X12_qDrops w h5 (fun _ h8 => L_X12_qDropsToBracket_0 w h8 K)))))))))) : L_X12_qDropsToBracket_0 w h K := by
  unfold L_X12_qDropsToBracket_0
  refine J_aload_n 1 rfl 0 0 rfl ⟨by decide, by decide⟩ (D_X12_qDropsToBracket_0.at 0 rfl) ?_
  refine J_getI (z := (h 68 89)) 4 rfl fl_12_580 rfl ob_68 (Ob.lt ob_68) (D_X12_qDropsToBracket_0.at 1 rfl) rfl ?_
  refine J_aload_n 5 rfl 0 0 rfl ⟨by decide, by decide⟩ (D_X12_qDropsToBracket_0.at 2 rfl) ?_
  refine J_getI (z := (h 68 91)) 8 rfl fl_12_586 rfl ob_68 (Ob.lt ob_68) (D_X12_qDropsToBracket_0.at 3 rfl) rfl ?_
  obtain ⟨s1, T⟩ := T
  obtain ⟨s2, T⟩ := T
  refine J_icmp_le 11 rfl 35 s1 s2 (D_X12_qDropsToBracket_0.at 4 rfl) (by decide) (fun c11 => ?_) (fun c11 => ?_)
  · replace T := T.1 c11
    exact J_vret rfl (D_X12_qDropsToBracket_0.at 17 rfl) T
  replace T := T.2 c11
  refine J_aload_n 12 rfl 0 0 rfl ⟨by decide, by decide⟩ (D_X12_qDropsToBracket_0.at 5 rfl) ?_
  refine J_getF (ov := 134) (dd := 1066) 15 rfl fl_12_215 rfl (by decide) rfl ob_68 (Ob.lt ob_68) (D_X12_qDropsToBracket_0.at 6 rfl) ?_
  refine J_aload_n 16 rfl 0 0 rfl ⟨by decide, by decide⟩ (D_X12_qDropsToBracket_0.at 7 rfl) ?_
  refine J_getI (z := (h 68 89)) 19 rfl fl_12_580 rfl ob_68 (Ob.lt ob_68) (D_X12_qDropsToBracket_0.at 8 rfl) rfl ?_
  refine J_iconst 20 rfl (D_X12_qDropsToBracket_0.at 9 rfl) ?_
  refine J_isub 21 rfl (D_X12_qDropsToBracket_0.at 10 rfl) ?_
  obtain ⟨s3, T⟩ := T
  refine J_iald 22 rfl ar_134 (Ar.lt ar_134) s3 (D_X12_qDropsToBracket_0.at 11 rfl) ?_
  refine J_callS (d' := 1) (sr := fun z => [vI z]) (as := [vI (h 134 ((h 68 89) - 1))]) (st := []) 25 rfl ok_X12_qIsBracket sm_X12_qIsBracket ml_12_589 rfl (by decide) ⟨Nat.le_refl _, Nat.le_refl _⟩ (Nat.le_of_ble_eq_true rfl) (D_X12_qDropsToBracket_0.at 12 rfl) (fun _ => rfl) T (fun r4 h5 T b6 => ?_)
  replace T := T b6
  refine J_if_ne 28 rfl 35 (inR_b b6) (D_X12_qDropsToBracket_0.at 13 rfl) (by decide) (fun c10 => ?_) (fun c10 => ?_)
  · replace T := T.1 c10
    exact J_vret rfl (D_X12_qDropsToBracket_0.at 17 rfl) T
  replace T := T.2 c10
  refine J_aload_n 29 rfl 0 0 rfl ⟨by decide, by decide⟩ (D_X12_qDropsToBracket_0.at 14 rfl) ?_
  refine J_callV (d' := 2) (sr := fun z => []) (as := []) (st := []) (o := 68) 32 rfl ok_X12_qDrops im_X12_qDrops se_X12_qDrops ml_12_592 isC_12 ob_68 (Ob.lt ob_68) rfl (by decide) ⟨Nat.le_refl _, Nat.le_refl _⟩ (Nat.le_of_ble_eq_true rfl) (D_X12_qDropsToBracket_0.at 15 rfl) (fun _ => rfl) T (fun r7 h8 T b9 => ?_)
  refine J_goto 0 (D_X12_qDropsToBracket_0.at 16 rfl) (by decide) ?_
  exact T
theorem c_X12_qDropsNots {w : Wd} {h : Hp} {K : Int → Hp → Prop} (T : L_X12_qDropsNots_0 w h K) : C_X12_qDropsNots w h K := by
  refine CGm_of2 (by decide) (by decide) trivial (Nat.le_of_ble_eq_true rfl) ?_
  exact T
theorem l_X12_qDropsNots_0 {w : Wd} {h : Hp} {K : Int → Hp → Prop} (T : (inR (h 68 5)) ∧ ((((h 68 5) ≠ 0) → (K 0 h)) ∧ (¬ ((h 68 5) ≠ 0) → (C_X12_qIsOn w 12 h (fun r2 h3 => (r2 = 0 ∨ r2 = 1) → ((r2 = 0) → (K 0 h3)) ∧ (¬ (r2 = 0) → (∀ h5 : Hp, h5 = hu h3 68 90 ((h3 68 90) - 1) → C_X12_qDrops w h5 (fun _ h8 => L_X12_qDropsNots_0 w h8 K)))))))) : L_X12_qDropsNots_0 w h K := by
  unfold L_X12_qDropsNots_0
  refine J_aload_n 1 rfl 0 0 rfl ⟨by decide, by decide⟩ (D_X12_qDropsNots_0.at 0 rfl) ?_
  refine J_getI (z := (h 68 5)) 4 rfl fl_12_227 rfl ob_68 (Ob.lt ob_68) (D_X12_qDropsNots_0.at 1 rfl) rfl ?_
  obtain ⟨s1, T⟩ := T
  refine J_if_ne 7 rfl 33 s1 (D_X12_qDropsNots_0.at 2 rfl) (by decide) (fun c11 => ?_) (fun c11 => ?_)
  · replace T := T.1 c11
    exact J_vret rfl (D_X12_qDropsNots_0.at 16 rfl) T
  replace T := T.2 c11
  refine J_aload_n 8 rfl 0 0 rfl ⟨by decide, by decide⟩ (D_X12_qDropsNots_0.at 3 rfl) ?_
  refine J_bipush 10 rfl ⟨by decide, by decide⟩ (D_X12_qDropsNots_0.at 4 rfl) ?_
  refine J_callV (d' := 1) (sr := fun z => [vI z]) (as := [vI 12]) (st := []) (o := 68) 13 rfl ok_X12_qIsOn im_X12_qIsOn se_X12_qIsOn ml_12_616 isC_12 ob_68 (Ob.lt ob_68) rfl (by decide) ⟨Nat.le_refl _, Nat.le_refl _⟩ (Nat.le_of_ble_eq_true rfl) (D_X12_qDropsNots_0.at 5 rfl) (fun _ => rfl) T (fun r2 h3 T b4 => ?_)
  replace T := T b4
  refine J_if_eq 16 rfl 33 (inR_b b4) (D_X12_qDropsNots_0.at 6 rfl) (by decide) (fun c10 => ?_) (fun c10 => ?_)
  · replace T := T.1 c10
    exact J_vret rfl (D_X12_qDropsNots_0.at 16 rfl) T
  replace T := T.2 c10
  refine J_aload_n 17 rfl 0 0 rfl ⟨by decide, by decide⟩ (D_X12_qDropsNots_0.at 7 rfl) ?_
  refine J_dup 18 rfl rfl (D_X12_qDropsNots_0.at 8 rfl) ?_
  refine J_getI (z := (h3 68 90)) 21 rfl fl_12_577 rfl ob_68 (Ob.lt ob_68) (D_X12_qDropsNots_0.at 9 rfl) rfl ?_
  refine J_iconst 22 rfl (D_X12_qDropsNots_0.at 10 rfl) ?_
  refine J_isub 23 rfl (D_X12_qDropsNots_0.at 11 rfl) ?_
  refine J_putI 26 rfl fl_12_577 rfl rfl ob_68 (Ob.lt ob_68) (D_X12_qDropsNots_0.at 12 rfl) (fun h5 e6 => ?_)
  replace T := T h5 e6
  refine J_aload_n 27 rfl 0 0 rfl ⟨by decide, by decide⟩ (D_X12_qDropsNots_0.at 13 rfl) ?_
  refine J_callV (d' := 2) (sr := fun z => []) (as := []) (st := []) (o := 68) 30 rfl ok_X12_qDrops im_X12_qDrops se_X12_qDrops ml_12_592 isC_12 ob_68 (Ob.lt ob_68) rfl (by decide) ⟨Nat.le_refl _, Nat.le_refl _⟩ (Nat.le_of_ble_eq_true rfl) (D_X12_qDropsNots_0.at 14 rfl) (fun _ => rfl) T (fun r7 h8 T b9 => ?_)
  refine J_goto 0 (D_X12_qDropsNots_0.at 15 rfl) (by decide) ?_
  exact T
theorem c_X12_qWordOf {w : Wd} {a1 a2 : Int} {h : Hp} {K : Int → Hp → Prop} (T : C_X12_qWordHere w h (fun r1 h2 => (inR r1) ∧ ((inR a1) ∧ (((r1 < a1) → (K (-1) h2)) ∧ (¬ (r1 < a1) → ((inR r1) ∧ ((inR a2) ∧ (((r1 ≥ a2) → (K (-1) h2)) ∧ (¬ (r1 ≥ a2) → (K r1 h2)))))))))) : C_X12_qWordOf w a1 a2 h K := by
  refine CGm_of2 (by decide) (by decide) trivial (Nat.le_of_ble_eq_true rfl) ?_
  refine J_aload_n 1 rfl 0 0 rfl ⟨by decide, by decide⟩ (D_X12_qWordOf_0.at 0 rfl) ?_
  refine J_callV (d' := 3) (sr := fun z => [vI z]) (as := []) (st := []) (o := 68) 4 rfl ok_X12_qWordHere im_X12_qWordHere se_X12_qWordHere ml_12_595 isC_12 ob_68 (Ob.lt ob_68) rfl (by decide) ⟨Nat.le_refl _, Nat.le_refl _⟩ (Nat.le_of_ble_eq_true rfl) (D_X12_qWordOf_0.at 1 rfl) (fun _ => rfl) T (fun r1 h2 T b3 => ?_)
  refine J_istore_n (lv' := [(3, vI r1), (0, vR 68), (1, vI a1), (2, vI a2)]) 5 rfl 3 (by decide) rfl (D_X12_qWordOf_0.at 2 rfl) ?_
  refine J_iload_n 6 rfl 3 0 rfl (D_X12_qWordOf_0.at 3 rfl) ?_
  refine J_iload_n 7 rfl 1 2 rfl (D_X12_qWordOf_0.at 4 rfl) ?_
  obtain ⟨s4, T⟩ := T
  obtain ⟨s5, T⟩ := T
  refine J_icmp_lt 10 rfl 19 s4 s5 (D_X12_qWordOf_0.at 5 rfl) (by decide) (fun c9 => ?_) (fun c9 => ?_)
  · replace T := T.1 c9
    refine J_iconst 20 rfl (D_X12_qWordOf_0.at 11 rfl) ?_
    exact J_iret rfl (D_X12_qWordOf_0.at 12 rfl) T
  replace T := T.2 c9
  refine J_iload_n 11 rfl 3 0 rfl (D_X12_qWordOf_0.at 6 rfl) ?_
  refine J_iload_n 12 rfl 2 3 rfl (D_X12_qWordOf_0.at 7 rfl) ?_
  obtain ⟨s6, T⟩ := T
  obtain ⟨s7, T⟩ := T
  refine J_icmp_ge 15 rfl 19 s6 s7 (D_X12_qWordOf_0.at 8 rfl) (by decide) (fun c8 => ?_) (fun c8 => ?_)
  · replace T := T.1 c8
    refine J_iconst 20 rfl (D_X12_qWordOf_0.at 11 rfl) ?_
    exact J_iret rfl (D_X12_qWordOf_0.at 12 rfl) T
  replace T := T.2 c8
  refine J_iload_n 16 rfl 3 0 rfl (D_X12_qWordOf_0.at 9 rfl) ?_
  refine J_goto 20 (D_X12_qWordOf_0.at 10 rfl) (by decide) ?_
  exact J_iret rfl (D_X12_qWordOf_0.at 12 rfl) T
theorem c_X12_qGoesOn {w : Wd} {h : Hp} {K : Int → Hp → Prop} (T : L_X12_qGoesOn_0 w h K) : C_X12_qGoesOn w h K := by
  refine CGm_of2 (by decide) (by decide) trivial (Nat.le_of_ble_eq_true rfl) ?_
  exact T
theorem l_X12_qGoesOn_0 {w : Wd} {h : Hp} {K : Int → Hp → Prop} (T : (inR (h 68 5)) ∧ ((((h 68 5) ≠ 0) → (L_X12_qGoesOn_122 w h K)) ∧ (¬ ((h 68 5) ≠ 0) → (C_X12_look w h (fun r2 h3 => (inR r2) ∧ (((r2 ≠ 41) → (L_X12_qGoesOn_122 w h3 K)) ∧ (¬ (r2 ≠ 41) → (C_X12_qBracket w h3 (fun r6 h7 => (inR r6) ∧ (((r6 = 20) → (L_X12_qGoesOn_43 w h7 K)) ∧ (¬ (r6 = 20) → (C_X12_qBracket w h7 (fun r10 h11 => (inR r10) ∧ (((r10 = 23) → (L_X12_qGoesOn_43 w h11 K)) ∧ (¬ (r10 = 23) → (C_X12_qBracket w h11 (fun r14 h15 => (inR r14) ∧ (((r14 ≠ 24) → (L_X12_qGoesOn_122 w h15 K)) ∧ (¬ (r14 ≠ 24) → (L_X12_qGoesOn_43 w h15 K)))))))))))))))))))) : L_X12_qGoesOn_0 w h K := by
  unfold L_X12_qGoesOn_0
  refine J_aload_n 1 rfl 0 0 rfl ⟨by decide, by decide⟩ (D_X12_qGoesOn_0.at 0 rfl) ?_
  refine J_getI (z := (h 68 5)) 4 rfl fl_12_227 rfl ob_68 (Ob.lt ob_68) (D_X12_qGoesOn_0.at 1 rfl) rfl ?_
  obtain ⟨s1, T⟩ := T
  refine J_if_ne 7 rfl 122 s1 (D_X12_qGoesOn_0.at 2 rfl) (by decide) (fun c22 => ?_) (fun c22 => ?_)
  · replace T := T.1 c22
    exact T
  replace T := T.2 c22
  refine J_aload_n 8 rfl 0 0 rfl ⟨by decide, by decide⟩ (D_X12_qGoesOn_0.at 3 rfl) ?_
  refine J_callV (d' := 1) (sr := fun z => [vI z]) (as := []) (st := []) (o := 68) 11 rfl ok_X12_look im_X12_look se_X12_look ml_12_239 isC_12 ob_68 (Ob.lt ob_68) rfl (by decide) ⟨Nat.le_refl _, Nat.le_refl _⟩ (Nat.le_of_ble_eq_true rfl) (D_X12_qGoesOn_0.at 4 rfl) (fun _ => rfl) T (fun r2 h3 T b4 => ?_)
  refine J_bipush 13 rfl ⟨by decide, by decide⟩ (D_X12_qGoesOn_0.at 5 rfl) ?_
  obtain ⟨s5, T⟩ := T
  refine J_icmp_ne 16 rfl 122 s5 ⟨by decide, by decide⟩ (D_X12_qGoesOn_0.at 6 rfl) (by decide) (fun c21 => ?_) (fun c21 => ?_)
  · replace T := T.1 c21
    exact T
  replace T := T.2 c21
  refine J_aload_n 17 rfl 0 0 rfl ⟨by decide, by decide⟩ (D_X12_qGoesOn_0.at 7 rfl) ?_
  refine J_callV (d' := 2) (sr := fun z => [vI z]) (as := []) (st := []) (o := 68) 20 rfl ok_X12_qBracket im_X12_qBracket se_X12_qBracket ml_12_610 isC_12 ob_68 (Ob.lt ob_68) rfl (by decide) ⟨Nat.le_refl _, Nat.le_refl _⟩ (Nat.le_of_ble_eq_true rfl) (D_X12_qGoesOn_0.at 8 rfl) (fun _ => rfl) T (fun r6 h7 T b8 => ?_)
  refine J_bipush 22 rfl ⟨by decide, by decide⟩ (D_X12_qGoesOn_0.at 9 rfl) ?_
  obtain ⟨s9, T⟩ := T
  refine J_icmp_eq 25 rfl 43 s9 ⟨by decide, by decide⟩ (D_X12_qGoesOn_0.at 10 rfl) (by decide) (fun c20 => ?_) (fun c20 => ?_)
  · replace T := T.1 c20
    exact T
  replace T := T.2 c20
  refine J_aload_n 26 rfl 0 0 rfl ⟨by decide, by decide⟩ (D_X12_qGoesOn_0.at 11 rfl) ?_
  refine J_callV (d' := 2) (sr := fun z => [vI z]) (as := []) (st := []) (o := 68) 29 rfl ok_X12_qBracket im_X12_qBracket se_X12_qBracket ml_12_610 isC_12 ob_68 (Ob.lt ob_68) rfl (by decide) ⟨Nat.le_refl _, Nat.le_refl _⟩ (Nat.le_of_ble_eq_true rfl) (D_X12_qGoesOn_0.at 12 rfl) (fun _ => rfl) T (fun r10 h11 T b12 => ?_)
  refine J_bipush 31 rfl ⟨by decide, by decide⟩ (D_X12_qGoesOn_0.at 13 rfl) ?_
  obtain ⟨s13, T⟩ := T
  refine J_icmp_eq 34 rfl 43 s13 ⟨by decide, by decide⟩ (D_X12_qGoesOn_0.at 14 rfl) (by decide) (fun c19 => ?_) (fun c19 => ?_)
  · replace T := T.1 c19
    exact T
  replace T := T.2 c19
  refine J_aload_n 35 rfl 0 0 rfl ⟨by decide, by decide⟩ (D_X12_qGoesOn_0.at 15 rfl) ?_
  refine J_callV (d' := 2) (sr := fun z => [vI z]) (as := []) (st := []) (o := 68) 38 rfl ok_X12_qBracket im_X12_qBracket se_X12_qBracket ml_12_610 isC_12 ob_68 (Ob.lt ob_68) rfl (by decide) ⟨Nat.le_refl _, Nat.le_refl _⟩ (Nat.le_of_ble_eq_true rfl) (D_X12_qGoesOn_0.at 16 rfl) (fun _ => rfl) T (fun r14 h15 T b16 => ?_)
  refine J_bipush 40 rfl ⟨by decide, by decide⟩ (D_X12_qGoesOn_0.at 17 rfl) ?_
  obtain ⟨s17, T⟩ := T
  refine J_icmp_ne 43 rfl 122 s17 ⟨by decide, by decide⟩ (D_X12_qGoesOn_0.at 18 rfl) (by decide) (fun c18 => ?_) (fun c18 => ?_)
  · replace T := T.1 c18
    exact T
  replace T := T.2 c18
  exact T
theorem l_X12_qGoesOn_43 {w : Wd} {h : Hp} {K : Int → Hp → Prop} (T : ∀ h23 : Hp, h23 = hu h 68 2 ((h 68 2) + 1) → C_X12_qDropsToBracket w h23 (fun _ h26 => ∀ h28 : Hp, h28 = hu h26 68 89 ((h26 68 89) - 1) → ∀ h30 : Hp, h30 = hu h28 68 90 ((h28 68 90) - 1) → (0 ≤ (h30 68 89) ∧ (h30 68 89) < 1700) ∧ ((inR (h30 134 (h30 68 89))) ∧ ((((h30 134 (h30 68 89)) = 20) → (L_X12_qGoesOn_115 w h30 K)) ∧ (¬ ((h30 134 (h30 68 89)) = 20) → ((0 ≤ (h30 68 89) ∧ (h30 68 89) < 1700) ∧ ((inR (h30 134 (h30 68 89))) ∧ ((((h30 134 (h30 68 89)) ≠ 23) → (C_X12_qCode w 6 h30 (fun _ h37 => L_X12_qGoesOn_115 w h37 K))) ∧ (¬ ((h30 134 (h30 68 89)) ≠ 23) → (C_X12_qCode w 5 h30 (fun _ h40 => L_X12_qGoesOn_115 w h40 K))))))))))) : L_X12_qGoesOn_43 w h K := by
  unfold L_X12_qGoesOn_43
  refine J_aload_n 44 rfl 0 0 rfl ⟨by decide, by decide⟩ (D_X12_qGoesOn_0.at 19 rfl) ?_
  refine J_dup 45 rfl rfl (D_X12_qGoesOn_0.at 20 rfl) ?_
  refine J_getI (z := (h 68 2)) 48 rfl fl_12_233 rfl ob_68 (Ob.lt ob_68) (D_X12_qGoesOn_0.at 21 rfl) rfl ?_
  refine J_iconst 49 rfl (D_X12_qGoesOn_0.at 22 rfl) ?_
  refine J_iadd 50 rfl (D_X12_qGoesOn_0.at 23 rfl) ?_
  refine J_putI 53 rfl fl_12_233 rfl rfl ob_68 (Ob.lt ob_68) (D_X12_qGoesOn_0.at 24 rfl) (fun h23 e24 => ?_)
  replace T := T h23 e24
  refine J_aload_n 54 rfl 0 0 rfl ⟨by decide, by decide⟩ (D_X12_qGoesOn_0.at 25 rfl) ?_
  refine J_callV (d' := 3) (sr := fun z => []) (as := []) (st := []) (o := 68) 57 rfl ok_X12_qDropsToBracket im_X12_qDropsToBracket se_X12_qDropsToBracket ml_12_613 isC_12 ob_68 (Ob.lt ob_68) rfl (by decide) ⟨Nat.le_refl _, Nat.le_refl _⟩ (Nat.le_of_ble_eq_true rfl) (D_X12_qGoesOn_0.at 26 rfl) (fun _ => rfl) T (fun r25 h26 T b27 => ?_)
  refine J_aload_n 58 rfl 0 0 rfl ⟨by decide, by decide⟩ (D_X12_qGoesOn_0.at 27 rfl) ?_
  refine J_dup 59 rfl rfl (D_X12_qGoesOn_0.at 28 rfl) ?_
  refine J_getI (z := (h26 68 89)) 62 rfl fl_12_580 rfl ob_68 (Ob.lt ob_68) (D_X12_qGoesOn_0.at 29 rfl) rfl ?_
  refine J_iconst 63 rfl (D_X12_qGoesOn_0.at 30 rfl) ?_
  refine J_isub 64 rfl (D_X12_qGoesOn_0.at 31 rfl) ?_
  refine J_putI 67 rfl fl_12_580 rfl rfl ob_68 (Ob.lt ob_68) (D_X12_qGoesOn_0.at 32 rfl) (fun h28 e29 => ?_)
  replace T := T h28 e29
  refine J_aload_n 68 rfl 0 0 rfl ⟨by decide, by decide⟩ (D_X12_qGoesOn_0.at 33 rfl) ?_
  refine J_dup 69 rfl rfl (D_X12_qGoesOn_0.at 34 rfl) ?_
  refine J_getI (z := (h28 68 90)) 72 rfl fl_12_577 rfl ob_68 (Ob.lt ob_68) (D_X12_qGoesOn_0.at 35 rfl) rfl ?_
  refine J_iconst 73 rfl (D_X12_qGoesOn_0.at 36 rfl) ?_
  refine J_isub 74 rfl (D_X12_qGoesOn_0.at 37 rfl) ?_
  refine J_putI 77 rfl fl_12_577 rfl rfl ob_68 (Ob.lt ob_68) (D_X12_qGoesOn_0.at 38 rfl) (fun h30 e31 => ?_)
  replace T := T h30 e31
  refine J_aload_n 78 rfl 0 0 rfl ⟨by decide, by decide⟩ (D_X12_qGoesOn_0.at 39 rfl) ?_
  refine J_getF (ov := 134) (dd := 1066) 81 rfl fl_12_215 rfl (by decide) rfl ob_68 (Ob.lt ob_68) (D_X12_qGoesOn_0.at 40 rfl) ?_
  refine J_aload_n 82 rfl 0 0 rfl ⟨by decide, by decide⟩ (D_X12_qGoesOn_0.at 41 rfl) ?_
  refine J_getI (z := (h30 68 89)) 85 rfl fl_12_580 rfl ob_68 (Ob.lt ob_68) (D_X12_qGoesOn_0.at 42 rfl) rfl ?_
  obtain ⟨s32, T⟩ := T
  refine J_iald 86 rfl ar_134 (Ar.lt ar_134) s32 (D_X12_qGoesOn_0.at 43 rfl) ?_
  refine J_bipush 88 rfl ⟨by decide, by decide⟩ (D_X12_qGoesOn_0.at 44 rfl) ?_
  obtain ⟨s33, T⟩ := T
  refine J_icmp_eq 91 rfl 115 s33 ⟨by decide, by decide⟩ (D_X12_qGoesOn_0.at 45 rfl) (by decide) (fun c43 => ?_) (fun c43 => ?_)
  · replace T := T.1 c43
    exact T
  replace T := T.2 c43
  refine J_aload_n 92 rfl 0 0 rfl ⟨by decide, by decide⟩ (D_X12_qGoesOn_0.at 46 rfl) ?_
  refine J_aload_n 93 rfl 0 0 rfl ⟨by decide, by decide⟩ (D_X12_qGoesOn_0.at 47 rfl) ?_
  refine J_getF (ov := 134) (dd := 1066) 96 rfl fl_12_215 rfl (by decide) rfl ob_68 (Ob.lt ob_68) (D_X12_qGoesOn_1.at 0 rfl) ?_
  refine J_aload_n 97 rfl 0 0 rfl ⟨by decide, by decide⟩ (D_X12_qGoesOn_1.at 1 rfl) ?_
  refine J_getI (z := (h30 68 89)) 100 rfl fl_12_580 rfl ob_68 (Ob.lt ob_68) (D_X12_qGoesOn_1.at 2 rfl) rfl ?_
  obtain ⟨s34, T⟩ := T
  refine J_iald 101 rfl ar_134 (Ar.lt ar_134) s34 (D_X12_qGoesOn_1.at 3 rfl) ?_
  refine J_bipush 103 rfl ⟨by decide, by decide⟩ (D_X12_qGoesOn_1.at 4 rfl) ?_
  obtain ⟨s35, T⟩ := T
  refine J_icmp_ne 106 rfl 110 s35 ⟨by decide, by decide⟩ (D_X12_qGoesOn_1.at 5 rfl) (by decide) (fun c42 => ?_) (fun c42 => ?_)
  · replace T := T.1 c42
    refine J_bipush 112 rfl ⟨by decide, by decide⟩ (D_X12_qGoesOn_1.at 8 rfl) ?_
    refine J_callV (d' := 1) (sr := fun z => []) (as := [vI 6]) (st := []) (o := 68) 115 rfl ok_X12_qCode im_X12_qCode se_X12_qCode ml_12_583 isC_12 ob_68 (Ob.lt ob_68) rfl (by decide) ⟨Nat.le_refl _, Nat.le_refl _⟩ (Nat.le_of_ble_eq_true rfl) (D_X12_qGoesOn_1.at 9 rfl) (fun _ => rfl) T (fun r36 h37 T b38 => ?_)
    exact T
  replace T := T.2 c42
  refine J_iconst 107 rfl (D_X12_qGoesOn_1.at 6 rfl) ?_
  refine J_goto 112 (D_X12_qGoesOn_1.at 7 rfl) (by decide) ?_
  refine J_callV (d' := 1) (sr := fun z => []) (as := [vI 5]) (st := []) (o := 68) 115 rfl ok_X12_qCode im_X12_qCode se_X12_qCode ml_12_583 isC_12 ob_68 (Ob.lt ob_68) rfl (by decide) ⟨Nat.le_refl _, Nat.le_refl _⟩ (Nat.le_of_ble_eq_true rfl) (D_X12_qGoesOn_1.at 9 rfl) (fun _ => rfl) T (fun r39 h40 T b41 => ?_)
  exact T
theorem l_X12_qGoesOn_115 {w : Wd} {h : Hp} {K : Int → Hp → Prop} (T : C_X12_qEndsPart w h (fun _ h45 => L_X12_qGoesOn_0 w h45 K)) : L_X12_qGoesOn_115 w h K := by
  unfold L_X12_qGoesOn_115
  refine J_aload_n 116 rfl 0 0 rfl ⟨by decide, by decide⟩ (D_X12_qGoesOn_1.at 10 rfl) ?_
  refine J_callV (d' := 3) (sr := fun z => []) (as := []) (st := []) (o := 68) 119 rfl ok_X12_qEndsPart im_X12_qEndsPart se_X12_qEndsPart ml_12_607 isC_12 ob_68 (Ob.lt ob_68) rfl (by decide) ⟨Nat.le_refl _, Nat.le_refl _⟩ (Nat.le_of_ble_eq_true rfl) (D_X12_qGoesOn_1.at 11 rfl) (fun _ => rfl) T (fun r44 h45 T b46 => ?_)
  refine J_goto 0 (D_X12_qGoesOn_1.at 12 rfl) (by decide) ?_
  exact T
theorem l_X12_qGoesOn_122 {w : Wd} {h : Hp} {K : Int → Hp → Prop} (T : C_X12_takesSign w 42 h (fun r47 h48 => (r47 = 0 ∨ r47 = 1) → ((r47 ≠ 0) → (L_X12_qGoesOn_140 w h48 K)) ∧ (¬ (r47 ≠ 0) → (C_X12_takesSign w 47 h48 (fun r50 h51 => (r50 = 0 ∨ r50 = 1) → ((r50 = 0) → (C_X12_takesSign w 43 h51 (fun r53 h54 => (r53 = 0 ∨ r53 = 1) → ((r53 ≠ 0) → (L_X12_qGoesOn_225 w h54 K)) ∧ (¬ (r53 ≠ 0) → (C_X12_takesSign w 45 h54 (fun r56 h57 => (r56 = 0 ∨ r56 = 1) → ((r56 = 0) → (C_X12_qBracket w h57 (fun r59 h60 => (inR r59) ∧ (((r59 = 21) → (L_X12_qGoesOn_326 w h60 K)) ∧ (¬ (r59 = 21) → (C_X12_qBracket w h60 (fun r63 h64 => (inR r63) ∧ (((r63 ≠ 22) → (C_X12_qBracket w h64 (fun r67 h68 => (inR r67) ∧ (((r67 = (-1)) → (L_X12_qGoesOn_386 w h68 K)) ∧ (¬ (r67 = (-1)) → ((inR (h68 68 5)) ∧ ((((h68 68 5) ≠ 0) → (L_X12_qGoesOn_386 w h68 K)) ∧ (¬ ((h68 68 5) ≠ 0) → (C_X12_fail w 1 (h68 68 2) h68 (fun _ h73 => L_X12_qGoesOn_386 w h73 K)))))))))) ∧ (¬ (r63 ≠ 22) → (L_X12_qGoesOn_326 w h64 K)))))))))) ∧ (¬ (r56 = 0) → (L_X12_qGoesOn_225 w h57 K)))))))) ∧ (¬ (r50 = 0) → (L_X12_qGoesOn_140 w h51 K))))))) : L_X12_qGoesOn_122 w h K := by
  unfold L_X12_qGoesOn_122
  refine J_aload_n 123 rfl 0 0 rfl ⟨by decide, by decide⟩ (D_X12_qGoesOn_1.at 13 rfl) ?_
  refine J_bipush 125 rfl ⟨by decide, by decide⟩ (D_X12_qGoesOn_1.at 14 rfl) ?_
  refine J_callV (d' := 2) (sr := fun z => [vI z]) (as := [vI 42]) (st := []) (o := 68) 128 rfl ok_X12_takesSign im_X12_takesSign se_X12_takesSign ml_12_261 isC_12 ob_68 (Ob.lt ob_68) rfl (by decide) ⟨Nat.le_refl _, Nat.le_refl _⟩ (Nat.le_of_ble_eq_true rfl) (D_X12_qGoesOn_1.at 15 rfl) (fun _ => rfl) T (fun r47 h48 T b49 => ?_)
  replace T := T b49
  refine J_if_ne 131 rfl 140 (inR_b b49) (D_X12_qGoesOn_1.at 16 rfl) (by decide) (fun c82 => ?_) (fun c82 => ?_)
  · replace T := T.1 c82
    exact T
  replace T := T.2 c82
  refine J_aload_n 132 rfl 0 0 rfl ⟨by decide, by decide⟩ (D_X12_qGoesOn_1.at 17 rfl) ?_
  refine J_bipush 134 rfl ⟨by decide, by decide⟩ (D_X12_qGoesOn_1.at 18 rfl) ?_
  refine J_callV (d' := 2) (sr := fun z => [vI z]) (as := [vI 47]) (st := []) (o := 68) 137 rfl ok_X12_takesSign im_X12_takesSign se_X12_takesSign ml_12_261 isC_12 ob_68 (Ob.lt ob_68) rfl (by decide) ⟨Nat.le_refl _, Nat.le_refl _⟩ (Nat.le_of_ble_eq_true rfl) (D_X12_qGoesOn_1.at 19 rfl) (fun _ => rfl) T (fun r50 h51 T b52 => ?_)
  replace T := T b52
  refine J_if_eq 140 rfl 207 (inR_b b52) (D_X12_qGoesOn_1.at 20 rfl) (by decide) (fun c81 => ?_) (fun c81 => ?_)
  · replace T := T.1 c81
    refine J_aload_n 208 rfl 0 0 rfl ⟨by decide, by decide⟩ (D_X12_qGoesOn_2.at 11 rfl) ?_
    refine J_bipush 210 rfl ⟨by decide, by decide⟩ (D_X12_qGoesOn_2.at 12 rfl) ?_
    refine J_callV (d' := 2) (sr := fun z => [vI z]) (as := [vI 43]) (st := []) (o := 68) 213 rfl ok_X12_takesSign im_X12_takesSign se_X12_takesSign ml_12_261 isC_12 ob_68 (Ob.lt ob_68) rfl (by decide) ⟨Nat.le_refl _, Nat.le_refl _⟩ (Nat.le_of_ble_eq_true rfl) (D_X12_qGoesOn_2.at 13 rfl) (fun _ => rfl) T (fun r53 h54 T b55 => ?_)
    replace T := T b55
    refine J_if_ne 216 rfl 225 (inR_b b55) (D_X12_qGoesOn_2.at 14 rfl) (by decide) (fun c80 => ?_) (fun c80 => ?_)
    · replace T := T.1 c80
      exact T
    replace T := T.2 c80
    refine J_aload_n 217 rfl 0 0 rfl ⟨by decide, by decide⟩ (D_X12_qGoesOn_2.at 15 rfl) ?_
    refine J_bipush 219 rfl ⟨by decide, by decide⟩ (D_X12_qGoesOn_2.at 16 rfl) ?_
    refine J_callV (d' := 2) (sr := fun z => [vI z]) (as := [vI 45]) (st := []) (o := 68) 222 rfl ok_X12_takesSign im_X12_takesSign se_X12_takesSign ml_12_261 isC_12 ob_68 (Ob.lt ob_68) rfl (by decide) ⟨Nat.le_refl _, Nat.le_refl _⟩ (Nat.le_of_ble_eq_true rfl) (D_X12_qGoesOn_2.at 17 rfl) (fun _ => rfl) T (fun r56 h57 T b58 => ?_)
    replace T := T b58
    refine J_if_eq 225 rfl 308 (inR_b b58) (D_X12_qGoesOn_2.at 18 rfl) (by decide) (fun c79 => ?_) (fun c79 => ?_)
    · replace T := T.1 c79
      refine J_aload_n 309 rfl 0 0 rfl ⟨by decide, by decide⟩ (D_X12_qGoesOn_3.at 17 rfl) ?_
      refine J_callV (d' := 2) (sr := fun z => [vI z]) (as := []) (st := []) (o := 68) 312 rfl ok_X12_qBracket im_X12_qBracket se_X12_qBracket ml_12_610 isC_12 ob_68 (Ob.lt ob_68) rfl (by decide) ⟨Nat.le_refl _, Nat.le_refl _⟩ (Nat.le_of_ble_eq_true rfl) (D_X12_qGoesOn_3.at 18 rfl) (fun _ => rfl) T (fun r59 h60 T b61 => ?_)
      refine J_bipush 314 rfl ⟨by decide, by decide⟩ (D_X12_qGoesOn_3.at 19 rfl) ?_
      obtain ⟨s62, T⟩ := T
      refine J_icmp_eq 317 rfl 326 s62 ⟨by decide, by decide⟩ (D_X12_qGoesOn_3.at 20 rfl) (by decide) (fun c78 => ?_) (fun c78 => ?_)
      · replace T := T.1 c78
        exact T
      replace T := T.2 c78
      refine J_aload_n 318 rfl 0 0 rfl ⟨by decide, by decide⟩ (D_X12_qGoesOn_3.at 21 rfl) ?_
      refine J_callV (d' := 2) (sr := fun z => [vI z]) (as := []) (st := []) (o := 68) 321 rfl ok_X12_qBracket im_X12_qBracket se_X12_qBracket ml_12_610 isC_12 ob_68 (Ob.lt ob_68) rfl (by decide) ⟨Nat.le_refl _, Nat.le_refl _⟩ (Nat.le_of_ble_eq_true rfl) (D_X12_qGoesOn_3.at 22 rfl) (fun _ => rfl) T (fun r63 h64 T b65 => ?_)
      refine J_bipush 323 rfl ⟨by decide, by decide⟩ (D_X12_qGoesOn_3.at 23 rfl) ?_
      obtain ⟨s66, T⟩ := T
      refine J_icmp_ne 326 rfl 362 s66 ⟨by decide, by decide⟩ (D_X12_qGoesOn_3.at 24 rfl) (by decide) (fun c77 => ?_) (fun c77 => ?_)
      · replace T := T.1 c77
        refine J_aload_n 363 rfl 0 0 rfl ⟨by decide, by decide⟩ (D_X12_qGoesOn_4.at 0 rfl) ?_
        refine J_callV (d' := 2) (sr := fun z => [vI z]) (as := []) (st := []) (o := 68) 366 rfl ok_X12_qBracket im_X12_qBracket se_X12_qBracket ml_12_610 isC_12 ob_68 (Ob.lt ob_68) rfl (by decide) ⟨Nat.le_refl _, Nat.le_refl _⟩ (Nat.le_of_ble_eq_true rfl) (D_X12_qGoesOn_4.at 1 rfl) (fun _ => rfl) T (fun r67 h68 T b69 => ?_)
        refine J_iconst 367 rfl (D_X12_qGoesOn_4.at 2 rfl) ?_
        obtain ⟨s70, T⟩ := T
        refine J_icmp_eq 370 rfl 386 s70 ⟨by decide, by decide⟩ (D_X12_qGoesOn_4.at 3 rfl) (by decide) (fun c76 => ?_) (fun c76 => ?_)
        · replace T := T.1 c76
          exact J_sub (lv' := []) [] rfl T
        replace T := T.2 c76
        refine J_aload_n 371 rfl 0 0 rfl ⟨by decide, by decide⟩ (D_X12_qGoesOn_4.at 4 rfl) ?_
        refine J_getI (z := (h68 68 5)) 374 rfl fl_12_227 rfl ob_68 (Ob.lt ob_68) (D_X12_qGoesOn_4.at 5 rfl) rfl ?_
        obtain ⟨s71, T⟩ := T
        refine J_if_ne 377 rfl 386 s71 (D_X12_qGoesOn_4.at 6 rfl) (by decide) (fun c75 => ?_) (fun c75 => ?_)
        · replace T := T.1 c75
          exact J_sub (lv' := []) [] rfl T
        replace T := T.2 c75
        refine J_aload_n 378 rfl 0 0 rfl ⟨by decide, by decide⟩ (D_X12_qGoesOn_4.at 7 rfl) ?_
        refine J_iconst 379 rfl (D_X12_qGoesOn_4.at 8 rfl) ?_
        refine J_aload_n 380 rfl 0 0 rfl ⟨by decide, by decide⟩ (D_X12_qGoesOn_4.at 9 rfl) ?_
        refine J_getI (z := (h68 68 2)) 383 rfl fl_12_233 rfl ob_68 (Ob.lt ob_68) (D_X12_qGoesOn_4.at 10 rfl) rfl ?_
        refine J_callV (d' := 1) (sr := fun z => []) (as := [vI 1, vI (h68 68 2)]) (st := []) (o := 68) 386 rfl ok_X12_fail im_X12_fail se_X12_fail ml_12_257 isC_12 ob_68 (Ob.lt ob_68) rfl (by decide) ⟨Nat.le_refl _, Nat.le_refl _⟩ (Nat.le_of_ble_eq_true rfl) (D_X12_qGoesOn_4.at 11 rfl) (fun _ => rfl) T (fun r72 h73 T b74 => ?_)
        exact J_sub (lv' := []) [] rfl T
      replace T := T.2 c77
      exact T
    replace T := T.2 c79
    exact T
  replace T := T.2 c81
  exact T
theorem l_X12_qGoesOn_386 {w : Wd} {h : Hp} {K : Int → Hp → Prop} (T : K 0 h) : L_X12_qGoesOn_386 w h K := by
  unfold L_X12_qGoesOn_386
  refine J_iconst 387 rfl (D_X12_qGoesOn_4.at 12 rfl) ?_
  exact J_zret rfl (Or.inl rfl) (D_X12_qGoesOn_4.at 13 rfl) T
theorem l_X12_qGoesOn_326 {w : Wd} {h : Hp} {K : Int → Hp → Prop} (T : C_X12_asksSign w 44 h (fun _ h84 => (inR (h84 68 5)) ∧ ((((h84 68 5) = 0) → (C_X12_qDropsToBracket w h84 (fun _ h88 => (0 ≤ ((h88 68 89) - 1) ∧ ((h88 68 89) - 1) < 1700) ∧ ((0 ≤ ((h88 68 89) - 1) ∧ ((h88 68 89) - 1) < 1700) ∧ (∀ h92 : Hp, h92 = hu h88 134 ((h88 68 89) - 1) ((h88 134 ((h88 68 89) - 1)) + 2) → K 1 h92))))) ∧ (¬ ((h84 68 5) = 0) → (K 0 h84))))) : L_X12_qGoesOn_326 w h K := by
  unfold L_X12_qGoesOn_326
  refine J_aload_n 327 rfl 0 0 rfl ⟨by decide, by decide⟩ (D_X12_qGoesOn_3.at 25 rfl) ?_
  refine J_bipush 329 rfl ⟨by decide, by decide⟩ (D_X12_qGoesOn_3.at 26 rfl) ?_
  refine J_callV (d' := 3) (sr := fun z => []) (as := [vI 44]) (st := []) (o := 68) 332 rfl ok_X12_asksSign im_X12_asksSign se_X12_asksSign ml_12_344 isC_12 ob_68 (Ob.lt ob_68) rfl (by decide) ⟨Nat.le_refl _, Nat.le_refl _⟩ (Nat.le_of_ble_eq_true rfl) (D_X12_qGoesOn_3.at 27 rfl) (fun _ => rfl) T (fun r83 h84 T b85 => ?_)
  refine J_aload_n 333 rfl 0 0 rfl ⟨by decide, by decide⟩ (D_X12_qGoesOn_3.at 28 rfl) ?_
  refine J_getI (z := (h84 68 5)) 336 rfl fl_12_227 rfl ob_68 (Ob.lt ob_68) (D_X12_qGoesOn_3.at 29 rfl) rfl ?_
  obtain ⟨s86, T⟩ := T
  refine J_if_eq 339 rfl 341 s86 (D_X12_qGoesOn_3.at 30 rfl) (by decide) (fun c94 => ?_) (fun c94 => ?_)
  · replace T := T.1 c94
    refine J_aload_n 342 rfl 0 0 rfl ⟨by decide, by decide⟩ (D_X12_qGoesOn_3.at 33 rfl) ?_
    refine J_callV (d' := 3) (sr := fun z => []) (as := []) (st := []) (o := 68) 345 rfl ok_X12_qDropsToBracket im_X12_qDropsToBracket se_X12_qDropsToBracket ml_12_613 isC_12 ob_68 (Ob.lt ob_68) rfl (by decide) ⟨Nat.le_refl _, Nat.le_refl _⟩ (Nat.le_of_ble_eq_true rfl) (D_X12_qGoesOn_3.at 34 rfl) (fun _ => rfl) T (fun r87 h88 T b89 => ?_)
    refine J_aload_n 346 rfl 0 0 rfl ⟨by decide, by decide⟩ (D_X12_qGoesOn_3.at 35 rfl) ?_
    refine J_getF (ov := 134) (dd := 1066) 349 rfl fl_12_215 rfl (by decide) rfl ob_68 (Ob.lt ob_68) (D_X12_qGoesOn_3.at 36 rfl) ?_
    refine J_aload_n 350 rfl 0 0 rfl ⟨by decide, by decide⟩ (D_X12_qGoesOn_3.at 37 rfl) ?_
    refine J_getI (z := (h88 68 89)) 353 rfl fl_12_580 rfl ob_68 (Ob.lt ob_68) (D_X12_qGoesOn_3.at 38 rfl) rfl ?_
    refine J_iconst 354 rfl (D_X12_qGoesOn_3.at 39 rfl) ?_
    refine J_isub 355 rfl (D_X12_qGoesOn_3.at 40 rfl) ?_
    refine J_dup2 356 rfl rfl rfl (D_X12_qGoesOn_3.at 41 rfl) ?_
    obtain ⟨s90, T⟩ := T
    refine J_iald 357 rfl ar_134 (Ar.lt ar_134) s90 (D_X12_qGoesOn_3.at 42 rfl) ?_
    refine J_iconst 358 rfl (D_X12_qGoesOn_3.at 43 rfl) ?_
    refine J_iadd 359 rfl (D_X12_qGoesOn_3.at 44 rfl) ?_
    obtain ⟨s91, T⟩ := T
    refine J_iastH 360 rfl ar_134 (Ar.lt ar_134) s91 trivial (D_X12_qGoesOn_3.at 45 rfl) (fun h92 e93 => ?_)
    replace T := T h92 e93
    refine J_iconst 361 rfl (D_X12_qGoesOn_3.at 46 rfl) ?_
    exact J_zret rfl (Or.inr rfl) (D_X12_qGoesOn_3.at 47 rfl) T
  replace T := T.2 c94
  refine J_iconst 340 rfl (D_X12_qGoesOn_3.at 31 rfl) ?_
  exact J_zret rfl (Or.inl rfl) (D_X12_qGoesOn_3.at 32 rfl) T
theorem l_X12_qGoesOn_225 {w : Wd} {h : Hp} {K : Int → Hp → Prop} (T : (0 ≤ ((h 68 2) - 1) ∧ ((h 68 2) - 1) < 1600) ∧ ((inR (h 69 ((h 68 2) - 1))) ∧ ((((h 69 ((h 68 2) - 1)) ≠ 43) → (L_X12_qGoesOn_247 w 2 h K)) ∧ (¬ ((h 69 ((h 68 2) - 1)) ≠ 43) → (L_X12_qGoesOn_247 w 1 h K))))) : L_X12_qGoesOn_225 w h K := by
  unfold L_X12_qGoesOn_225
  refine J_aload_n 226 rfl 0 0 rfl ⟨by decide, by decide⟩ (D_X12_qGoesOn_2.at 19 rfl) ?_
  refine J_getF (ov := 69) (dd := 1001) 229 rfl fl_12_7 rfl (by decide) rfl ob_68 (Ob.lt ob_68) (D_X12_qGoesOn_2.at 20 rfl) ?_
  refine J_aload_n 230 rfl 0 0 rfl ⟨by decide, by decide⟩ (D_X12_qGoesOn_2.at 21 rfl) ?_
  refine J_getI (z := (h 68 2)) 233 rfl fl_12_233 rfl ob_68 (Ob.lt ob_68) (D_X12_qGoesOn_2.at 22 rfl) rfl ?_
  refine J_iconst 234 rfl (D_X12_qGoesOn_2.at 23 rfl) ?_
  refine J_isub 235 rfl (D_X12_qGoesOn_2.at 24 rfl) ?_
  obtain ⟨s95, T⟩ := T
  refine J_iald 236 rfl ar_69 (Ar.lt ar_69) s95 (D_X12_qGoesOn_2.at 25 rfl) ?_
  refine J_bipush 238 rfl ⟨by decide, by decide⟩ (D_X12_qGoesOn_2.at 26 rfl) ?_
  obtain ⟨s96, T⟩ := T
  refine J_icmp_ne 241 rfl 245 s96 ⟨by decide, by decide⟩ (D_X12_qGoesOn_2.at 27 rfl) (by decide) (fun c97 => ?_) (fun c97 => ?_)
  · replace T := T.1 c97
    refine J_iconst 246 rfl (D_X12_qGoesOn_2.at 30 rfl) ?_
    refine J_istore_n (lv' := [(1, vI 2), (0, vR 68)]) 247 rfl 1 (by decide) rfl (D_X12_qGoesOn_2.at 31 rfl) ?_
    exact J_sub (lv' := [(0, vR 68), (1, vI 2)]) [1, 0] rfl T
  replace T := T.2 c97
  refine J_iconst 242 rfl (D_X12_qGoesOn_2.at 28 rfl) ?_
  refine J_goto 246 (D_X12_qGoesOn_2.at 29 rfl) (by decide) ?_
  refine J_istore_n (lv' := [(1, vI 1), (0, vR 68)]) 247 rfl 1 (by decide) rfl (D_X12_qGoesOn_2.at 31 rfl) ?_
  exact J_sub (lv' := [(0, vR 68), (1, vI 1)]) [1, 0] rfl T
theorem l_X12_qGoesOn_247 {w : Wd} {v1 : Int} {h : Hp} {K : Int → Hp → Prop} (T : C_X12_qIsOn w 3 h (fun r98 h99 => (r98 = 0 ∨ r98 = 1) → ((r98 ≠ 0) → (L_X12_qGoesOn_279 w v1 h99 K)) ∧ (¬ (r98 ≠ 0) → (C_X12_qIsOn w 4 h99 (fun r101 h102 => (r101 = 0 ∨ r101 = 1) → ((r101 ≠ 0) → (L_X12_qGoesOn_279 w v1 h102 K)) ∧ (¬ (r101 ≠ 0) → (C_X12_qIsOn w 1 h102 (fun r104 h105 => (r104 = 0 ∨ r104 = 1) → ((r104 ≠ 0) → (L_X12_qGoesOn_279 w v1 h105 K)) ∧ (¬ (r104 ≠ 0) → (C_X12_qIsOn w 2 h105 (fun r107 h108 => (r107 = 0 ∨ r107 = 1) → ((r107 = 0) → ((0 ≤ (h108 68 89) ∧ (h108 68 89) < 1700) ∧ (∀ h111 : Hp, h111 = hu h108 134 (h108 68 89) v1 → ∀ h113 : Hp, h113 = hu h111 68 89 ((h111 68 89) + 1) → K 1 h113))) ∧ (¬ (r107 = 0) → (L_X12_qGoesOn_279 w v1 h108 K))))))))))))) : L_X12_qGoesOn_247 w v1 h K := by
  unfold L_X12_qGoesOn_247
  refine J_aload_n 248 rfl 0 0 rfl ⟨by decide, by decide⟩ (D_X12_qGoesOn_2.at 32 rfl) ?_
  refine J_iconst 249 rfl (D_X12_qGoesOn_2.at 33 rfl) ?_
  refine J_callV (d' := 1) (sr := fun z => [vI z]) (as := [vI 3]) (st := []) (o := 68) 252 rfl ok_X12_qIsOn im_X12_qIsOn se_X12_qIsOn ml_12_616 isC_12 ob_68 (Ob.lt ob_68) rfl (by decide) ⟨Nat.le_refl _, Nat.le_refl _⟩ (Nat.le_of_ble_eq_true rfl) (D_X12_qGoesOn_2.at 34 rfl) (fun _ => rfl) T (fun r98 h99 T b100 => ?_)
  replace T := T b100
  refine J_if_ne 255 rfl 279 (inR_b b100) (D_X12_qGoesOn_2.at 35 rfl) (by decide) (fun c118 => ?_) (fun c118 => ?_)
  · replace T := T.1 c118
    exact T
  replace T := T.2 c118
  refine J_aload_n 256 rfl 0 0 rfl ⟨by decide, by decide⟩ (D_X12_qGoesOn_2.at 36 rfl) ?_
  refine J_iconst 257 rfl (D_X12_qGoesOn_2.at 37 rfl) ?_
  refine J_callV (d' := 1) (sr := fun z => [vI z]) (as := [vI 4]) (st := []) (o := 68) 260 rfl ok_X12_qIsOn im_X12_qIsOn se_X12_qIsOn ml_12_616 isC_12 ob_68 (Ob.lt ob_68) rfl (by decide) ⟨Nat.le_refl _, Nat.le_refl _⟩ (Nat.le_of_ble_eq_true rfl) (D_X12_qGoesOn_2.at 38 rfl) (fun _ => rfl) T (fun r101 h102 T b103 => ?_)
  replace T := T b103
  refine J_if_ne 263 rfl 279 (inR_b b103) (D_X12_qGoesOn_2.at 39 rfl) (by decide) (fun c117 => ?_) (fun c117 => ?_)
  · replace T := T.1 c117
    exact T
  replace T := T.2 c117
  refine J_aload_n 264 rfl 0 0 rfl ⟨by decide, by decide⟩ (D_X12_qGoesOn_2.at 40 rfl) ?_
  refine J_iconst 265 rfl (D_X12_qGoesOn_2.at 41 rfl) ?_
  refine J_callV (d' := 1) (sr := fun z => [vI z]) (as := [vI 1]) (st := []) (o := 68) 268 rfl ok_X12_qIsOn im_X12_qIsOn se_X12_qIsOn ml_12_616 isC_12 ob_68 (Ob.lt ob_68) rfl (by decide) ⟨Nat.le_refl _, Nat.le_refl _⟩ (Nat.le_of_ble_eq_true rfl) (D_X12_qGoesOn_2.at 42 rfl) (fun _ => rfl) T (fun r104 h105 T b106 => ?_)
  replace T := T b106
  refine J_if_ne 271 rfl 279 (inR_b b106) (D_X12_qGoesOn_2.at 43 rfl) (by decide) (fun c116 => ?_) (fun c116 => ?_)
  · replace T := T.1 c116
    exact T
  replace T := T.2 c116
  refine J_aload_n 272 rfl 0 0 rfl ⟨by decide, by decide⟩ (D_X12_qGoesOn_2.at 44 rfl) ?_
  refine J_iconst 273 rfl (D_X12_qGoesOn_2.at 45 rfl) ?_
  refine J_callV (d' := 1) (sr := fun z => [vI z]) (as := [vI 2]) (st := []) (o := 68) 276 rfl ok_X12_qIsOn im_X12_qIsOn se_X12_qIsOn ml_12_616 isC_12 ob_68 (Ob.lt ob_68) rfl (by decide) ⟨Nat.le_refl _, Nat.le_refl _⟩ (Nat.le_of_ble_eq_true rfl) (D_X12_qGoesOn_2.at 46 rfl) (fun _ => rfl) T (fun r107 h108 T b109 => ?_)
  replace T := T b109
  refine J_if_eq 279 rfl 286 (inR_b b109) (D_X12_qGoesOn_2.at 47 rfl) (by decide) (fun c115 => ?_) (fun c115 => ?_)
  · replace T := T.1 c115
    refine J_aload_n 287 rfl 0 0 rfl ⟨by decide, by decide⟩ (D_X12_qGoesOn_3.at 3 rfl) ?_
    refine J_getF (ov := 134) (dd := 1066) 290 rfl fl_12_215 rfl (by decide) rfl ob_68 (Ob.lt ob_68) (D_X12_qGoesOn_3.at 4 rfl) ?_
    refine J_aload_n 291 rfl 0 0 rfl ⟨by decide, by decide⟩ (D_X12_qGoesOn_3.at 5 rfl) ?_
    refine J_getI (z := (h108 68 89)) 294 rfl fl_12_580 rfl ob_68 (Ob.lt ob_68) (D_X12_qGoesOn_3.at 6 rfl) rfl ?_
    refine J_iload_n 295 rfl 1 1 rfl (D_X12_qGoesOn_3.at 7 rfl) ?_
    obtain ⟨s110, T⟩ := T
    refine J_iastH 296 rfl ar_134 (Ar.lt ar_134) s110 trivial (D_X12_qGoesOn_3.at 8 rfl) (fun h111 e112 => ?_)
    replace T := T h111 e112
    refine J_aload_n 297 rfl 0 0 rfl ⟨by decide, by decide⟩ (D_X12_qGoesOn_3.at 9 rfl) ?_
    refine J_dup 298 rfl rfl (D_X12_qGoesOn_3.at 10 rfl) ?_
    refine J_getI (z := (h111 68 89)) 301 rfl fl_12_580 rfl ob_68 (Ob.lt ob_68) (D_X12_qGoesOn_3.at 11 rfl) rfl ?_
    refine J_iconst 302 rfl (D_X12_qGoesOn_3.at 12 rfl) ?_
    refine J_iadd 303 rfl (D_X12_qGoesOn_3.at 13 rfl) ?_
    refine J_putI 306 rfl fl_12_580 rfl rfl ob_68 (Ob.lt ob_68) (D_X12_qGoesOn_3.at 14 rfl) (fun h113 e114 => ?_)
    replace T := T h113 e114
    refine J_iconst 307 rfl (D_X12_qGoesOn_3.at 15 rfl) ?_
    exact J_zret rfl (Or.inr rfl) (D_X12_qGoesOn_3.at 16 rfl) T
  replace T := T.2 c115
  exact T
theorem l_X12_qGoesOn_279 {w : Wd} {v1 : Int} {h : Hp} {K : Int → Hp → Prop} (T : C_X12_qDrops w h (fun _ h120 => L_X12_qGoesOn_247 w v1 h120 K)) : L_X12_qGoesOn_279 w v1 h K := by
  unfold L_X12_qGoesOn_279
  refine J_aload_n 280 rfl 0 0 rfl ⟨by decide, by decide⟩ (D_X12_qGoesOn_3.at 0 rfl) ?_
  refine J_callV (d' := 2) (sr := fun z => []) (as := []) (st := []) (o := 68) 283 rfl ok_X12_qDrops im_X12_qDrops se_X12_qDrops ml_12_592 isC_12 ob_68 (Ob.lt ob_68) rfl (by decide) ⟨Nat.le_refl _, Nat.le_refl _⟩ (Nat.le_of_ble_eq_true rfl) (D_X12_qGoesOn_3.at 1 rfl) (fun _ => rfl) T (fun r119 h120 T b121 => ?_)
  refine J_goto 247 (D_X12_qGoesOn_3.at 2 rfl) (by decide) ?_
  exact T
theorem l_X12_qGoesOn_140 {w : Wd} {h : Hp} {K : Int → Hp → Prop} (T : (0 ≤ ((h 68 2) - 1) ∧ ((h 68 2) - 1) < 1600) ∧ ((inR (h 69 ((h 68 2) - 1))) ∧ ((((h 69 ((h 68 2) - 1)) ≠ 42) → (L_X12_qGoesOn_162 w 4 h K)) ∧ (¬ ((h 69 ((h 68 2) - 1)) ≠ 42) → (L_X12_qGoesOn_162 w 3 h K))))) : L_X12_qGoesOn_140 w h K := by
  unfold L_X12_qGoesOn_140
  refine J_aload_n 141 rfl 0 0 rfl ⟨by decide, by decide⟩ (D_X12_qGoesOn_1.at 21 rfl) ?_
  refine J_getF (ov := 69) (dd := 1001) 144 rfl fl_12_7 rfl (by decide) rfl ob_68 (Ob.lt ob_68) (D_X12_qGoesOn_1.at 22 rfl) ?_
  refine J_aload_n 145 rfl 0 0 rfl ⟨by decide, by decide⟩ (D_X12_qGoesOn_1.at 23 rfl) ?_
  refine J_getI (z := (h 68 2)) 148 rfl fl_12_233 rfl ob_68 (Ob.lt ob_68) (D_X12_qGoesOn_1.at 24 rfl) rfl ?_
  refine J_iconst 149 rfl (D_X12_qGoesOn_1.at 25 rfl) ?_
  refine J_isub 150 rfl (D_X12_qGoesOn_1.at 26 rfl) ?_
  obtain ⟨s122, T⟩ := T
  refine J_iald 151 rfl ar_69 (Ar.lt ar_69) s122 (D_X12_qGoesOn_1.at 27 rfl) ?_
  refine J_bipush 153 rfl ⟨by decide, by decide⟩ (D_X12_qGoesOn_1.at 28 rfl) ?_
  obtain ⟨s123, T⟩ := T
  refine J_icmp_ne 156 rfl 160 s123 ⟨by decide, by decide⟩ (D_X12_qGoesOn_1.at 29 rfl) (by decide) (fun c124 => ?_) (fun c124 => ?_)
  · replace T := T.1 c124
    refine J_iconst 161 rfl (D_X12_qGoesOn_1.at 32 rfl) ?_
    refine J_istore_n (lv' := [(1, vI 4), (0, vR 68)]) 162 rfl 1 (by decide) rfl (D_X12_qGoesOn_1.at 33 rfl) ?_
    exact J_sub (lv' := [(0, vR 68), (1, vI 4)]) [1, 0] rfl T
  replace T := T.2 c124
  refine J_iconst 157 rfl (D_X12_qGoesOn_1.at 30 rfl) ?_
  refine J_goto 161 (D_X12_qGoesOn_1.at 31 rfl) (by decide) ?_
  refine J_istore_n (lv' := [(1, vI 3), (0, vR 68)]) 162 rfl 1 (by decide) rfl (D_X12_qGoesOn_1.at 33 rfl) ?_
  exact J_sub (lv' := [(0, vR 68), (1, vI 3)]) [1, 0] rfl T
theorem l_X12_qGoesOn_162 {w : Wd} {v1 : Int} {h : Hp} {K : Int → Hp → Prop} (T : C_X12_qIsOn w 3 h (fun r125 h126 => (r125 = 0 ∨ r125 = 1) → ((r125 ≠ 0) → (L_X12_qGoesOn_178 w v1 h126 K)) ∧ (¬ (r125 ≠ 0) → (C_X12_qIsOn w 4 h126 (fun r128 h129 => (r128 = 0 ∨ r128 = 1) → ((r128 = 0) → ((0 ≤ (h129 68 89) ∧ (h129 68 89) < 1700) ∧ (∀ h132 : Hp, h132 = hu h129 134 (h129 68 89) v1 → ∀ h134 : Hp, h134 = hu h132 68 89 ((h132 68 89) + 1) → K 1 h134))) ∧ (¬ (r128 = 0) → (L_X12_qGoesOn_178 w v1 h129 K))))))) : L_X12_qGoesOn_162 w v1 h K := by
  unfold L_X12_qGoesOn_162
  refine J_aload_n 163 rfl 0 0 rfl ⟨by decide, by decide⟩ (D_X12_qGoesOn_1.at 34 rfl) ?_
  refine J_iconst 164 rfl (D_X12_qGoesOn_1.at 35 rfl) ?_
  refine J_callV (d' := 1) (sr := fun z => [vI z]) (as := [vI 3]) (st := []) (o := 68) 167 rfl ok_X12_qIsOn im_X12_qIsOn se_X12_qIsOn ml_12_616 isC_12 ob_68 (Ob.lt ob_68) rfl (by decide) ⟨Nat.le_refl _, Nat.le_refl _⟩ (Nat.le_of_ble_eq_true rfl) (D_X12_qGoesOn_1.at 36 rfl) (fun _ => rfl) T (fun r125 h126 T b127 => ?_)
  replace T := T b127
  refine J_if_ne 170 rfl 178 (inR_b b127) (D_X12_qGoesOn_1.at 37 rfl) (by decide) (fun c137 => ?_) (fun c137 => ?_)
  · replace T := T.1 c137
    exact T
  replace T := T.2 c137
  refine J_aload_n 171 rfl 0 0 rfl ⟨by decide, by decide⟩ (D_X12_qGoesOn_1.at 38 rfl) ?_
  refine J_iconst 172 rfl (D_X12_qGoesOn_1.at 39 rfl) ?_
  refine J_callV (d' := 1) (sr := fun z => [vI z]) (as := [vI 4]) (st := []) (o := 68) 175 rfl ok_X12_qIsOn im_X12_qIsOn se_X12_qIsOn ml_12_616 isC_12 ob_68 (Ob.lt ob_68) rfl (by decide) ⟨Nat.le_refl _, Nat.le_refl _⟩ (Nat.le_of_ble_eq_true rfl) (D_X12_qGoesOn_1.at 40 rfl) (fun _ => rfl) T (fun r128 h129 T b130 => ?_)
  replace T := T b130
  refine J_if_eq 178 rfl 185 (inR_b b130) (D_X12_qGoesOn_1.at 41 rfl) (by decide) (fun c136 => ?_) (fun c136 => ?_)
  · replace T := T.1 c136
    refine J_aload_n 186 rfl 0 0 rfl ⟨by decide, by decide⟩ (D_X12_qGoesOn_1.at 45 rfl) ?_
    refine J_getF (ov := 134) (dd := 1066) 189 rfl fl_12_215 rfl (by decide) rfl ob_68 (Ob.lt ob_68) (D_X12_qGoesOn_1.at 46 rfl) ?_
    refine J_aload_n 190 rfl 0 0 rfl ⟨by decide, by decide⟩ (D_X12_qGoesOn_1.at 47 rfl) ?_
    refine J_getI (z := (h129 68 89)) 193 rfl fl_12_580 rfl ob_68 (Ob.lt ob_68) (D_X12_qGoesOn_2.at 0 rfl) rfl ?_
    refine J_iload_n 194 rfl 1 1 rfl (D_X12_qGoesOn_2.at 1 rfl) ?_
    obtain ⟨s131, T⟩ := T
    refine J_iastH 195 rfl ar_134 (Ar.lt ar_134) s131 trivial (D_X12_qGoesOn_2.at 2 rfl) (fun h132 e133 => ?_)
    replace T := T h132 e133
    refine J_aload_n 196 rfl 0 0 rfl ⟨by decide, by decide⟩ (D_X12_qGoesOn_2.at 3 rfl) ?_
    refine J_dup 197 rfl rfl (D_X12_qGoesOn_2.at 4 rfl) ?_
    refine J_getI (z := (h132 68 89)) 200 rfl fl_12_580 rfl ob_68 (Ob.lt ob_68) (D_X12_qGoesOn_2.at 5 rfl) rfl ?_
    refine J_iconst 201 rfl (D_X12_qGoesOn_2.at 6 rfl) ?_
    refine J_iadd 202 rfl (D_X12_qGoesOn_2.at 7 rfl) ?_
    refine J_putI 205 rfl fl_12_580 rfl rfl ob_68 (Ob.lt ob_68) (D_X12_qGoesOn_2.at 8 rfl) (fun h134 e135 => ?_)
    replace T := T h134 e135
    refine J_iconst 206 rfl (D_X12_qGoesOn_2.at 9 rfl) ?_
    exact J_zret rfl (Or.inr rfl) (D_X12_qGoesOn_2.at 10 rfl) T
  replace T := T.2 c136
  exact T
theorem l_X12_qGoesOn_178 {w : Wd} {v1 : Int} {h : Hp} {K : Int → Hp → Prop} (T : C_X12_qDrops w h (fun _ h139 => L_X12_qGoesOn_162 w v1 h139 K)) : L_X12_qGoesOn_178 w v1 h K := by
  unfold L_X12_qGoesOn_178
  refine J_aload_n 179 rfl 0 0 rfl ⟨by decide, by decide⟩ (D_X12_qGoesOn_1.at 42 rfl) ?_
  refine J_callV (d' := 2) (sr := fun z => []) (as := []) (st := []) (o := 68) 182 rfl ok_X12_qDrops im_X12_qDrops se_X12_qDrops ml_12_592 isC_12 ob_68 (Ob.lt ob_68) rfl (by decide) ⟨Nat.le_refl _, Nat.le_refl _⟩ (Nat.le_of_ble_eq_true rfl) (D_X12_qGoesOn_1.at 43 rfl) (fun _ => rfl) T (fun r138 h139 T b140 => ?_)
  refine J_goto 162 (D_X12_qGoesOn_1.at 44 rfl) (by decide) ?_
  exact T
theorem c_X12_qGoesOnTest {w : Wd} {h : Hp} {K : Int → Hp → Prop} (T : L_X12_qGoesOnTest_0 w h K) : C_X12_qGoesOnTest w h K := by
  refine CGm_of2 (by decide) (by decide) trivial (Nat.le_of_ble_eq_true rfl) ?_
  exact T
theorem l_X12_qGoesOnTest_0 {w : Wd} {h : Hp} {K : Int → Hp → Prop} (T : (inR (h 68 5)) ∧ ((((h 68 5) ≠ 0) → (L_X12_qGoesOnTest_76 w h K)) ∧ (¬ ((h 68 5) ≠ 0) → (C_X12_look w h (fun r2 h3 => (inR r2) ∧ (((r2 ≠ 93) → (L_X12_qGoesOnTest_76 w h3 K)) ∧ (¬ (r2 ≠ 93) → (C_X12_qHasSquare w h3 (fun r6 h7 => (r6 = 0 ∨ r6 = 1) → ((r6 = 0) → (L_X12_qGoesOnTest_76 w h7 K)) ∧ (¬ (r6 = 0) → (∀ h9 : Hp, h9 = hu h7 68 2 ((h7 68 2) + 1) → L_X12_qGoesOnTest_33 w h9 K))))))))))) : L_X12_qGoesOnTest_0 w h K := by
  unfold L_X12_qGoesOnTest_0
  refine J_aload_n 1 rfl 0 0 rfl ⟨by decide, by decide⟩ (D_X12_qGoesOnTest_0.at 0 rfl) ?_
  refine J_getI (z := (h 68 5)) 4 rfl fl_12_227 rfl ob_68 (Ob.lt ob_68) (D_X12_qGoesOnTest_0.at 1 rfl) rfl ?_
  obtain ⟨s1, T⟩ := T
  refine J_if_ne 7 rfl 76 s1 (D_X12_qGoesOnTest_0.at 2 rfl) (by decide) (fun c13 => ?_) (fun c13 => ?_)
  · replace T := T.1 c13
    exact T
  replace T := T.2 c13
  refine J_aload_n 8 rfl 0 0 rfl ⟨by decide, by decide⟩ (D_X12_qGoesOnTest_0.at 3 rfl) ?_
  refine J_callV (d' := 1) (sr := fun z => [vI z]) (as := []) (st := []) (o := 68) 11 rfl ok_X12_look im_X12_look se_X12_look ml_12_239 isC_12 ob_68 (Ob.lt ob_68) rfl (by decide) ⟨Nat.le_refl _, Nat.le_refl _⟩ (Nat.le_of_ble_eq_true rfl) (D_X12_qGoesOnTest_0.at 4 rfl) (fun _ => rfl) T (fun r2 h3 T b4 => ?_)
  refine J_bipush 13 rfl ⟨by decide, by decide⟩ (D_X12_qGoesOnTest_0.at 5 rfl) ?_
  obtain ⟨s5, T⟩ := T
  refine J_icmp_ne 16 rfl 76 s5 ⟨by decide, by decide⟩ (D_X12_qGoesOnTest_0.at 6 rfl) (by decide) (fun c12 => ?_) (fun c12 => ?_)
  · replace T := T.1 c12
    exact T
  replace T := T.2 c12
  refine J_aload_n 17 rfl 0 0 rfl ⟨by decide, by decide⟩ (D_X12_qGoesOnTest_0.at 7 rfl) ?_
  refine J_callV (d' := 1) (sr := fun z => [vI z]) (as := []) (st := []) (o := 68) 20 rfl ok_X12_qHasSquare im_X12_qHasSquare se_X12_qHasSquare ml_12_637 isC_12 ob_68 (Ob.lt ob_68) rfl (by decide) ⟨Nat.le_refl _, Nat.le_refl _⟩ (Nat.le_of_ble_eq_true rfl) (D_X12_qGoesOnTest_0.at 8 rfl) (fun _ => rfl) T (fun r6 h7 T b8 => ?_)
  replace T := T b8
  refine J_if_eq 23 rfl 76 (inR_b b8) (D_X12_qGoesOnTest_0.at 9 rfl) (by decide) (fun c11 => ?_) (fun c11 => ?_)
  · replace T := T.1 c11
    exact T
  replace T := T.2 c11
  refine J_aload_n 24 rfl 0 0 rfl ⟨by decide, by decide⟩ (D_X12_qGoesOnTest_0.at 10 rfl) ?_
  refine J_dup 25 rfl rfl (D_X12_qGoesOnTest_0.at 11 rfl) ?_
  refine J_getI (z := (h7 68 2)) 28 rfl fl_12_233 rfl ob_68 (Ob.lt ob_68) (D_X12_qGoesOnTest_0.at 12 rfl) rfl ?_
  refine J_iconst 29 rfl (D_X12_qGoesOnTest_0.at 13 rfl) ?_
  refine J_iadd 30 rfl (D_X12_qGoesOnTest_0.at 14 rfl) ?_
  refine J_putI 33 rfl fl_12_233 rfl rfl ob_68 (Ob.lt ob_68) (D_X12_qGoesOnTest_0.at 15 rfl) (fun h9 e10 => ?_)
  replace T := T h9 e10
  exact T
theorem l_X12_qGoesOnTest_33 {w : Wd} {h : Hp} {K : Int → Hp → Prop} (T : C_X12_qIsOn w 25 h (fun r14 h15 => (r14 = 0 ∨ r14 = 1) → ((r14 ≠ 0) → (∀ h17 : Hp, h17 = hu h15 68 89 ((h15 68 89) - 1) → ∀ h19 : Hp, h19 = hu h17 68 90 ((h17 68 90) - 1) → C_X12_qDropsNots w h19 (fun _ h22 => L_X12_qGoesOnTest_0 w h22 K))) ∧ (¬ (r14 ≠ 0) → (C_X12_qDrops w h15 (fun _ h25 => L_X12_qGoesOnTest_33 w h25 K))))) : L_X12_qGoesOnTest_33 w h K := by
  unfold L_X12_qGoesOnTest_33
  refine J_aload_n 34 rfl 0 0 rfl ⟨by decide, by decide⟩ (D_X12_qGoesOnTest_0.at 16 rfl) ?_
  refine J_bipush 36 rfl ⟨by decide, by decide⟩ (D_X12_qGoesOnTest_0.at 17 rfl) ?_
  refine J_callV (d' := 1) (sr := fun z => [vI z]) (as := [vI 25]) (st := []) (o := 68) 39 rfl ok_X12_qIsOn im_X12_qIsOn se_X12_qIsOn ml_12_616 isC_12 ob_68 (Ob.lt ob_68) rfl (by decide) ⟨Nat.le_refl _, Nat.le_refl _⟩ (Nat.le_of_ble_eq_true rfl) (D_X12_qGoesOnTest_0.at 18 rfl) (fun _ => rfl) T (fun r14 h15 T b16 => ?_)
  replace T := T b16
  refine J_if_ne 42 rfl 49 (inR_b b16) (D_X12_qGoesOnTest_0.at 19 rfl) (by decide) (fun c27 => ?_) (fun c27 => ?_)
  · replace T := T.1 c27
    refine J_aload_n 50 rfl 0 0 rfl ⟨by decide, by decide⟩ (D_X12_qGoesOnTest_0.at 23 rfl) ?_
    refine J_dup 51 rfl rfl (D_X12_qGoesOnTest_0.at 24 rfl) ?_
    refine J_getI (z := (h15 68 89)) 54 rfl fl_12_580 rfl ob_68 (Ob.lt ob_68) (D_X12_qGoesOnTest_0.at 25 rfl) rfl ?_
    refine J_iconst 55 rfl (D_X12_qGoesOnTest_0.at 26 rfl) ?_
    refine J_isub 56 rfl (D_X12_qGoesOnTest_0.at 27 rfl) ?_
    refine J_putI 59 rfl fl_12_580 rfl rfl ob_68 (Ob.lt ob_68) (D_X12_qGoesOnTest_0.at 28 rfl) (fun h17 e18 => ?_)
    replace T := T h17 e18
    refine J_aload_n 60 rfl 0 0 rfl ⟨by decide, by decide⟩ (D_X12_qGoesOnTest_0.at 29 rfl) ?_
    refine J_dup 61 rfl rfl (D_X12_qGoesOnTest_0.at 30 rfl) ?_
    refine J_getI (z := (h17 68 90)) 64 rfl fl_12_577 rfl ob_68 (Ob.lt ob_68) (D_X12_qGoesOnTest_0.at 31 rfl) rfl ?_
    refine J_iconst 65 rfl (D_X12_qGoesOnTest_0.at 32 rfl) ?_
    refine J_isub 66 rfl (D_X12_qGoesOnTest_0.at 33 rfl) ?_
    refine J_putI 69 rfl fl_12_577 rfl rfl ob_68 (Ob.lt ob_68) (D_X12_qGoesOnTest_0.at 34 rfl) (fun h19 e20 => ?_)
    replace T := T h19 e20
    refine J_aload_n 70 rfl 0 0 rfl ⟨by decide, by decide⟩ (D_X12_qGoesOnTest_0.at 35 rfl) ?_
    refine J_callV (d' := 3) (sr := fun z => []) (as := []) (st := []) (o := 68) 73 rfl ok_X12_qDropsNots im_X12_qDropsNots se_X12_qDropsNots ml_12_631 isC_12 ob_68 (Ob.lt ob_68) rfl (by decide) ⟨Nat.le_refl _, Nat.le_refl _⟩ (Nat.le_of_ble_eq_true rfl) (D_X12_qGoesOnTest_0.at 36 rfl) (fun _ => rfl) T (fun r21 h22 T b23 => ?_)
    refine J_goto 0 (D_X12_qGoesOnTest_0.at 37 rfl) (by decide) ?_
    exact T
  replace T := T.2 c27
  refine J_aload_n 43 rfl 0 0 rfl ⟨by decide, by decide⟩ (D_X12_qGoesOnTest_0.at 20 rfl) ?_
  refine J_callV (d' := 2) (sr := fun z => []) (as := []) (st := []) (o := 68) 46 rfl ok_X12_qDrops im_X12_qDrops se_X12_qDrops ml_12_592 isC_12 ob_68 (Ob.lt ob_68) rfl (by decide) ⟨Nat.le_refl _, Nat.le_refl _⟩ (Nat.le_of_ble_eq_true rfl) (D_X12_qGoesOnTest_0.at 21 rfl) (fun _ => rfl) T (fun r24 h25 T b26 => ?_)
  refine J_goto 33 (D_X12_qGoesOnTest_0.at 22 rfl) (by decide) ?_
  exact T
theorem l_X12_qGoesOnTest_76 {w : Wd} {h : Hp} {K : Int → Hp → Prop} (T : C_X12_takes w 123 h (fun r28 h29 => (r28 = 0 ∨ r28 = 1) → ((r28 = 0) → (C_X12_takes w 124 h29 (fun r31 h32 => (r31 = 0 ∨ r31 = 1) → ((r31 = 0) → ((inR (h32 68 5)) ∧ ((((h32 68 5) ≠ 0) → (L_X12_qGoesOnTest_208 w h32 K)) ∧ (¬ ((h32 68 5) ≠ 0) → (C_X12_qHasSquare w h32 (fun r35 h36 => (r35 = 0 ∨ r35 = 1) → ((r35 = 0) → (L_X12_qGoesOnTest_208 w h36 K)) ∧ (¬ (r35 = 0) → (C_X12_fail w 1 (h36 68 2) h36 (fun _ h39 => L_X12_qGoesOnTest_208 w h39 K))))))))) ∧ (¬ (r31 = 0) → (L_X12_qGoesOnTest_137 w h32 K))))) ∧ (¬ (r28 = 0) → (L_X12_qGoesOnTest_87 w h29 K)))) : L_X12_qGoesOnTest_76 w h K := by
  unfold L_X12_qGoesOnTest_76
  refine J_aload_n 77 rfl 0 0 rfl ⟨by decide, by decide⟩ (D_X12_qGoesOnTest_0.at 38 rfl) ?_
  refine J_aload_n 78 rfl 0 0 rfl ⟨by decide, by decide⟩ (D_X12_qGoesOnTest_0.at 39 rfl) ?_
  refine J_getF (ov := 123) (dd := 1055) 81 rfl fl_12_182 rfl (by decide) rfl ob_68 (Ob.lt ob_68) (D_X12_qGoesOnTest_0.at 40 rfl) ?_
  refine J_callV (d' := 3) (sr := fun z => [vI z]) (as := [vR 123]) (st := []) (o := 68) 84 rfl ok_X12_takes im_X12_takes se_X12_takes ml_12_254 isC_12 ob_68 (Ob.lt ob_68) rfl (by decide) ⟨Nat.le_refl _, Nat.le_refl _⟩ (Nat.le_of_ble_eq_true rfl) (D_X12_qGoesOnTest_0.at 41 rfl) (fun _ => rfl) T (fun r28 h29 T b30 => ?_)
  replace T := T b30
  refine J_if_eq 87 rfl 126 (inR_b b30) (D_X12_qGoesOnTest_0.at 42 rfl) (by decide) (fun c44 => ?_) (fun c44 => ?_)
  · replace T := T.1 c44
    refine J_aload_n 127 rfl 0 0 rfl ⟨by decide, by decide⟩ (D_X12_qGoesOnTest_1.at 16 rfl) ?_
    refine J_aload_n 128 rfl 0 0 rfl ⟨by decide, by decide⟩ (D_X12_qGoesOnTest_1.at 17 rfl) ?_
    refine J_getF (ov := 124) (dd := 1056) 131 rfl fl_12_185 rfl (by decide) rfl ob_68 (Ob.lt ob_68) (D_X12_qGoesOnTest_1.at 18 rfl) ?_
    refine J_callV (d' := 3) (sr := fun z => [vI z]) (as := [vR 124]) (st := []) (o := 68) 134 rfl ok_X12_takes im_X12_takes se_X12_takes ml_12_254 isC_12 ob_68 (Ob.lt ob_68) rfl (by decide) ⟨Nat.le_refl _, Nat.le_refl _⟩ (Nat.le_of_ble_eq_true rfl) (D_X12_qGoesOnTest_1.at 19 rfl) (fun _ => rfl) T (fun r31 h32 T b33 => ?_)
    replace T := T b33
    refine J_if_eq 137 rfl 185 (inR_b b33) (D_X12_qGoesOnTest_1.at 20 rfl) (by decide) (fun c43 => ?_) (fun c43 => ?_)
    · replace T := T.1 c43
      refine J_aload_n 186 rfl 0 0 rfl ⟨by decide, by decide⟩ (D_X12_qGoesOnTest_1.at 46 rfl) ?_
      refine J_getI (z := (h32 68 5)) 189 rfl fl_12_227 rfl ob_68 (Ob.lt ob_68) (D_X12_qGoesOnTest_1.at 47 rfl) rfl ?_
      obtain ⟨s34, T⟩ := T
      refine J_if_ne 192 rfl 208 s34 (D_X12_qGoesOnTest_2.at 0 rfl) (by decide) (fun c42 => ?_) (fun c42 => ?_)
      · replace T := T.1 c42
        exact J_sub (lv' := []) [] rfl T
      replace T := T.2 c42
      refine J_aload_n 193 rfl 0 0 rfl ⟨by decide, by decide⟩ (D_X12_qGoesOnTest_2.at 1 rfl) ?_
      refine J_callV (d' := 1) (sr := fun z => [vI z]) (as := []) (st := []) (o := 68) 196 rfl ok_X12_qHasSquare im_X12_qHasSquare se_X12_qHasSquare ml_12_637 isC_12 ob_68 (Ob.lt ob_68) rfl (by decide) ⟨Nat.le_refl _, Nat.le_refl _⟩ (Nat.le_of_ble_eq_true rfl) (D_X12_qGoesOnTest_2.at 2 rfl) (fun _ => rfl) T (fun r35 h36 T b37 => ?_)
      replace T := T b37
      refine J_if_eq 199 rfl 208 (inR_b b37) (D_X12_qGoesOnTest_2.at 3 rfl) (by decide) (fun c41 => ?_) (fun c41 => ?_)
      · replace T := T.1 c41
        exact J_sub (lv' := []) [] rfl T
      replace T := T.2 c41
      refine J_aload_n 200 rfl 0 0 rfl ⟨by decide, by decide⟩ (D_X12_qGoesOnTest_2.at 4 rfl) ?_
      refine J_iconst 201 rfl (D_X12_qGoesOnTest_2.at 5 rfl) ?_
      refine J_aload_n 202 rfl 0 0 rfl ⟨by decide, by decide⟩ (D_X12_qGoesOnTest_2.at 6 rfl) ?_
      refine J_getI (z := (h36 68 2)) 205 rfl fl_12_233 rfl ob_68 (Ob.lt ob_68) (D_X12_qGoesOnTest_2.at 7 rfl) rfl ?_
      refine J_callV (d' := 1) (sr := fun z => []) (as := [vI 1, vI (h36 68 2)]) (st := []) (o := 68) 208 rfl ok_X12_fail im_X12_fail se_X12_fail ml_12_257 isC_12 ob_68 (Ob.lt ob_68) rfl (by decide) ⟨Nat.le_refl _, Nat.le_refl _⟩ (Nat.le_of_ble_eq_true rfl) (D_X12_qGoesOnTest_2.at 8 rfl) (fun _ => rfl) T (fun r38 h39 T b40 => ?_)
      exact J_sub (lv' := []) [] rfl T
    replace T := T.2 c43
    exact T
  replace T := T.2 c44
  exact T
theorem l_X12_qGoesOnTest_87 {w : Wd} {h : Hp} {K : Int → Hp → Prop} (T : C_X12_qIsOn w 10 h (fun r45 h46 => (r45 = 0 ∨ r45 = 1) → ((r45 = 0) → ((0 ≤ (h46 68 89) ∧ (h46 68 89) < 1700) ∧ (∀ h49 : Hp, h49 = hu h46 134 (h46 68 89) 10 → ∀ h51 : Hp, h51 = hu h49 68 89 ((h49 68 89) + 1) → K 1 h51))) ∧ (¬ (r45 = 0) → (C_X12_qDrops w h46 (fun _ h54 => L_X12_qGoesOnTest_87 w h54 K))))) : L_X12_qGoesOnTest_87 w h K := by
  unfold L_X12_qGoesOnTest_87
  refine J_aload_n 88 rfl 0 0 rfl ⟨by decide, by decide⟩ (D_X12_qGoesOnTest_0.at 43 rfl) ?_
  refine J_bipush 90 rfl ⟨by decide, by decide⟩ (D_X12_qGoesOnTest_0.at 44 rfl) ?_
  refine J_callV (d' := 1) (sr := fun z => [vI z]) (as := [vI 10]) (st := []) (o := 68) 93 rfl ok_X12_qIsOn im_X12_qIsOn se_X12_qIsOn ml_12_616 isC_12 ob_68 (Ob.lt ob_68) rfl (by decide) ⟨Nat.le_refl _, Nat.le_refl _⟩ (Nat.le_of_ble_eq_true rfl) (D_X12_qGoesOnTest_0.at 45 rfl) (fun _ => rfl) T (fun r45 h46 T b47 => ?_)
  replace T := T b47
  refine J_if_eq 96 rfl 103 (inR_b b47) (D_X12_qGoesOnTest_0.at 46 rfl) (by decide) (fun c56 => ?_) (fun c56 => ?_)
  · replace T := T.1 c56
    refine J_aload_n 104 rfl 0 0 rfl ⟨by decide, by decide⟩ (D_X12_qGoesOnTest_1.at 2 rfl) ?_
    refine J_getF (ov := 134) (dd := 1066) 107 rfl fl_12_215 rfl (by decide) rfl ob_68 (Ob.lt ob_68) (D_X12_qGoesOnTest_1.at 3 rfl) ?_
    refine J_aload_n 108 rfl 0 0 rfl ⟨by decide, by decide⟩ (D_X12_qGoesOnTest_1.at 4 rfl) ?_
    refine J_getI (z := (h46 68 89)) 111 rfl fl_12_580 rfl ob_68 (Ob.lt ob_68) (D_X12_qGoesOnTest_1.at 5 rfl) rfl ?_
    refine J_bipush 113 rfl ⟨by decide, by decide⟩ (D_X12_qGoesOnTest_1.at 6 rfl) ?_
    obtain ⟨s48, T⟩ := T
    refine J_iastH 114 rfl ar_134 (Ar.lt ar_134) s48 trivial (D_X12_qGoesOnTest_1.at 7 rfl) (fun h49 e50 => ?_)
    replace T := T h49 e50
    refine J_aload_n 115 rfl 0 0 rfl ⟨by decide, by decide⟩ (D_X12_qGoesOnTest_1.at 8 rfl) ?_
    refine J_dup 116 rfl rfl (D_X12_qGoesOnTest_1.at 9 rfl) ?_
    refine J_getI (z := (h49 68 89)) 119 rfl fl_12_580 rfl ob_68 (Ob.lt ob_68) (D_X12_qGoesOnTest_1.at 10 rfl) rfl ?_
    refine J_iconst 120 rfl (D_X12_qGoesOnTest_1.at 11 rfl) ?_
    refine J_iadd 121 rfl (D_X12_qGoesOnTest_1.at 12 rfl) ?_
    refine J_putI 124 rfl fl_12_580 rfl rfl ob_68 (Ob.lt ob_68) (D_X12_qGoesOnTest_1.at 13 rfl) (fun h51 e52 => ?_)
    replace T := T h51 e52
    refine J_iconst 125 rfl (D_X12_qGoesOnTest_1.at 14 rfl) ?_
    exact J_zret rfl (Or.inr rfl) (D_X12_qGoesOnTest_1.at 15 rfl) T
  replace T := T.2 c56
  refine J_aload_n 97 rfl 0 0 rfl ⟨by decide, by decide⟩ (D_X12_qGoesOnTest_0.at 47 rfl) ?_
  refine J_callV (d' := 2) (sr := fun z => []) (as := []) (st := []) (o := 68) 100 rfl ok_X12_qDrops im_X12_qDrops se_X12_qDrops ml_12_592 isC_12 ob_68 (Ob.lt ob_68) rfl (by decide) ⟨Nat.le_refl _, Nat.le_refl _⟩ (Nat.le_of_ble_eq_true rfl) (D_X12_qGoesOnTest_1.at 0 rfl) (fun _ => rfl) T (fun r53 h54 T b55 => ?_)
  refine J_goto 87 (D_X12_qGoesOnTest_1.at 1 rfl) (by decide) ?_
  exact T
theorem l_X12_qGoesOnTest_137 {w : Wd} {h : Hp} {K : Int → Hp → Prop} (T : C_X12_qIsOn w 10 h (fun r57 h58 => (r57 = 0 ∨ r57 = 1) → ((r57 ≠ 0) → (L_X12_qGoesOnTest_155 w h58 K)) ∧ (¬ (r57 ≠ 0) → (C_X12_qIsOn w 11 h58 (fun r60 h61 => (r60 = 0 ∨ r60 = 1) → ((r60 = 0) → ((0 ≤ (h61 68 89) ∧ (h61 68 89) < 1700) ∧ (∀ h64 : Hp, h64 = hu h61 134 (h61 68 89) 11 → ∀ h66 : Hp, h66 = hu h64 68 89 ((h64 68 89) + 1) → K 1 h66))) ∧ (¬ (r60 = 0) → (L_X12_qGoesOnTest_155 w h61 K))))))) : L_X12_qGoesOnTest_137 w h K := by
  unfold L_X12_qGoesOnTest_137
  refine J_aload_n 138 rfl 0 0 rfl ⟨by decide, by decide⟩ (D_X12_qGoesOnTest_1.at 21 rfl) ?_
  refine J_bipush 140 rfl ⟨by decide, by decide⟩ (D_X12_qGoesOnTest_1.at 22 rfl) ?_
  refine J_callV (d' := 1) (sr := fun z => [vI z]) (as := [vI 10]) (st := []) (o := 68) 143 rfl ok_X12_qIsOn im_X12_qIsOn se_X12_qIsOn ml_12_616 isC_12 ob_68 (Ob.lt ob_68) rfl (by decide) ⟨Nat.le_refl _, Nat.le_refl _⟩ (Nat.le_of_ble_eq_true rfl) (D_X12_qGoesOnTest_1.at 23 rfl) (fun _ => rfl) T (fun r57 h58 T b59 => ?_)
  replace T := T b59
  refine J_if_ne 146 rfl 155 (inR_b b59) (D_X12_qGoesOnTest_1.at 24 rfl) (by decide) (fun c69 => ?_) (fun c69 => ?_)
  · replace T := T.1 c69
    exact T
  replace T := T.2 c69
  refine J_aload_n 147 rfl 0 0 rfl ⟨by decide, by decide⟩ (D_X12_qGoesOnTest_1.at 25 rfl) ?_
  refine J_bipush 149 rfl ⟨by decide, by decide⟩ (D_X12_qGoesOnTest_1.at 26 rfl) ?_
  refine J_callV (d' := 1) (sr := fun z => [vI z]) (as := [vI 11]) (st := []) (o := 68) 152 rfl ok_X12_qIsOn im_X12_qIsOn se_X12_qIsOn ml_12_616 isC_12 ob_68 (Ob.lt ob_68) rfl (by decide) ⟨Nat.le_refl _, Nat.le_refl _⟩ (Nat.le_of_ble_eq_true rfl) (D_X12_qGoesOnTest_1.at 27 rfl) (fun _ => rfl) T (fun r60 h61 T b62 => ?_)
  replace T := T b62
  refine J_if_eq 155 rfl 162 (inR_b b62) (D_X12_qGoesOnTest_1.at 28 rfl) (by decide) (fun c68 => ?_) (fun c68 => ?_)
  · replace T := T.1 c68
    refine J_aload_n 163 rfl 0 0 rfl ⟨by decide, by decide⟩ (D_X12_qGoesOnTest_1.at 32 rfl) ?_
    refine J_getF (ov := 134) (dd := 1066) 166 rfl fl_12_215 rfl (by decide) rfl ob_68 (Ob.lt ob_68) (D_X12_qGoesOnTest_1.at 33 rfl) ?_
    refine J_aload_n 167 rfl 0 0 rfl ⟨by decide, by decide⟩ (D_X12_qGoesOnTest_1.at 34 rfl) ?_
    refine J_getI (z := (h61 68 89)) 170 rfl fl_12_580 rfl ob_68 (Ob.lt ob_68) (D_X12_qGoesOnTest_1.at 35 rfl) rfl ?_
    refine J_bipush 172 rfl ⟨by decide, by decide⟩ (D_X12_qGoesOnTest_1.at 36 rfl) ?_
    obtain ⟨s63, T⟩ := T
    refine J_iastH 173 rfl ar_134 (Ar.lt ar_134) s63 trivial (D_X12_qGoesOnTest_1.at 37 rfl) (fun h64 e65 => ?_)
    replace T := T h64 e65
    refine J_aload_n 174 rfl 0 0 rfl ⟨by decide, by decide⟩ (D_X12_qGoesOnTest_1.at 38 rfl) ?_
    refine J_dup 175 rfl rfl (D_X12_qGoesOnTest_1.at 39 rfl) ?_
    refine J_getI (z := (h64 68 89)) 178 rfl fl_12_580 rfl ob_68 (Ob.lt ob_68) (D_X12_qGoesOnTest_1.at 40 rfl) rfl ?_
    refine J_iconst 179 rfl (D_X12_qGoesOnTest_1.at 41 rfl) ?_
    refine J_iadd 180 rfl (D_X12_qGoesOnTest_1.at 42 rfl) ?_
    refine J_putI 183 rfl fl_12_580 rfl rfl ob_68 (Ob.lt ob_68) (D_X12_qGoesOnTest_1.at 43 rfl) (fun h66 e67 => ?_)
    replace T := T h66 e67
    refine J_iconst 184 rfl (D_X12_qGoesOnTest_1.at 44 rfl) ?_
    exact J_zret rfl (Or.inr rfl) (D_X12_qGoesOnTest_1.at 45 rfl) T
  replace T := T.2 c68
  exact T
theorem l_X12_qGoesOnTest_155 {w : Wd} {h : Hp} {K : Int → Hp → Prop} (T : C_X12_qDrops w h (fun _ h71 => L_X12_qGoesOnTest_137 w h71 K)) : L_X12_qGoesOnTest_155 w h K := by
  unfold L_X12_qGoesOnTest_155
  refine J_aload_n 156 rfl 0 0 rfl ⟨by decide, by decide⟩ (D_X12_qGoesOnTest_1.at 29 rfl) ?_
  refine J_callV (d' := 2) (sr := fun z => []) (as := []) (st := []) (o := 68) 159 rfl ok_X12_qDrops im_X12_qDrops se_X12_qDrops ml_12_592 isC_12 ob_68 (Ob.lt ob_68) rfl (by decide) ⟨Nat.le_refl _, Nat.le_refl _⟩ (Nat.le_of_ble_eq_true rfl) (D_X12_qGoesOnTest_1.at 30 rfl) (fun _ => rfl) T (fun r70 h71 T b72 => ?_)
  refine J_goto 137 (D_X12_qGoesOnTest_1.at 31 rfl) (by decide) ?_
  exact T
theorem l_X12_qGoesOnTest_208 {w : Wd} {h : Hp} {K : Int → Hp → Prop} (T : K 0 h) : L_X12_qGoesOnTest_208 w h K := by
  unfold L_X12_qGoesOnTest_208
  refine J_iconst 209 rfl (D_X12_qGoesOnTest_2.at 9 rfl) ?_
  exact J_zret rfl (Or.inl rfl) (D_X12_qGoesOnTest_2.at 10 rfl) T
theorem c_X12_qOf {w : Wd} {a1 a2 a3 : Int} {h : Hp} {K : Int → Hp → Prop} (T : (inR a1) ∧ ((a1 = 0 → (inR ((h 68 36) - 1)) ∧ ((inL a2) ∧ (((a2 < 0) → (K 0 h)) ∧ (¬ (a2 < 0) → ((inL a2) ∧ ((inL ((h 68 36) - 1)) ∧ (((a2 > ((h 68 36) - 1)) → (K 0 h)) ∧ (¬ (a2 > ((h 68 36) - 1)) → (C_X12_wouldLie w a2 h (fun r7 h8 => (inR r7) ∧ (K r7 h8))))))))))) ∧ (a1 ≠ 0 → (inR ((h 93 5) - 1)) ∧ ((inL a2) ∧ (((a2 < 0) → (K 0 h)) ∧ (¬ (a2 < 0) → ((inL a2) ∧ ((inL ((h 93 5) - 1)) ∧ (((a2 > ((h 93 5) - 1)) → (K 0 h)) ∧ (¬ (a2 > ((h 93 5) - 1)) → ((0 ≤ a2 ∧ a2 < 10) ∧ ((inR (h 106 a2)) ∧ (K (h 106 a2) h))))))))))))) : C_X12_qOf w a1 a2 a3 h K := by
  refine CGm_of2 (by decide) (by decide) trivial (Nat.le_of_ble_eq_true rfl) ?_
  refine J_iload_n 1 rfl 1 1 rfl (D_X12_qOf_0.at 0 rfl) ?_
  obtain ⟨s1, T⟩ := T
  by_cases g13 : a1 = 0
  · replace T := T.1 g13
    refine J_look 19 20 s1 (D_X12_qOf_0.at 1 rfl) (by decide) (by rw [g13]; rfl) (by decide) ?_
    refine J_lload_n 21 rfl 2 2 rfl (D_X12_qOf_0.at 2 rfl) ?_
    refine J_lconst (z := 0) 22 rfl rfl (D_X12_qOf_0.at 3 rfl) ?_
    refine J_aload_n 23 rfl 0 0 rfl ⟨by decide, by decide⟩ (D_X12_qOf_0.at 4 rfl) ?_
    refine J_getI (z := (h 68 36)) 26 rfl fl_12_356 rfl ob_68 (Ob.lt ob_68) (D_X12_qOf_0.at 5 rfl) rfl ?_
    refine J_iconst 27 rfl (D_X12_qOf_0.at 6 rfl) ?_
    refine J_isub 28 rfl (D_X12_qOf_0.at 7 rfl) ?_
    obtain ⟨s3, T⟩ := T
    refine J_i2l 29 rfl s3 (D_X12_qOf_0.at 8 rfl) ?_
    refine J_callS (d' := 1) (K1 := fun z h0 => rok (some .boolean) z → JG w true m_X12_qOf 4 NT NT 32 [(0, vR 68), (1, vI a1), (2, vL a2), (4, vI a3)] [vI z] h0 _) (sr := fun z => [vI z]) (as := [vL a2, vL 0, vL ((h 68 36) - 1)]) (st := []) 32 rfl ok_X12_isIn sm_X12_isIn ml_12_267 rfl (by decide) ⟨Nat.le_refl _, Nat.le_refl _⟩ (Nat.le_of_ble_eq_true rfl) (D_X12_qOf_0.at 9 rfl) (fun _ => rfl) (CGm_of2 (by decide) (by decide) trivial (Nat.le_of_ble_eq_true rfl) ?_) (fun _ _ kq hb => kq hb)
    refine J_lload_n 1 rfl 0 0 rfl (D_X12_isIn_0.at 0 rfl) ?_
    refine J_lload_n 2 rfl 2 1 rfl (D_X12_isIn_0.at 1 rfl) ?_
    obtain ⟨s4, T⟩ := T
    refine J_lcmp_lt 6 rfl 17 s4 ⟨by decide, by decide⟩ (D_X12_isIn_0.at 2 rfl) (D_X12_isIn_0.at 3 rfl) (by decide) (fun c12 => ?_) (fun c12 => ?_)
    · replace T := T.1 c12
      refine J_iconst 18 rfl (D_X12_isIn_0.at 10 rfl) ?_
      refine J_zret rfl (Or.inl rfl) (D_X12_isIn_0.at 11 rfl) (fun _ => ?_)
      refine J_if_eq 35 rfl 45 ⟨by decide, by decide⟩ (D_X12_qOf_0.at 10 rfl) (by decide) (fun _ => ?_) (fun c => absurd (by decide) c)
      refine J_lconst (z := 0) 46 rfl rfl (D_X12_qOf_0.at 17 rfl) ?_
      exact J_lret rfl (D_X12_qOf_0.at 18 rfl) T
    replace T := T.2 c12
    refine J_lload_n 7 rfl 0 0 rfl (D_X12_isIn_0.at 4 rfl) ?_
    refine J_lload 9 rfl 4 2 rfl (D_X12_isIn_0.at 5 rfl) ?_
    obtain ⟨s5, T⟩ := T
    obtain ⟨s6, T⟩ := T
    refine J_lcmp_gt 13 rfl 17 s5 s6 (D_X12_isIn_0.at 6 rfl) (D_X12_isIn_0.at 7 rfl) (by decide) (fun c11 => ?_) (fun c11 => ?_)
    · replace T := T.1 c11
      refine J_iconst 18 rfl (D_X12_isIn_0.at 10 rfl) ?_
      refine J_zret rfl (Or.inl rfl) (D_X12_isIn_0.at 11 rfl) (fun _ => ?_)
      refine J_if_eq 35 rfl 45 ⟨by decide, by decide⟩ (D_X12_qOf_0.at 10 rfl) (by decide) (fun _ => ?_) (fun c => absurd (by decide) c)
      refine J_lconst (z := 0) 46 rfl rfl (D_X12_qOf_0.at 17 rfl) ?_
      exact J_lret rfl (D_X12_qOf_0.at 18 rfl) T
    replace T := T.2 c11
    refine J_iconst 14 rfl (D_X12_isIn_0.at 8 rfl) ?_
    refine J_goto 18 (D_X12_isIn_0.at 9 rfl) (by decide) ?_
    refine J_zret rfl (Or.inr rfl) (D_X12_isIn_0.at 11 rfl) (fun _ => ?_)
    refine J_if_eq 35 rfl 45 ⟨by decide, by decide⟩ (D_X12_qOf_0.at 10 rfl) (by decide) (fun c => absurd c (by decide)) (fun _ => ?_)
    refine J_aload_n 36 rfl 0 0 rfl ⟨by decide, by decide⟩ (D_X12_qOf_0.at 11 rfl) ?_
    refine J_lload_n 37 rfl 2 2 rfl (D_X12_qOf_0.at 12 rfl) ?_
    refine J_l2i 38 rfl (D_X12_qOf_0.at 13 rfl) ?_
    refine J_callV (d' := 3) (sr := fun z => [vI z]) (as := [vI a2]) (st := []) (o := 68) 41 rfl ok_X12_wouldLie im_X12_wouldLie se_X12_wouldLie ml_12_548 isC_12 ob_68 (Ob.lt ob_68) rfl (by decide) ⟨Nat.le_refl _, Nat.le_refl _⟩ (Nat.le_of_ble_eq_true rfl) (D_X12_qOf_0.at 14 rfl) (fun _ => rfl) T (fun r7 h8 T b9 => ?_)
    obtain ⟨s10, T⟩ := T
    refine J_i2l 42 rfl s10 (D_X12_qOf_0.at 15 rfl) ?_
    refine J_goto 46 (D_X12_qOf_0.at 16 rfl) (by decide) ?_
    exact J_lret rfl (D_X12_qOf_0.at 18 rfl) T
  replace T := T.2 g13
  refine J_look 46 47 s1 (D_X12_qOf_0.at 1 rfl) (by decide) (by show Op.lookupswitch.offset [(0, 19)] 46 _ = 46; rw [look_ne g13]; rfl) (by decide) ?_
  refine J_lload_n 48 rfl 2 2 rfl (D_X12_qOf_0.at 19 rfl) ?_
  refine J_lconst (z := 0) 49 rfl rfl (D_X12_qOf_0.at 20 rfl) ?_
  refine J_aload_n 50 rfl 0 0 rfl ⟨by decide, by decide⟩ (D_X12_qOf_0.at 21 rfl) ?_
  refine J_callV (d' := 1) (K1 := fun z h0 => rok (some .int) z → JG w true m_X12_qOf 4 NT NT 53 [(0, vR 68), (1, vI a1), (2, vL a2), (4, vI a3)] [vI z, vL 0, vL a2] h0 _) (sr := fun z => [vI z, vL 0, vL a2]) (as := []) (st := [vL 0, vL a2]) (o := 68) 53 rfl ok_X12_bankMany im_X12_bankMany se_X12_bankMany ml_12_419 isC_12 ob_68 (Ob.lt ob_68) rfl (by decide) ⟨Nat.le_refl _, Nat.le_refl _⟩ (Nat.le_of_ble_eq_true rfl) (D_X12_qOf_0.at 22 rfl) (fun _ => rfl) (CGm_of2 (by decide) (by decide) trivial (Nat.le_of_ble_eq_true rfl) ?_) (fun _ _ kq hb => kq hb)
  refine J_aload_n 1 rfl 0 0 rfl ⟨by decide, by decide⟩ (D_X12_bankMany_0.at 0 rfl) ?_
  refine J_getF (ov := 93) (dd := 1025) 4 rfl fl_12_87 rfl (by decide) rfl ob_68 (Ob.lt ob_68) (D_X12_bankMany_0.at 1 rfl) ?_
  refine J_iconst 5 rfl (D_X12_bankMany_0.at 2 rfl) ?_
  refine J_iald 6 rfl ar_93 (Ar.lt ar_93) ⟨by decide, by decide⟩ (D_X12_bankMany_0.at 3 rfl) ?_
  refine J_iret rfl (D_X12_bankMany_0.at 4 rfl) (fun _ => ?_)
  refine J_iconst 54 rfl (D_X12_qOf_0.at 23 rfl) ?_
  refine J_isub 55 rfl (D_X12_qOf_0.at 24 rfl) ?_
  obtain ⟨s14, T⟩ := T
  refine J_i2l 56 rfl s14 (D_X12_qOf_0.at 25 rfl) ?_
  refine J_callS (d' := 1) (K1 := fun z h0 => rok (some .boolean) z → JG w true m_X12_qOf 4 NT NT 59 [(0, vR 68), (1, vI a1), (2, vL a2), (4, vI a3)] [vI z] h0 _) (sr := fun z => [vI z]) (as := [vL a2, vL 0, vL ((h 93 5) - 1)]) (st := []) 59 rfl ok_X12_isIn sm_X12_isIn ml_12_267 rfl (by decide) ⟨Nat.le_refl _, Nat.le_refl _⟩ (Nat.le_of_ble_eq_true rfl) (D_X12_qOf_0.at 26 rfl) (fun _ => rfl) (CGm_of2 (by decide) (by decide) trivial (Nat.le_of_ble_eq_true rfl) ?_) (fun _ _ kq hb => kq hb)
  refine J_lload_n 1 rfl 0 0 rfl (D_X12_isIn_0.at 0 rfl) ?_
  refine J_lload_n 2 rfl 2 1 rfl (D_X12_isIn_0.at 1 rfl) ?_
  obtain ⟨s15, T⟩ := T
  refine J_lcmp_lt 6 rfl 17 s15 ⟨by decide, by decide⟩ (D_X12_isIn_0.at 2 rfl) (D_X12_isIn_0.at 3 rfl) (by decide) (fun c21 => ?_) (fun c21 => ?_)
  · replace T := T.1 c21
    refine J_iconst 18 rfl (D_X12_isIn_0.at 10 rfl) ?_
    refine J_zret rfl (Or.inl rfl) (D_X12_isIn_0.at 11 rfl) (fun _ => ?_)
    refine J_if_eq 62 rfl 73 ⟨by decide, by decide⟩ (D_X12_qOf_0.at 27 rfl) (by decide) (fun _ => ?_) (fun c => absurd (by decide) c)
    refine J_lconst (z := 0) 74 rfl rfl (D_X12_qOf_0.at 35 rfl) ?_
    exact J_lret rfl (D_X12_qOf_0.at 36 rfl) T
  replace T := T.2 c21
  refine J_lload_n 7 rfl 0 0 rfl (D_X12_isIn_0.at 4 rfl) ?_
  refine J_lload 9 rfl 4 2 rfl (D_X12_isIn_0.at 5 rfl) ?_
  obtain ⟨s16, T⟩ := T
  obtain ⟨s17, T⟩ := T
  refine J_lcmp_gt 13 rfl 17 s16 s17 (D_X12_isIn_0.at 6 rfl) (D_X12_isIn_0.at 7 rfl) (by decide) (fun c20 => ?_) (fun c20 => ?_)
  · replace T := T.1 c20
    refine J_iconst 18 rfl (D_X12_isIn_0.at 10 rfl) ?_
    refine J_zret rfl (Or.inl rfl) (D_X12_isIn_0.at 11 rfl) (fun _ => ?_)
    refine J_if_eq 62 rfl 73 ⟨by decide, by decide⟩ (D_X12_qOf_0.at 27 rfl) (by decide) (fun _ => ?_) (fun c => absurd (by decide) c)
    refine J_lconst (z := 0) 74 rfl rfl (D_X12_qOf_0.at 35 rfl) ?_
    exact J_lret rfl (D_X12_qOf_0.at 36 rfl) T
  replace T := T.2 c20
  refine J_iconst 14 rfl (D_X12_isIn_0.at 8 rfl) ?_
  refine J_goto 18 (D_X12_isIn_0.at 9 rfl) (by decide) ?_
  refine J_zret rfl (Or.inr rfl) (D_X12_isIn_0.at 11 rfl) (fun _ => ?_)
  refine J_if_eq 62 rfl 73 ⟨by decide, by decide⟩ (D_X12_qOf_0.at 27 rfl) (by decide) (fun c => absurd c (by decide)) (fun _ => ?_)
  refine J_aload_n 63 rfl 0 0 rfl ⟨by decide, by decide⟩ (D_X12_qOf_0.at 28 rfl) ?_
  refine J_getF (ov := 106) (dd := 1038) 66 rfl fl_12_127 rfl (by decide) rfl ob_68 (Ob.lt ob_68) (D_X12_qOf_0.at 29 rfl) ?_
  refine J_lload_n 67 rfl 2 2 rfl (D_X12_qOf_0.at 30 rfl) ?_
  refine J_l2i 68 rfl (D_X12_qOf_0.at 31 rfl) ?_
  obtain ⟨s18, T⟩ := T
  refine J_iald 69 rfl ar_106 (Ar.lt ar_106) s18 (D_X12_qOf_0.at 32 rfl) ?_
  obtain ⟨s19, T⟩ := T
  refine J_i2l 70 rfl s19 (D_X12_qOf_0.at 33 rfl) ?_
  refine J_goto 74 (D_X12_qOf_0.at 34 rfl) (by decide) ?_
  exact J_lret rfl (D_X12_qOf_0.at 36 rfl) T
theorem c_X12_qKind {w : Wd} {h : Hp} {K : Int → Hp → Prop} (T : C_X12_takes w 116 h (fun r1 h2 => (r1 = 0 ∨ r1 = 1) → ((r1 = 0) → (C_X12_takes w 117 h2 (fun r4 h5 => (r4 = 0 ∨ r4 = 1) → ((r4 = 0) → (C_X12_takes w 118 h5 (fun r7 h8 => (r7 = 0 ∨ r7 = 1) → ((r7 = 0) → (C_X12_takes w 119 h8 (fun r10 h11 => (r10 = 0 ∨ r10 = 1) → ((r10 = 0) → (C_X12_takes w 120 h11 (fun r13 h14 => (r13 = 0 ∨ r13 = 1) → ((r13 = 0) → (C_X12_asks w 121 h14 (fun _ h17 => K 5 h17))) ∧ (¬ (r13 = 0) → (K 4 h14))))) ∧ (¬ (r10 = 0) → (K 3 h11))))) ∧ (¬ (r7 = 0) → (K 2 h8))))) ∧ (¬ (r4 = 0) → (K 1 h5))))) ∧ (¬ (r1 = 0) → (K 0 h2)))) : C_X12_qKind w h K := by
  refine CGm_of2 (by decide) (by decide) trivial (Nat.le_of_ble_eq_true rfl) ?_
  refine J_aload_n 1 rfl 0 0 rfl ⟨by decide, by decide⟩ (D_X12_qKind_0.at 0 rfl) ?_
  refine J_aload_n 2 rfl 0 0 rfl ⟨by decide, by decide⟩ (D_X12_qKind_0.at 1 rfl) ?_
  refine J_getF (ov := 116) (dd := 1048) 5 rfl fl_12_161 rfl (by decide) rfl ob_68 (Ob.lt ob_68) (D_X12_qKind_0.at 2 rfl) ?_
  refine J_callV (d' := 3) (sr := fun z => [vI z]) (as := [vR 116]) (st := []) (o := 68) 8 rfl ok_X12_takes im_X12_takes se_X12_takes ml_12_254 isC_12 ob_68 (Ob.lt ob_68) rfl (by decide) ⟨Nat.le_refl _, Nat.le_refl _⟩ (Nat.le_of_ble_eq_true rfl) (D_X12_qKind_0.at 3 rfl) (fun _ => rfl) T (fun r1 h2 T b3 => ?_)
  replace T := T b3
  refine J_if_eq 11 rfl 15 (inR_b b3) (D_X12_qKind_0.at 4 rfl) (by decide) (fun c23 => ?_) (fun c23 => ?_)
  · replace T := T.1 c23
    refine J_aload_n 16 rfl 0 0 rfl ⟨by decide, by decide⟩ (D_X12_qKind_0.at 7 rfl) ?_
    refine J_aload_n 17 rfl 0 0 rfl ⟨by decide, by decide⟩ (D_X12_qKind_0.at 8 rfl) ?_
    refine J_getF (ov := 117) (dd := 1049) 20 rfl fl_12_164 rfl (by decide) rfl ob_68 (Ob.lt ob_68) (D_X12_qKind_0.at 9 rfl) ?_
    refine J_callV (d' := 3) (sr := fun z => [vI z]) (as := [vR 117]) (st := []) (o := 68) 23 rfl ok_X12_takes im_X12_takes se_X12_takes ml_12_254 isC_12 ob_68 (Ob.lt ob_68) rfl (by decide) ⟨Nat.le_refl _, Nat.le_refl _⟩ (Nat.le_of_ble_eq_true rfl) (D_X12_qKind_0.at 10 rfl) (fun _ => rfl) T (fun r4 h5 T b6 => ?_)
    replace T := T b6
    refine J_if_eq 26 rfl 30 (inR_b b6) (D_X12_qKind_0.at 11 rfl) (by decide) (fun c22 => ?_) (fun c22 => ?_)
    · replace T := T.1 c22
      refine J_aload_n 31 rfl 0 0 rfl ⟨by decide, by decide⟩ (D_X12_qKind_0.at 14 rfl) ?_
      refine J_aload_n 32 rfl 0 0 rfl ⟨by decide, by decide⟩ (D_X12_qKind_0.at 15 rfl) ?_
      refine J_getF (ov := 118) (dd := 1050) 35 rfl fl_12_167 rfl (by decide) rfl ob_68 (Ob.lt ob_68) (D_X12_qKind_0.at 16 rfl) ?_
      refine J_callV (d' := 3) (sr := fun z => [vI z]) (as := [vR 118]) (st := []) (o := 68) 38 rfl ok_X12_takes im_X12_takes se_X12_takes ml_12_254 isC_12 ob_68 (Ob.lt ob_68) rfl (by decide) ⟨Nat.le_refl _, Nat.le_refl _⟩ (Nat.le_of_ble_eq_true rfl) (D_X12_qKind_0.at 17 rfl) (fun _ => rfl) T (fun r7 h8 T b9 => ?_)
      replace T := T b9
      refine J_if_eq 41 rfl 45 (inR_b b9) (D_X12_qKind_0.at 18 rfl) (by decide) (fun c21 => ?_) (fun c21 => ?_)
      · replace T := T.1 c21
        refine J_aload_n 46 rfl 0 0 rfl ⟨by decide, by decide⟩ (D_X12_qKind_0.at 21 rfl) ?_
        refine J_aload_n 47 rfl 0 0 rfl ⟨by decide, by decide⟩ (D_X12_qKind_0.at 22 rfl) ?_
        refine J_getF (ov := 119) (dd := 1051) 50 rfl fl_12_170 rfl (by decide) rfl ob_68 (Ob.lt ob_68) (D_X12_qKind_0.at 23 rfl) ?_
        refine J_callV (d' := 3) (sr := fun z => [vI z]) (as := [vR 119]) (st := []) (o := 68) 53 rfl ok_X12_takes im_X12_takes se_X12_takes ml_12_254 isC_12 ob_68 (Ob.lt ob_68) rfl (by decide) ⟨Nat.le_refl _, Nat.le_refl _⟩ (Nat.le_of_ble_eq_true rfl) (D_X12_qKind_0.at 24 rfl) (fun _ => rfl) T (fun r10 h11 T b12 => ?_)
        replace T := T b12
        refine J_if_eq 56 rfl 60 (inR_b b12) (D_X12_qKind_0.at 25 rfl) (by decide) (fun c20 => ?_) (fun c20 => ?_)
        · replace T := T.1 c20
          refine J_aload_n 61 rfl 0 0 rfl ⟨by decide, by decide⟩ (D_X12_qKind_0.at 28 rfl) ?_
          refine J_aload_n 62 rfl 0 0 rfl ⟨by decide, by decide⟩ (D_X12_qKind_0.at 29 rfl) ?_
          refine J_getF (ov := 120) (dd := 1052) 65 rfl fl_12_173 rfl (by decide) rfl ob_68 (Ob.lt ob_68) (D_X12_qKind_0.at 30 rfl) ?_
          refine J_callV (d' := 3) (sr := fun z => [vI z]) (as := [vR 120]) (st := []) (o := 68) 68 rfl ok_X12_takes im_X12_takes se_X12_takes ml_12_254 isC_12 ob_68 (Ob.lt ob_68) rfl (by decide) ⟨Nat.le_refl _, Nat.le_refl _⟩ (Nat.le_of_ble_eq_true rfl) (D_X12_qKind_0.at 31 rfl) (fun _ => rfl) T (fun r13 h14 T b15 => ?_)
          replace T := T b15
          refine J_if_eq 71 rfl 75 (inR_b b15) (D_X12_qKind_0.at 32 rfl) (by decide) (fun c19 => ?_) (fun c19 => ?_)
          · replace T := T.1 c19
            refine J_iconst 76 rfl (D_X12_qKind_0.at 35 rfl) ?_
            refine J_istore_n (lv' := [(1, vI 5), (0, vR 68)]) 77 rfl 1 (by decide) rfl (D_X12_qKind_0.at 36 rfl) ?_
            refine J_iload_n 78 rfl 1 0 rfl (D_X12_qKind_0.at 37 rfl) ?_
            refine J_iconst 79 rfl (D_X12_qKind_0.at 38 rfl) ?_
            refine J_icmp_ne 82 rfl 90 ⟨by decide, by decide⟩ ⟨by decide, by decide⟩ (D_X12_qKind_0.at 39 rfl) (by decide) (fun c => absurd c (by decide)) (fun _ => ?_)
            refine J_aload_n 83 rfl 0 1 rfl ⟨by decide, by decide⟩ (D_X12_qKind_0.at 40 rfl) ?_
            refine J_aload_n 84 rfl 0 1 rfl ⟨by decide, by decide⟩ (D_X12_qKind_0.at 41 rfl) ?_
            refine J_getF (ov := 121) (dd := 1053) 87 rfl fl_12_176 rfl (by decide) rfl ob_68 (Ob.lt ob_68) (D_X12_qKind_0.at 42 rfl) ?_
            refine J_callV (d' := 4) (sr := fun z => []) (as := [vR 121]) (st := []) (o := 68) 90 rfl ok_X12_asks im_X12_asks se_X12_asks ml_12_301 isC_12 ob_68 (Ob.lt ob_68) rfl (by decide) ⟨Nat.le_refl _, Nat.le_refl _⟩ (Nat.le_of_ble_eq_true rfl) (D_X12_qKind_0.at 43 rfl) (fun _ => rfl) T (fun r16 h17 T b18 => ?_)
            refine J_iload_n 91 rfl 1 0 rfl (D_X12_qKind_0.at 44 rfl) ?_
            exact J_iret rfl (D_X12_qKind_0.at 45 rfl) T
          replace T := T.2 c19
          refine J_iconst 72 rfl (D_X12_qKind_0.at 33 rfl) ?_
          refine J_goto 76 (D_X12_qKind_0.at 34 rfl) (by decide) ?_
          refine J_istore_n (lv' := [(1, vI 4), (0, vR 68)]) 77 rfl 1 (by decide) rfl (D_X12_qKind_0.at 36 rfl) ?_
          refine J_iload_n 78 rfl 1 0 rfl (D_X12_qKind_0.at 37 rfl) ?_
          refine J_iconst 79 rfl (D_X12_qKind_0.at 38 rfl) ?_
          refine J_icmp_ne 82 rfl 90 ⟨by decide, by decide⟩ ⟨by decide, by decide⟩ (D_X12_qKind_0.at 39 rfl) (by decide) (fun _ => ?_) (fun c => absurd (by decide) c)
          refine J_iload_n 91 rfl 1 0 rfl (D_X12_qKind_0.at 44 rfl) ?_
          exact J_iret rfl (D_X12_qKind_0.at 45 rfl) T
        replace T := T.2 c20
        refine J_iconst 57 rfl (D_X12_qKind_0.at 26 rfl) ?_
        refine J_goto 76 (D_X12_qKind_0.at 27 rfl) (by decide) ?_
        refine J_istore_n (lv' := [(1, vI 3), (0, vR 68)]) 77 rfl 1 (by decide) rfl (D_X12_qKind_0.at 36 rfl) ?_
        refine J_iload_n 78 rfl 1 0 rfl (D_X12_qKind_0.at 37 rfl) ?_
        refine J_iconst 79 rfl (D_X12_qKind_0.at 38 rfl) ?_
        refine J_icmp_ne 82 rfl 90 ⟨by decide, by decide⟩ ⟨by decide, by decide⟩ (D_X12_qKind_0.at 39 rfl) (by decide) (fun _ => ?_) (fun c => absurd (by decide) c)
        refine J_iload_n 91 rfl 1 0 rfl (D_X12_qKind_0.at 44 rfl) ?_
        exact J_iret rfl (D_X12_qKind_0.at 45 rfl) T
      replace T := T.2 c21
      refine J_iconst 42 rfl (D_X12_qKind_0.at 19 rfl) ?_
      refine J_goto 76 (D_X12_qKind_0.at 20 rfl) (by decide) ?_
      refine J_istore_n (lv' := [(1, vI 2), (0, vR 68)]) 77 rfl 1 (by decide) rfl (D_X12_qKind_0.at 36 rfl) ?_
      refine J_iload_n 78 rfl 1 0 rfl (D_X12_qKind_0.at 37 rfl) ?_
      refine J_iconst 79 rfl (D_X12_qKind_0.at 38 rfl) ?_
      refine J_icmp_ne 82 rfl 90 ⟨by decide, by decide⟩ ⟨by decide, by decide⟩ (D_X12_qKind_0.at 39 rfl) (by decide) (fun _ => ?_) (fun c => absurd (by decide) c)
      refine J_iload_n 91 rfl 1 0 rfl (D_X12_qKind_0.at 44 rfl) ?_
      exact J_iret rfl (D_X12_qKind_0.at 45 rfl) T
    replace T := T.2 c22
    refine J_iconst 27 rfl (D_X12_qKind_0.at 12 rfl) ?_
    refine J_goto 76 (D_X12_qKind_0.at 13 rfl) (by decide) ?_
    refine J_istore_n (lv' := [(1, vI 1), (0, vR 68)]) 77 rfl 1 (by decide) rfl (D_X12_qKind_0.at 36 rfl) ?_
    refine J_iload_n 78 rfl 1 0 rfl (D_X12_qKind_0.at 37 rfl) ?_
    refine J_iconst 79 rfl (D_X12_qKind_0.at 38 rfl) ?_
    refine J_icmp_ne 82 rfl 90 ⟨by decide, by decide⟩ ⟨by decide, by decide⟩ (D_X12_qKind_0.at 39 rfl) (by decide) (fun _ => ?_) (fun c => absurd (by decide) c)
    refine J_iload_n 91 rfl 1 0 rfl (D_X12_qKind_0.at 44 rfl) ?_
    exact J_iret rfl (D_X12_qKind_0.at 45 rfl) T
  replace T := T.2 c23
  refine J_iconst 12 rfl (D_X12_qKind_0.at 5 rfl) ?_
  refine J_goto 76 (D_X12_qKind_0.at 6 rfl) (by decide) ?_
  refine J_istore_n (lv' := [(1, vI 0), (0, vR 68)]) 77 rfl 1 (by decide) rfl (D_X12_qKind_0.at 36 rfl) ?_
  refine J_iload_n 78 rfl 1 0 rfl (D_X12_qKind_0.at 37 rfl) ?_
  refine J_iconst 79 rfl (D_X12_qKind_0.at 38 rfl) ?_
  refine J_icmp_ne 82 rfl 90 ⟨by decide, by decide⟩ ⟨by decide, by decide⟩ (D_X12_qKind_0.at 39 rfl) (by decide) (fun _ => ?_) (fun c => absurd (by decide) c)
  refine J_iload_n 91 rfl 1 0 rfl (D_X12_qKind_0.at 44 rfl) ?_
  exact J_iret rfl (D_X12_qKind_0.at 45 rfl) T
theorem c_X12_qAsksWord {w : Wd} {a1 : Int} {h : Hp} {K : Int → Hp → Prop} (T : (inR a1) ∧ ((a1 = 0 → C_X12_asks w 128 h (fun _ h4 => K 0 h4)) ∧ (a1 = 1 → C_X12_asks w 129 h (fun _ h7 => K 0 h7)) ∧ (a1 = 2 → C_X12_asks w 130 h (fun _ h10 => K 0 h10)) ∧ (a1 = 3 → C_X12_asks w 131 h (fun _ h13 => K 0 h13)) ∧ ((a1 < 0 ∨ 3 < a1) → C_X12_asks w 132 h (fun _ h16 => K 0 h16)))) : C_X12_qAsksWord w a1 h K := by
  refine CGm_of2 (by decide) (by decide) trivial (Nat.le_of_ble_eq_true rfl) ?_
  refine J_iload_n 1 rfl 1 1 rfl (D_X12_qAsksWord_0.at 0 rfl) ?_
  obtain ⟨s1, T⟩ := T
  have tg : a1 = 0 ∨ a1 = 1 ∨ a1 = 2 ∨ a1 = 3 ∨ (a1 < 0 ∨ 3 < a1) := by omega
  rcases tg with g2 | g2 | g2 | g2 | g2
  · replace T := T.1 g2
    refine J_tab 31 32 s1 (D_X12_qAsksWord_0.at 1 rfl) ⟨by omega, by omega⟩ (by rw [g2]; rfl) (by decide) ?_
    refine J_aload_n 33 rfl 0 0 rfl ⟨by decide, by decide⟩ (D_X12_qAsksWord_0.at 2 rfl) ?_
    refine J_aload_n 34 rfl 0 0 rfl ⟨by decide, by decide⟩ (D_X12_qAsksWord_0.at 3 rfl) ?_
    refine J_getF (ov := 128) (dd := 1060) 37 rfl fl_12_197 rfl (by decide) rfl ob_68 (Ob.lt ob_68) (D_X12_qAsksWord_0.at 4 rfl) ?_
    refine J_callV (d' := 4) (sr := fun z => []) (as := [vR 128]) (st := []) (o := 68) 40 rfl ok_X12_asks im_X12_asks se_X12_asks ml_12_301 isC_12 ob_68 (Ob.lt ob_68) rfl (by decide) ⟨Nat.le_refl _, Nat.le_refl _⟩ (Nat.le_of_ble_eq_true rfl) (D_X12_qAsksWord_0.at 5 rfl) (fun _ => rfl) T (fun r3 h4 T b5 => ?_)
    refine J_goto 84 (D_X12_qAsksWord_0.at 6 rfl) (by decide) ?_
    exact J_vret rfl (D_X12_qAsksWord_0.at 26 rfl) T
  · replace T := T.2.1 g2
    refine J_tab 42 43 s1 (D_X12_qAsksWord_0.at 1 rfl) ⟨by omega, by omega⟩ (by rw [g2]; rfl) (by decide) ?_
    refine J_aload_n 44 rfl 0 0 rfl ⟨by decide, by decide⟩ (D_X12_qAsksWord_0.at 7 rfl) ?_
    refine J_aload_n 45 rfl 0 0 rfl ⟨by decide, by decide⟩ (D_X12_qAsksWord_0.at 8 rfl) ?_
    refine J_getF (ov := 129) (dd := 1061) 48 rfl fl_12_200 rfl (by decide) rfl ob_68 (Ob.lt ob_68) (D_X12_qAsksWord_0.at 9 rfl) ?_
    refine J_callV (d' := 4) (sr := fun z => []) (as := [vR 129]) (st := []) (o := 68) 51 rfl ok_X12_asks im_X12_asks se_X12_asks ml_12_301 isC_12 ob_68 (Ob.lt ob_68) rfl (by decide) ⟨Nat.le_refl _, Nat.le_refl _⟩ (Nat.le_of_ble_eq_true rfl) (D_X12_qAsksWord_0.at 10 rfl) (fun _ => rfl) T (fun r6 h7 T b8 => ?_)
    refine J_goto 84 (D_X12_qAsksWord_0.at 11 rfl) (by decide) ?_
    exact J_vret rfl (D_X12_qAsksWord_0.at 26 rfl) T
  · replace T := T.2.2.1 g2
    refine J_tab 53 54 s1 (D_X12_qAsksWord_0.at 1 rfl) ⟨by omega, by omega⟩ (by rw [g2]; rfl) (by decide) ?_
    refine J_aload_n 55 rfl 0 0 rfl ⟨by decide, by decide⟩ (D_X12_qAsksWord_0.at 12 rfl) ?_
    refine J_aload_n 56 rfl 0 0 rfl ⟨by decide, by decide⟩ (D_X12_qAsksWord_0.at 13 rfl) ?_
    refine J_getF (ov := 130) (dd := 1062) 59 rfl fl_12_203 rfl (by decide) rfl ob_68 (Ob.lt ob_68) (D_X12_qAsksWord_0.at 14 rfl) ?_
    refine J_callV (d' := 4) (sr := fun z => []) (as := [vR 130]) (st := []) (o := 68) 62 rfl ok_X12_asks im_X12_asks se_X12_asks ml_12_301 isC_12 ob_68 (Ob.lt ob_68) rfl (by decide) ⟨Nat.le_refl _, Nat.le_refl _⟩ (Nat.le_of_ble_eq_true rfl) (D_X12_qAsksWord_0.at 15 rfl) (fun _ => rfl) T (fun r9 h10 T b11 => ?_)
    refine J_goto 84 (D_X12_qAsksWord_0.at 16 rfl) (by decide) ?_
    exact J_vret rfl (D_X12_qAsksWord_0.at 26 rfl) T
  · replace T := T.2.2.2.1 g2
    refine J_tab 64 65 s1 (D_X12_qAsksWord_0.at 1 rfl) ⟨by omega, by omega⟩ (by rw [g2]; rfl) (by decide) ?_
    refine J_aload_n 66 rfl 0 0 rfl ⟨by decide, by decide⟩ (D_X12_qAsksWord_0.at 17 rfl) ?_
    refine J_aload_n 67 rfl 0 0 rfl ⟨by decide, by decide⟩ (D_X12_qAsksWord_0.at 18 rfl) ?_
    refine J_getF (ov := 131) (dd := 1063) 70 rfl fl_12_206 rfl (by decide) rfl ob_68 (Ob.lt ob_68) (D_X12_qAsksWord_0.at 19 rfl) ?_
    refine J_callV (d' := 4) (sr := fun z => []) (as := [vR 131]) (st := []) (o := 68) 73 rfl ok_X12_asks im_X12_asks se_X12_asks ml_12_301 isC_12 ob_68 (Ob.lt ob_68) rfl (by decide) ⟨Nat.le_refl _, Nat.le_refl _⟩ (Nat.le_of_ble_eq_true rfl) (D_X12_qAsksWord_0.at 20 rfl) (fun _ => rfl) T (fun r12 h13 T b14 => ?_)
    refine J_goto 84 (D_X12_qAsksWord_0.at 21 rfl) (by decide) ?_
    exact J_vret rfl (D_X12_qAsksWord_0.at 26 rfl) T
  · replace T := T.2.2.2.2 g2
    refine J_tabO 76 s1 (D_X12_qAsksWord_0.at 1 rfl) g2 (by decide) ?_
    refine J_aload_n 77 rfl 0 0 rfl ⟨by decide, by decide⟩ (D_X12_qAsksWord_0.at 22 rfl) ?_
    refine J_aload_n 78 rfl 0 0 rfl ⟨by decide, by decide⟩ (D_X12_qAsksWord_0.at 23 rfl) ?_
    refine J_getF (ov := 132) (dd := 1064) 81 rfl fl_12_209 rfl (by decide) rfl ob_68 (Ob.lt ob_68) (D_X12_qAsksWord_0.at 24 rfl) ?_
    refine J_callV (d' := 4) (sr := fun z => []) (as := [vR 132]) (st := []) (o := 68) 84 rfl ok_X12_asks im_X12_asks se_X12_asks ml_12_301 isC_12 ob_68 (Ob.lt ob_68) rfl (by decide) ⟨Nat.le_refl _, Nat.le_refl _⟩ (Nat.le_of_ble_eq_true rfl) (D_X12_qAsksWord_0.at 25 rfl) (fun _ => rfl) T (fun r15 h16 T b17 => ?_)
    exact J_vret rfl (D_X12_qAsksWord_0.at 26 rfl) T
theorem c_X12_qTold {w : Wd} {a1 : Int} {h : Hp} {K : Int → Hp → Prop} (T : ∀ h1 : Hp, h1 = hu h 68 93 0 → L_X12_qTold_7 w a1 0 h1 K) : C_X12_qTold w a1 h K := by
  refine CGm_of2 (by decide) (by decide) trivial (Nat.le_of_ble_eq_true rfl) ?_
  refine J_aload_n 1 rfl 0 0 rfl ⟨by decide, by decide⟩ (D_X12_qTold_0.at 0 rfl) ?_
  refine J_iconst 2 rfl (D_X12_qTold_0.at 1 rfl) ?_
  refine J_putI 5 rfl fl_12_640 rfl rfl ob_68 (Ob.lt ob_68) (D_X12_qTold_0.at 2 rfl) (fun h1 e2 => ?_)
  replace T := T h1 e2
  refine J_iconst 6 rfl (D_X12_qTold_0.at 3 rfl) ?_
  refine J_istore_n (lv' := [(2, vI 0), (0, vR 68), (1, vI a1)]) 7 rfl 2 (by decide) rfl (D_X12_qTold_0.at 4 rfl) ?_
  exact J_sub (lv' := [(0, vR 68), (1, vI a1), (2, vI 0)]) [1, 2, 0] rfl T
theorem l_X12_qTold_7 {w : Wd} {v1 v2 : Int} {h : Hp} {K : Int → Hp → Prop} (T : (inR v2) ∧ ((inR (h 68 87)) ∧ (((v2 ≥ (h 68 87)) → (K (h 135 0) h)) ∧ (¬ (v2 ≥ (h 68 87)) → ((0 ≤ v2 ∧ v2 < 1700) ∧ ((inR (h 133 v2)) ∧ ((((h 133 v2) < 1000) → ((inR (h 133 v2)) ∧ ((((h 133 v2) < 60) → ((inR (h 133 v2)) ∧ ((((h 133 v2) < 40) → ((inR (h 133 v2)) ∧ ((((h 133 v2) ≠ 13) → ((inR (h 133 v2)) ∧ ((((h 133 v2) ≠ 12) → (C_X12_qJoins w (h 133 v2) h (fun _ h12 => L_X12_qTold_7 w v1 (v2 + 1) h12 K))) ∧ (¬ ((h 133 v2) ≠ 12) → ((0 ≤ ((h 68 93) - 1) ∧ ((h 68 93) - 1) < 1700) ∧ ((0 ≤ ((h 68 93) - 1) ∧ ((h 68 93) - 1) < 1700) ∧ (∀ h16 : Hp, h16 = hu h 135 ((h 68 93) - 1) (1 - (h 135 ((h 68 93) - 1))) → L_X12_qTold_7 w v1 (v2 + 1) h16 K))))))) ∧ (¬ ((h 133 v2) ≠ 13) → (C_X12_qPuts w 1 h (fun _ h20 => L_X12_qTold_7 w v1 (v2 + 1) h20 K)))))) ∧ (¬ ((h 133 v2) < 40) → (C_X12_qPartOf w ((h 133 v2) - 40) v1 h (fun r23 h24 => C_X12_qClip w r23 h24 (fun r26 h27 => C_X12_qPuts w r26 h27 (fun _ h30 => L_X12_qTold_7 w v1 (v2 + 1) h30 K)))))))) ∧ (¬ ((h 133 v2) < 60) → ((0 ≤ ((h 68 93) - 1) ∧ ((h 68 93) - 1) < 1700) ∧ (C_X12_qOf w ((h 133 v2) - 60) (h 135 ((h 68 93) - 1)) v1 h (fun r34 h35 => C_X12_qClip w r34 h35 (fun r37 h38 => (0 ≤ ((h 68 93) - 1) ∧ ((h 68 93) - 1) < 1700) ∧ (∀ h41 : Hp, h41 = hu h38 135 ((h 68 93) - 1) r37 → L_X12_qTold_7 w v1 (v2 + 1) h41 K))))))))) ∧ (¬ ((h 133 v2) < 1000) → ((inR ((h 133 v2) - 1000)) ∧ (C_X12_qPuts w ((h 133 v2) - 1000) h (fun _ h46 => L_X12_qTold_7 w v1 (v2 + 1) h46 K))))))))))) : L_X12_qTold_7 w v1 v2 h K := by
  unfold L_X12_qTold_7
  refine J_iload_n 8 rfl 2 2 rfl (D_X12_qTold_0.at 5 rfl) ?_
  refine J_aload_n 9 rfl 0 0 rfl ⟨by decide, by decide⟩ (D_X12_qTold_0.at 6 rfl) ?_
  refine J_getI (z := (h 68 87)) 12 rfl fl_12_574 rfl ob_68 (Ob.lt ob_68) (D_X12_qTold_0.at 7 rfl) rfl ?_
  obtain ⟨s3, T⟩ := T
  obtain ⟨s4, T⟩ := T
  refine J_icmp_ge 15 rfl 168 s3 s4 (D_X12_qTold_0.at 8 rfl) (by decide) (fun c49 => ?_) (fun c49 => ?_)
  · replace T := T.1 c49
    refine J_aload_n 169 rfl 0 0 rfl ⟨by decide, by decide⟩ (D_X12_qTold_1.at 46 rfl) ?_
    refine J_getF (ov := 135) (dd := 1067) 172 rfl fl_12_218 rfl (by decide) rfl ob_68 (Ob.lt ob_68) (D_X12_qTold_1.at 47 rfl) ?_
    refine J_iconst 173 rfl (D_X12_qTold_2.at 0 rfl) ?_
    refine J_lald 174 rfl ar_135 (Ar.lt ar_135) ⟨by decide, by decide⟩ (D_X12_qTold_2.at 1 rfl) ?_
    exact J_lret rfl (D_X12_qTold_2.at 2 rfl) T
  replace T := T.2 c49
  refine J_aload_n 16 rfl 0 0 rfl ⟨by decide, by decide⟩ (D_X12_qTold_0.at 9 rfl) ?_
  refine J_getF (ov := 133) (dd := 1065) 19 rfl fl_12_212 rfl (by decide) rfl ob_68 (Ob.lt ob_68) (D_X12_qTold_0.at 10 rfl) ?_
  refine J_iload_n 20 rfl 2 2 rfl (D_X12_qTold_0.at 11 rfl) ?_
  obtain ⟨s5, T⟩ := T
  refine J_iald 21 rfl ar_133 (Ar.lt ar_133) s5 (D_X12_qTold_0.at 12 rfl) ?_
  refine J_istore_n (lv' := [(3, vI (h 133 v2)), (0, vR 68), (1, vI v1), (2, vI v2)]) 22 rfl 3 (by decide) rfl (D_X12_qTold_0.at 13 rfl) ?_
  refine J_iload_n 23 rfl 3 0 rfl (D_X12_qTold_0.at 14 rfl) ?_
  refine J_sipush 26 rfl ⟨by decide, by decide⟩ (D_X12_qTold_0.at 15 rfl) ?_
  obtain ⟨s6, T⟩ := T
  refine J_icmp_lt 29 rfl 42 s6 ⟨by decide, by decide⟩ (D_X12_qTold_0.at 16 rfl) (by decide) (fun c48 => ?_) (fun c48 => ?_)
  · replace T := T.1 c48
    refine J_iload_n 43 rfl 3 0 rfl (D_X12_qTold_0.at 24 rfl) ?_
    refine J_bipush 45 rfl ⟨by decide, by decide⟩ (D_X12_qTold_0.at 25 rfl) ?_
    obtain ⟨s7, T⟩ := T
    refine J_icmp_lt 48 rfl 85 s7 ⟨by decide, by decide⟩ (D_X12_qTold_0.at 26 rfl) (by decide) (fun c43 => ?_) (fun c43 => ?_)
    · replace T := T.1 c43
      refine J_iload_n 86 rfl 3 0 rfl (D_X12_qTold_1.at 1 rfl) ?_
      refine J_bipush 88 rfl ⟨by decide, by decide⟩ (D_X12_qTold_1.at 2 rfl) ?_
      obtain ⟨s8, T⟩ := T
      refine J_icmp_lt 91 rfl 110 s8 ⟨by decide, by decide⟩ (D_X12_qTold_1.at 3 rfl) (by decide) (fun c32 => ?_) (fun c32 => ?_)
      · replace T := T.1 c32
        refine J_iload_n 111 rfl 3 0 rfl (D_X12_qTold_1.at 14 rfl) ?_
        refine J_bipush 113 rfl ⟨by decide, by decide⟩ (D_X12_qTold_1.at 15 rfl) ?_
        obtain ⟨s9, T⟩ := T
        refine J_icmp_ne 116 rfl 124 s9 ⟨by decide, by decide⟩ (D_X12_qTold_1.at 16 rfl) (by decide) (fun c22 => ?_) (fun c22 => ?_)
        · replace T := T.1 c22
          refine J_iload_n 125 rfl 3 0 rfl (D_X12_qTold_1.at 21 rfl) ?_
          refine J_bipush 127 rfl ⟨by decide, by decide⟩ (D_X12_qTold_1.at 22 rfl) ?_
          obtain ⟨s10, T⟩ := T
          refine J_icmp_ne 130 rfl 157 s10 ⟨by decide, by decide⟩ (D_X12_qTold_1.at 23 rfl) (by decide) (fun c18 => ?_) (fun c18 => ?_)
          · replace T := T.1 c18
            refine J_aload_n 158 rfl 0 1 rfl ⟨by decide, by decide⟩ (D_X12_qTold_1.at 41 rfl) ?_
            refine J_iload_n 159 rfl 3 0 rfl (D_X12_qTold_1.at 42 rfl) ?_
            refine J_callV (d' := 2) (sr := fun z => []) (as := [vI (h 133 v2)]) (st := []) (o := 68) 162 rfl ok_X12_qJoins im_X12_qJoins se_X12_qJoins ml_12_660 isC_12 ob_68 (Ob.lt ob_68) rfl (by decide) ⟨Nat.le_refl _, Nat.le_refl _⟩ (Nat.le_of_ble_eq_true rfl) (D_X12_qTold_1.at 43 rfl) (fun _ => rfl) T (fun r11 h12 T b13 => ?_)
            refine J_iinc (v := (v2 + 1)) (lv' := [(2, vI (v2 + 1)), (3, vI (h 133 v2)), (0, vR 68), (1, vI v1)]) 165 rfl 2 3 1 rfl rfl (by decide) rfl (D_X12_qTold_1.at 44 rfl) ?_
            refine J_goto 7 (D_X12_qTold_1.at 45 rfl) (by decide) ?_
            exact J_sub (lv' := [(0, vR 68), (1, vI v1), (2, vI (v2 + 1))]) [2, 3, 0] rfl T
          replace T := T.2 c18
          refine J_aload_n 131 rfl 0 1 rfl ⟨by decide, by decide⟩ (D_X12_qTold_1.at 24 rfl) ?_
          refine J_getF (ov := 135) (dd := 1067) 134 rfl fl_12_218 rfl (by decide) rfl ob_68 (Ob.lt ob_68) (D_X12_qTold_1.at 25 rfl) ?_
          refine J_aload_n 135 rfl 0 1 rfl ⟨by decide, by decide⟩ (D_X12_qTold_1.at 26 rfl) ?_
          refine J_getI (z := (h 68 93)) 138 rfl fl_12_640 rfl ob_68 (Ob.lt ob_68) (D_X12_qTold_1.at 27 rfl) rfl ?_
          refine J_iconst 139 rfl (D_X12_qTold_1.at 28 rfl) ?_
          refine J_isub 140 rfl (D_X12_qTold_1.at 29 rfl) ?_
          refine J_lconst (z := 1) 141 rfl rfl (D_X12_qTold_1.at 30 rfl) ?_
          refine J_aload_n 142 rfl 0 1 rfl ⟨by decide, by decide⟩ (D_X12_qTold_1.at 31 rfl) ?_
          refine J_getF (ov := 135) (dd := 1067) 145 rfl fl_12_218 rfl (by decide) rfl ob_68 (Ob.lt ob_68) (D_X12_qTold_1.at 32 rfl) ?_
          refine J_aload_n 146 rfl 0 1 rfl ⟨by decide, by decide⟩ (D_X12_qTold_1.at 33 rfl) ?_
          refine J_getI (z := (h 68 93)) 149 rfl fl_12_640 rfl ob_68 (Ob.lt ob_68) (D_X12_qTold_1.at 34 rfl) rfl ?_
          refine J_iconst 150 rfl (D_X12_qTold_1.at 35 rfl) ?_
          refine J_isub 151 rfl (D_X12_qTold_1.at 36 rfl) ?_
          obtain ⟨s14, T⟩ := T
          refine J_lald 152 rfl ar_135 (Ar.lt ar_135) s14 (D_X12_qTold_1.at 37 rfl) ?_
          refine J_lsub 153 rfl (D_X12_qTold_1.at 38 rfl) ?_
          obtain ⟨s15, T⟩ := T
          refine J_lastH 154 rfl ar_135 (Ar.lt ar_135) s15 trivial (D_X12_qTold_1.at 39 rfl) (fun h16 e17 => ?_)
          replace T := T h16 e17
          refine J_goto 162 (D_X12_qTold_1.at 40 rfl) (by decide) ?_
          refine J_iinc (v := (v2 + 1)) (lv' := [(2, vI (v2 + 1)), (3, vI (h 133 v2)), (0, vR 68), (1, vI v1)]) 165 rfl 2 3 1 rfl rfl (by decide) rfl (D_X12_qTold_1.at 44 rfl) ?_
          refine J_goto 7 (D_X12_qTold_1.at 45 rfl) (by decide) ?_
          exact J_sub (lv' := [(0, vR 68), (1, vI v1), (2, vI (v2 + 1))]) [2, 3, 0] rfl T
        replace T := T.2 c22
        refine J_aload_n 117 rfl 0 1 rfl ⟨by decide, by decide⟩ (D_X12_qTold_1.at 17 rfl) ?_
        refine J_lconst (z := 1) 118 rfl rfl (D_X12_qTold_1.at 18 rfl) ?_
        refine J_callV (d' := 1) (sr := fun z => []) (as := [vL 1]) (st := []) (o := 68) 121 rfl ok_X12_qPuts im_X12_qPuts se_X12_qPuts ml_12_646 isC_12 ob_68 (Ob.lt ob_68) rfl (by decide) ⟨Nat.le_refl _, Nat.le_refl _⟩ (Nat.le_of_ble_eq_true rfl) (D_X12_qTold_1.at 19 rfl) (fun _ => rfl) T (fun r19 h20 T b21 => ?_)
        refine J_goto 162 (D_X12_qTold_1.at 20 rfl) (by decide) ?_
        refine J_iinc (v := (v2 + 1)) (lv' := [(2, vI (v2 + 1)), (3, vI (h 133 v2)), (0, vR 68), (1, vI v1)]) 165 rfl 2 3 1 rfl rfl (by decide) rfl (D_X12_qTold_1.at 44 rfl) ?_
        refine J_goto 7 (D_X12_qTold_1.at 45 rfl) (by decide) ?_
        exact J_sub (lv' := [(0, vR 68), (1, vI v1), (2, vI (v2 + 1))]) [2, 3, 0] rfl T
      replace T := T.2 c32
      refine J_aload_n 92 rfl 0 1 rfl ⟨by decide, by decide⟩ (D_X12_qTold_1.at 4 rfl) ?_
      refine J_aload_n 93 rfl 0 1 rfl ⟨by decide, by decide⟩ (D_X12_qTold_1.at 5 rfl) ?_
      refine J_iload_n 94 rfl 3 0 rfl (D_X12_qTold_1.at 6 rfl) ?_
      refine J_bipush 96 rfl ⟨by decide, by decide⟩ (D_X12_qTold_1.at 7 rfl) ?_
      refine J_isub 97 rfl (D_X12_qTold_1.at 8 rfl) ?_
      refine J_iload_n 98 rfl 1 2 rfl (D_X12_qTold_1.at 9 rfl) ?_
      refine J_callV (d' := 2) (sr := fun z => [vL z, vR 68]) (as := [vI ((h 133 v2) - 40), vI v1]) (st := [vR 68]) (o := 68) 101 rfl ok_X12_qPartOf im_X12_qPartOf se_X12_qPartOf ml_12_656 isC_12 ob_68 (Ob.lt ob_68) rfl (by decide) ⟨Nat.le_refl _, Nat.le_refl _⟩ (Nat.le_of_ble_eq_true rfl) (D_X12_qTold_1.at 10 rfl) (fun _ => rfl) T (fun r23 h24 T b25 => ?_)
      refine J_callS (d' := 1) (sr := fun z => [vL z, vR 68]) (as := [vL r23]) (st := [vR 68]) 104 rfl ok_X12_qClip sm_X12_qClip ml_12_643 rfl (by decide) ⟨Nat.le_refl _, Nat.le_refl _⟩ (Nat.le_of_ble_eq_true rfl) (D_X12_qTold_1.at 11 rfl) (fun _ => rfl) T (fun r26 h27 T b28 => ?_)
      refine J_callV (d' := 1) (sr := fun z => []) (as := [vL r26]) (st := []) (o := 68) 107 rfl ok_X12_qPuts im_X12_qPuts se_X12_qPuts ml_12_646 isC_12 ob_68 (Ob.lt ob_68) rfl (by decide) ⟨Nat.le_refl _, Nat.le_refl _⟩ (Nat.le_of_ble_eq_true rfl) (D_X12_qTold_1.at 12 rfl) (fun _ => rfl) T (fun r29 h30 T b31 => ?_)
      refine J_goto 162 (D_X12_qTold_1.at 13 rfl) (by decide) ?_
      refine J_iinc (v := (v2 + 1)) (lv' := [(2, vI (v2 + 1)), (3, vI (h 133 v2)), (0, vR 68), (1, vI v1)]) 165 rfl 2 3 1 rfl rfl (by decide) rfl (D_X12_qTold_1.at 44 rfl) ?_
      refine J_goto 7 (D_X12_qTold_1.at 45 rfl) (by decide) ?_
      exact J_sub (lv' := [(0, vR 68), (1, vI v1), (2, vI (v2 + 1))]) [2, 3, 0] rfl T
    replace T := T.2 c43
    refine J_aload_n 49 rfl 0 1 rfl ⟨by decide, by decide⟩ (D_X12_qTold_0.at 27 rfl) ?_
    refine J_getF (ov := 135) (dd := 1067) 52 rfl fl_12_218 rfl (by decide) rfl ob_68 (Ob.lt ob_68) (D_X12_qTold_0.at 28 rfl) ?_
    refine J_aload_n 53 rfl 0 1 rfl ⟨by decide, by decide⟩ (D_X12_qTold_0.at 29 rfl) ?_
    refine J_getI (z := (h 68 93)) 56 rfl fl_12_640 rfl ob_68 (Ob.lt ob_68) (D_X12_qTold_0.at 30 rfl) rfl ?_
    refine J_iconst 57 rfl (D_X12_qTold_0.at 31 rfl) ?_
    refine J_isub 58 rfl (D_X12_qTold_0.at 32 rfl) ?_
    refine J_aload_n 59 rfl 0 1 rfl ⟨by decide, by decide⟩ (D_X12_qTold_0.at 33 rfl) ?_
    refine J_iload_n 60 rfl 3 0 rfl (D_X12_qTold_0.at 34 rfl) ?_
    refine J_bipush 62 rfl ⟨by decide, by decide⟩ (D_X12_qTold_0.at 35 rfl) ?_
    refine J_isub 63 rfl (D_X12_qTold_0.at 36 rfl) ?_
    refine J_aload_n 64 rfl 0 1 rfl ⟨by decide, by decide⟩ (D_X12_qTold_0.at 37 rfl) ?_
    refine J_getF (ov := 135) (dd := 1067) 67 rfl fl_12_218 rfl (by decide) rfl ob_68 (Ob.lt ob_68) (D_X12_qTold_0.at 38 rfl) ?_
    refine J_aload_n 68 rfl 0 1 rfl ⟨by decide, by decide⟩ (D_X12_qTold_0.at 39 rfl) ?_
    refine J_getI (z := (h 68 93)) 71 rfl fl_12_640 rfl ob_68 (Ob.lt ob_68) (D_X12_qTold_0.at 40 rfl) rfl ?_
    refine J_iconst 72 rfl (D_X12_qTold_0.at 41 rfl) ?_
    refine J_isub 73 rfl (D_X12_qTold_0.at 42 rfl) ?_
    obtain ⟨s33, T⟩ := T
    refine J_lald 74 rfl ar_135 (Ar.lt ar_135) s33 (D_X12_qTold_0.at 43 rfl) ?_
    refine J_iload_n 75 rfl 1 2 rfl (D_X12_qTold_0.at 44 rfl) ?_
    refine J_callV (d' := 4) (sr := fun z => [vL z, vI ((h 68 93) - 1), vR 135]) (as := [vI ((h 133 v2) - 60), vL (h 135 ((h 68 93) - 1)), vI v1]) (st := [vI ((h 68 93) - 1), vR 135]) (o := 68) 78 rfl ok_X12_qOf im_X12_qOf se_X12_qOf ml_12_652 isC_12 ob_68 (Ob.lt ob_68) rfl (by decide) ⟨Nat.le_refl _, Nat.le_refl _⟩ (Nat.le_of_ble_eq_true rfl) (D_X12_qTold_0.at 45 rfl) (fun _ => rfl) T (fun r34 h35 T b36 => ?_)
    refine J_callS (d' := 1) (sr := fun z => [vL z, vI ((h 68 93) - 1), vR 135]) (as := [vL r34]) (st := [vI ((h 68 93) - 1), vR 135]) 81 rfl ok_X12_qClip sm_X12_qClip ml_12_643 rfl (by decide) ⟨Nat.le_refl _, Nat.le_refl _⟩ (Nat.le_of_ble_eq_true rfl) (D_X12_qTold_0.at 46 rfl) (fun _ => rfl) T (fun r37 h38 T b39 => ?_)
    obtain ⟨s40, T⟩ := T
    refine J_lastH 82 rfl ar_135 (Ar.lt ar_135) s40 trivial (D_X12_qTold_0.at 47 rfl) (fun h41 e42 => ?_)
    replace T := T h41 e42
    refine J_goto 162 (D_X12_qTold_1.at 0 rfl) (by decide) ?_
    refine J_iinc (v := (v2 + 1)) (lv' := [(2, vI (v2 + 1)), (3, vI (h 133 v2)), (0, vR 68), (1, vI v1)]) 165 rfl 2 3 1 rfl rfl (by decide) rfl (D_X12_qTold_1.at 44 rfl) ?_
    refine J_goto 7 (D_X12_qTold_1.at 45 rfl) (by decide) ?_
    exact J_sub (lv' := [(0, vR 68), (1, vI v1), (2, vI (v2 + 1))]) [2, 3, 0] rfl T
  replace T := T.2 c48
  refine J_aload_n 30 rfl 0 1 rfl ⟨by decide, by decide⟩ (D_X12_qTold_0.at 17 rfl) ?_
  refine J_iload_n 31 rfl 3 0 rfl (D_X12_qTold_0.at 18 rfl) ?_
  refine J_sipush 34 rfl ⟨by decide, by decide⟩ (D_X12_qTold_0.at 19 rfl) ?_
  refine J_isub 35 rfl (D_X12_qTold_0.at 20 rfl) ?_
  obtain ⟨s44, T⟩ := T
  refine J_i2l 36 rfl s44 (D_X12_qTold_0.at 21 rfl) ?_
  refine J_callV (d' := 1) (sr := fun z => []) (as := [vL ((h 133 v2) - 1000)]) (st := []) (o := 68) 39 rfl ok_X12_qPuts im_X12_qPuts se_X12_qPuts ml_12_646 isC_12 ob_68 (Ob.lt ob_68) rfl (by decide) ⟨Nat.le_refl _, Nat.le_refl _⟩ (Nat.le_of_ble_eq_true rfl) (D_X12_qTold_0.at 22 rfl) (fun _ => rfl) T (fun r45 h46 T b47 => ?_)
  refine J_goto 162 (D_X12_qTold_0.at 23 rfl) (by decide) ?_
  refine J_iinc (v := (v2 + 1)) (lv' := [(2, vI (v2 + 1)), (3, vI (h 133 v2)), (0, vR 68), (1, vI v1)]) 165 rfl 2 3 1 rfl rfl (by decide) rfl (D_X12_qTold_1.at 44 rfl) ?_
  refine J_goto 7 (D_X12_qTold_1.at 45 rfl) (by decide) ?_
  exact J_sub (lv' := [(0, vR 68), (1, vI v1), (2, vI (v2 + 1))]) [2, 3, 0] rfl T
theorem c_X12_qPartTold {w : Wd} {h : Hp} {K : Int → Hp → Prop} (T : L_X12_qPartTold_2 w 1 h K) : C_X12_qPartTold w h K := by
  refine CGm_of2 (by decide) (by decide) trivial (Nat.le_of_ble_eq_true rfl) ?_
  refine J_iconst 1 rfl (D_X12_qPartTold_0.at 0 rfl) ?_
  refine J_istore_n (lv' := [(1, vI 1), (0, vR 68)]) 2 rfl 1 (by decide) rfl (D_X12_qPartTold_0.at 1 rfl) ?_
  exact J_sub (lv' := [(0, vR 68), (1, vI 1)]) [1, 0] rfl T
theorem l_X12_qPartTold_2 {w : Wd} {v1 : Int} {h : Hp} {K : Int → Hp → Prop} (T : (inR v1) ∧ (((v1 = 0) → (L_X12_qPartTold_183 w h K)) ∧ (¬ (v1 = 0) → ((inR (h 68 5)) ∧ ((((h 68 5) ≠ 0) → (L_X12_qPartTold_183 w h K)) ∧ (¬ ((h 68 5) ≠ 0) → (C_X12_look w h (fun r3 h4 => C_X12_qWordOf w 3 5 h4 (fun r6 h7 => (inR r3) ∧ (((r3 ≠ 40) → (C_X12_isHere w 126 h7 (fun r10 h11 => (r10 = 0 ∨ r10 = 1) → ((r10 ≠ 0) → (L_X12_qPartTold_76 w v1 h11 K)) ∧ (¬ (r10 ≠ 0) → (C_X12_isHere w 127 h11 (fun r13 h14 => (r13 = 0 ∨ r13 = 1) → ((r13 = 0) → ((inR r6) ∧ (((r6 = (-1)) → (L_X12_qPartTold_180 w 0 h14 K)) ∧ (¬ (r6 = (-1)) → (C_X12_qOpens w ((60 + r6) - 3) (h14 68 2) h14 (fun _ h18 => C_X12_qAsksWord w r6 h18 (fun _ h21 => L_X12_qPartTold_180 w v1 h21 K))))))) ∧ (¬ (r13 = 0) → (L_X12_qPartTold_76 w v1 h14 K)))))))) ∧ (¬ (r3 ≠ 40) → (C_X12_qOpens w 20 (h7 68 2) h7 (fun _ h27 => ∀ h29 : Hp, h29 = hu h27 68 2 ((h27 68 2) + 1) → L_X12_qPartTold_180 w v1 h29 K))))))))))))) : L_X12_qPartTold_2 w v1 h K := by
  unfold L_X12_qPartTold_2
  refine J_iload_n 3 rfl 1 1 rfl (D_X12_qPartTold_0.at 2 rfl) ?_
  obtain ⟨s1, T⟩ := T
  refine J_if_eq 6 rfl 183 s1 (D_X12_qPartTold_0.at 3 rfl) (by decide) (fun c33 => ?_) (fun c33 => ?_)
  · replace T := T.1 c33
    exact J_sub (lv' := [(0, vR 68)]) [0] rfl T
  replace T := T.2 c33
  refine J_aload_n 7 rfl 0 0 rfl ⟨by decide, by decide⟩ (D_X12_qPartTold_0.at 4 rfl) ?_
  refine J_getI (z := (h 68 5)) 10 rfl fl_12_227 rfl ob_68 (Ob.lt ob_68) (D_X12_qPartTold_0.at 5 rfl) rfl ?_
  obtain ⟨s2, T⟩ := T
  refine J_if_ne 13 rfl 183 s2 (D_X12_qPartTold_0.at 6 rfl) (by decide) (fun c32 => ?_) (fun c32 => ?_)
  · replace T := T.1 c32
    exact J_sub (lv' := [(0, vR 68)]) [0] rfl T
  replace T := T.2 c32
  refine J_aload_n 14 rfl 0 0 rfl ⟨by decide, by decide⟩ (D_X12_qPartTold_0.at 7 rfl) ?_
  refine J_callV (d' := 1) (sr := fun z => [vI z]) (as := []) (st := []) (o := 68) 17 rfl ok_X12_look im_X12_look se_X12_look ml_12_239 isC_12 ob_68 (Ob.lt ob_68) rfl (by decide) ⟨Nat.le_refl _, Nat.le_refl _⟩ (Nat.le_of_ble_eq_true rfl) (D_X12_qPartTold_0.at 8 rfl) (fun _ => rfl) T (fun r3 h4 T b5 => ?_)
  refine J_istore_n (lv' := [(2, vI r3), (0, vR 68), (1, vI v1)]) 18 rfl 2 (by decide) rfl (D_X12_qPartTold_0.at 9 rfl) ?_
  refine J_aload_n 19 rfl 0 1 rfl ⟨by decide, by decide⟩ (D_X12_qPartTold_0.at 10 rfl) ?_
  refine J_iconst 20 rfl (D_X12_qPartTold_0.at 11 rfl) ?_
  refine J_iconst 21 rfl (D_X12_qPartTold_0.at 12 rfl) ?_
  refine J_callV (d' := 4) (sr := fun z => [vI z]) (as := [vI 3, vI 5]) (st := []) (o := 68) 24 rfl ok_X12_qWordOf im_X12_qWordOf se_X12_qWordOf ml_12_598 isC_12 ob_68 (Ob.lt ob_68) rfl (by decide) ⟨Nat.le_refl _, Nat.le_refl _⟩ (Nat.le_of_ble_eq_true rfl) (D_X12_qPartTold_0.at 13 rfl) (fun _ => rfl) T (fun r6 h7 T b8 => ?_)
  refine J_istore_n (lv' := [(3, vI r6), (2, vI r3), (0, vR 68), (1, vI v1)]) 25 rfl 3 (by decide) rfl (D_X12_qPartTold_0.at 14 rfl) ?_
  refine J_iload_n 26 rfl 2 1 rfl (D_X12_qPartTold_0.at 15 rfl) ?_
  refine J_bipush 28 rfl ⟨by decide, by decide⟩ (D_X12_qPartTold_0.at 16 rfl) ?_
  obtain ⟨s9, T⟩ := T
  refine J_icmp_ne 31 rfl 54 s9 ⟨by decide, by decide⟩ (D_X12_qPartTold_0.at 17 rfl) (by decide) (fun c31 => ?_) (fun c31 => ?_)
  · replace T := T.1 c31
    refine J_aload_n 55 rfl 0 2 rfl ⟨by decide, by decide⟩ (D_X12_qPartTold_0.at 30 rfl) ?_
    refine J_aload_n 56 rfl 0 2 rfl ⟨by decide, by decide⟩ (D_X12_qPartTold_0.at 31 rfl) ?_
    refine J_getF (ov := 126) (dd := 1058) 59 rfl fl_12_191 rfl (by decide) rfl ob_68 (Ob.lt ob_68) (D_X12_qPartTold_0.at 32 rfl) ?_
    refine J_callV (d' := 2) (sr := fun z => [vI z]) (as := [vR 126]) (st := []) (o := 68) 62 rfl ok_X12_isHere im_X12_isHere se_X12_isHere ml_12_250 isC_12 ob_68 (Ob.lt ob_68) rfl (by decide) ⟨Nat.le_refl _, Nat.le_refl _⟩ (Nat.le_of_ble_eq_true rfl) (D_X12_qPartTold_0.at 33 rfl) (fun _ => rfl) T (fun r10 h11 T b12 => ?_)
    replace T := T b12
    refine J_if_ne 65 rfl 76 (inR_b b12) (D_X12_qPartTold_0.at 34 rfl) (by decide) (fun c25 => ?_) (fun c25 => ?_)
    · replace T := T.1 c25
      exact J_sub (lv' := [(0, vR 68), (1, vI v1)]) [2, 3] rfl T
    replace T := T.2 c25
    refine J_aload_n 66 rfl 0 2 rfl ⟨by decide, by decide⟩ (D_X12_qPartTold_0.at 35 rfl) ?_
    refine J_aload_n 67 rfl 0 2 rfl ⟨by decide, by decide⟩ (D_X12_qPartTold_0.at 36 rfl) ?_
    refine J_getF (ov := 127) (dd := 1059) 70 rfl fl_12_194 rfl (by decide) rfl ob_68 (Ob.lt ob_68) (D_X12_qPartTold_0.at 37 rfl) ?_
    refine J_callV (d' := 2) (sr := fun z => [vI z]) (as := [vR 127]) (st := []) (o := 68) 73 rfl ok_X12_isHere im_X12_isHere se_X12_isHere ml_12_250 isC_12 ob_68 (Ob.lt ob_68) rfl (by decide) ⟨Nat.le_refl _, Nat.le_refl _⟩ (Nat.le_of_ble_eq_true rfl) (D_X12_qPartTold_0.at 38 rfl) (fun _ => rfl) T (fun r13 h14 T b15 => ?_)
    replace T := T b15
    refine J_if_eq 76 rfl 151 (inR_b b15) (D_X12_qPartTold_0.at 39 rfl) (by decide) (fun c24 => ?_) (fun c24 => ?_)
    · replace T := T.1 c24
      refine J_iload_n 152 rfl 3 0 rfl (D_X12_qPartTold_1.at 27 rfl) ?_
      refine J_iconst 153 rfl (D_X12_qPartTold_1.at 28 rfl) ?_
      obtain ⟨s16, T⟩ := T
      refine J_icmp_eq 156 rfl 178 s16 ⟨by decide, by decide⟩ (D_X12_qPartTold_1.at 29 rfl) (by decide) (fun c23 => ?_) (fun c23 => ?_)
      · replace T := T.1 c23
        refine J_iconst 179 rfl (D_X12_qPartTold_1.at 43 rfl) ?_
        refine J_istore_n (lv' := [(1, vI 0), (3, vI r6), (2, vI r3), (0, vR 68)]) 180 rfl 1 (by decide) rfl (D_X12_qPartTold_1.at 44 rfl) ?_
        exact J_sub (lv' := [(0, vR 68), (1, vI 0)]) [3, 0] rfl T
      replace T := T.2 c23
      refine J_aload_n 157 rfl 0 2 rfl ⟨by decide, by decide⟩ (D_X12_qPartTold_1.at 30 rfl) ?_
      refine J_bipush 159 rfl ⟨by decide, by decide⟩ (D_X12_qPartTold_1.at 31 rfl) ?_
      refine J_iload_n 160 rfl 3 0 rfl (D_X12_qPartTold_1.at 32 rfl) ?_
      refine J_iadd 161 rfl (D_X12_qPartTold_1.at 33 rfl) ?_
      refine J_iconst 162 rfl (D_X12_qPartTold_1.at 34 rfl) ?_
      refine J_isub 163 rfl (D_X12_qPartTold_1.at 35 rfl) ?_
      refine J_aload_n 164 rfl 0 2 rfl ⟨by decide, by decide⟩ (D_X12_qPartTold_1.at 36 rfl) ?_
      refine J_getI (z := (h14 68 2)) 167 rfl fl_12_233 rfl ob_68 (Ob.lt ob_68) (D_X12_qPartTold_1.at 37 rfl) rfl ?_
      refine J_callV (d' := 2) (sr := fun z => []) (as := [vI ((60 + r6) - 3), vI (h14 68 2)]) (st := []) (o := 68) 170 rfl ok_X12_qOpens im_X12_qOpens se_X12_qOpens ml_12_601 isC_12 ob_68 (Ob.lt ob_68) rfl (by decide) ⟨Nat.le_refl _, Nat.le_refl _⟩ (Nat.le_of_ble_eq_true rfl) (D_X12_qPartTold_1.at 38 rfl) (fun _ => rfl) T (fun r17 h18 T b19 => ?_)
      refine J_aload_n 171 rfl 0 2 rfl ⟨by decide, by decide⟩ (D_X12_qPartTold_1.at 39 rfl) ?_
      refine J_iload_n 172 rfl 3 0 rfl (D_X12_qPartTold_1.at 40 rfl) ?_
      refine J_callV (d' := 5) (sr := fun z => []) (as := [vI r6]) (st := []) (o := 68) 175 rfl ok_X12_qAsksWord im_X12_qAsksWord se_X12_qAsksWord ml_12_604 isC_12 ob_68 (Ob.lt ob_68) rfl (by decide) ⟨Nat.le_refl _, Nat.le_refl _⟩ (Nat.le_of_ble_eq_true rfl) (D_X12_qPartTold_1.at 41 rfl) (fun _ => rfl) T (fun r20 h21 T b22 => ?_)
      refine J_goto 180 (D_X12_qPartTold_1.at 42 rfl) (by decide) ?_
      exact J_sub (lv' := [(0, vR 68), (1, vI v1)]) [2, 3] rfl T
    replace T := T.2 c24
    exact J_sub (lv' := [(0, vR 68), (1, vI v1)]) [2, 3] rfl T
  replace T := T.2 c31
  refine J_aload_n 32 rfl 0 2 rfl ⟨by decide, by decide⟩ (D_X12_qPartTold_0.at 18 rfl) ?_
  refine J_bipush 34 rfl ⟨by decide, by decide⟩ (D_X12_qPartTold_0.at 19 rfl) ?_
  refine J_aload_n 35 rfl 0 2 rfl ⟨by decide, by decide⟩ (D_X12_qPartTold_0.at 20 rfl) ?_
  refine J_getI (z := (h7 68 2)) 38 rfl fl_12_233 rfl ob_68 (Ob.lt ob_68) (D_X12_qPartTold_0.at 21 rfl) rfl ?_
  refine J_callV (d' := 2) (sr := fun z => []) (as := [vI 20, vI (h7 68 2)]) (st := []) (o := 68) 41 rfl ok_X12_qOpens im_X12_qOpens se_X12_qOpens ml_12_601 isC_12 ob_68 (Ob.lt ob_68) rfl (by decide) ⟨Nat.le_refl _, Nat.le_refl _⟩ (Nat.le_of_ble_eq_true rfl) (D_X12_qPartTold_0.at 22 rfl) (fun _ => rfl) T (fun r26 h27 T b28 => ?_)
  refine J_aload_n 42 rfl 0 2 rfl ⟨by decide, by decide⟩ (D_X12_qPartTold_0.at 23 rfl) ?_
  refine J_dup 43 rfl rfl (D_X12_qPartTold_0.at 24 rfl) ?_
  refine J_getI (z := (h27 68 2)) 46 rfl fl_12_233 rfl ob_68 (Ob.lt ob_68) (D_X12_qPartTold_0.at 25 rfl) rfl ?_
  refine J_iconst 47 rfl (D_X12_qPartTold_0.at 26 rfl) ?_
  refine J_iadd 48 rfl (D_X12_qPartTold_0.at 27 rfl) ?_
  refine J_putI 51 rfl fl_12_233 rfl rfl ob_68 (Ob.lt ob_68) (D_X12_qPartTold_0.at 28 rfl) (fun h29 e30 => ?_)
  replace T := T h29 e30
  refine J_goto 180 (D_X12_qPartTold_0.at 29 rfl) (by decide) ?_
  exact J_sub (lv' := [(0, vR 68), (1, vI v1)]) [2, 3] rfl T
theorem l_X12_qPartTold_180 {w : Wd} {v1 : Int} {h : Hp} {K : Int → Hp → Prop} (T : L_X12_qPartTold_2 w v1 h K) : L_X12_qPartTold_180 w v1 h K := by
  unfold L_X12_qPartTold_180
  refine J_goto 2 (D_X12_qPartTold_1.at 45 rfl) (by decide) ?_
  exact T
theorem l_X12_qPartTold_76 {w : Wd} {v1 : Int} {h : Hp} {K : Int → Hp → Prop} (T : C_X12_takes w 126 h (fun r34 h35 => (r34 = 0 ∨ r34 = 1) → ((r34 ≠ 0) → (L_X12_qPartTold_99 w v1 r34 h35 K)) ∧ (¬ (r34 ≠ 0) → (C_X12_asks w 127 h35 (fun _ h38 => L_X12_qPartTold_99 w v1 r34 h38 K))))) : L_X12_qPartTold_76 w v1 h K := by
  unfold L_X12_qPartTold_76
  refine J_aload_n 77 rfl 0 0 rfl ⟨by decide, by decide⟩ (D_X12_qPartTold_0.at 40 rfl) ?_
  refine J_aload_n 78 rfl 0 0 rfl ⟨by decide, by decide⟩ (D_X12_qPartTold_0.at 41 rfl) ?_
  refine J_getF (ov := 126) (dd := 1058) 81 rfl fl_12_191 rfl (by decide) rfl ob_68 (Ob.lt ob_68) (D_X12_qPartTold_0.at 42 rfl) ?_
  refine J_callV (d' := 3) (sr := fun z => [vI z]) (as := [vR 126]) (st := []) (o := 68) 84 rfl ok_X12_takes im_X12_takes se_X12_takes ml_12_254 isC_12 ob_68 (Ob.lt ob_68) rfl (by decide) ⟨Nat.le_refl _, Nat.le_refl _⟩ (Nat.le_of_ble_eq_true rfl) (D_X12_qPartTold_0.at 43 rfl) (fun _ => rfl) T (fun r34 h35 T b36 => ?_)
  replace T := T b36
  refine J_istore (lv' := [(4, vI r34), (0, vR 68), (1, vI v1)]) 86 rfl 4 (by decide) rfl (D_X12_qPartTold_0.at 44 rfl) ?_
  refine J_iload 88 rfl 4 0 rfl (D_X12_qPartTold_0.at 45 rfl) ?_
  refine J_if_ne 91 rfl 99 (inR_b b36) (D_X12_qPartTold_0.at 46 rfl) (by decide) (fun c40 => ?_) (fun c40 => ?_)
  · replace T := T.1 c40
    exact J_sub (lv' := [(0, vR 68), (1, vI v1), (4, vI r34)]) [1, 2, 0] rfl T
  replace T := T.2 c40
  refine J_aload_n 92 rfl 0 1 rfl ⟨by decide, by decide⟩ (D_X12_qPartTold_0.at 47 rfl) ?_
  refine J_aload_n 93 rfl 0 1 rfl ⟨by decide, by decide⟩ (D_X12_qPartTold_1.at 0 rfl) ?_
  refine J_getF (ov := 127) (dd := 1059) 96 rfl fl_12_194 rfl (by decide) rfl ob_68 (Ob.lt ob_68) (D_X12_qPartTold_1.at 1 rfl) ?_
  refine J_callV (d' := 4) (sr := fun z => []) (as := [vR 127]) (st := []) (o := 68) 99 rfl ok_X12_asks im_X12_asks se_X12_asks ml_12_301 isC_12 ob_68 (Ob.lt ob_68) rfl (by decide) ⟨Nat.le_refl _, Nat.le_refl _⟩ (Nat.le_of_ble_eq_true rfl) (D_X12_qPartTold_1.at 2 rfl) (fun _ => rfl) T (fun r37 h38 T b39 => ?_)
  exact J_sub (lv' := [(0, vR 68), (1, vI v1), (4, vI r34)]) [1, 2, 0] rfl T
theorem l_X12_qPartTold_99 {w : Wd} {v1 v4 : Int} {h : Hp} {K : Int → Hp → Prop} (T : C_X12_look w h (fun r41 h42 => (inR r41) ∧ (((r41 ≠ 40) → (L_X12_qPartTold_142 w v1 h42 K)) ∧ (¬ (r41 ≠ 40) → ((inR (h42 68 2)) ∧ ((((h42 68 2) = (-1)) → (L_X12_qPartTold_142 w v1 h42 K)) ∧ (¬ ((h42 68 2) = (-1)) → ((inR v4) ∧ (((v4 = 0) → (C_X12_qOpens w 22 (h42 68 2) h42 (fun _ h48 => L_X12_qPartTold_142 w v1 h48 K))) ∧ (¬ (v4 = 0) → (C_X12_qOpens w 21 (h42 68 2) h42 (fun _ h51 => L_X12_qPartTold_142 w v1 h51 K)))))))))))) : L_X12_qPartTold_99 w v1 v4 h K := by
  unfold L_X12_qPartTold_99
  refine J_aload_n 100 rfl 0 0 rfl ⟨by decide, by decide⟩ (D_X12_qPartTold_1.at 3 rfl) ?_
  refine J_callV (d' := 1) (sr := fun z => [vI z]) (as := []) (st := []) (o := 68) 103 rfl ok_X12_look im_X12_look se_X12_look ml_12_239 isC_12 ob_68 (Ob.lt ob_68) rfl (by decide) ⟨Nat.le_refl _, Nat.le_refl _⟩ (Nat.le_of_ble_eq_true rfl) (D_X12_qPartTold_1.at 4 rfl) (fun _ => rfl) T (fun r41 h42 T b43 => ?_)
  refine J_bipush 105 rfl ⟨by decide, by decide⟩ (D_X12_qPartTold_1.at 5 rfl) ?_
  obtain ⟨s44, T⟩ := T
  refine J_icmp_ne 108 rfl 115 s44 ⟨by decide, by decide⟩ (D_X12_qPartTold_1.at 6 rfl) (by decide) (fun c55 => ?_) (fun c55 => ?_)
  · replace T := T.1 c55
    refine J_iconst 116 rfl (D_X12_qPartTold_1.at 10 rfl) ?_
    refine J_istore (lv' := [(5, vI (-1)), (0, vR 68), (1, vI v1), (4, vI v4)]) 118 rfl 5 (by decide) rfl (D_X12_qPartTold_1.at 11 rfl) ?_
    refine J_iload 120 rfl 5 0 rfl (D_X12_qPartTold_1.at 12 rfl) ?_
    refine J_iconst 121 rfl (D_X12_qPartTold_1.at 13 rfl) ?_
    refine J_icmp_eq 124 rfl 142 ⟨by decide, by decide⟩ ⟨by decide, by decide⟩ (D_X12_qPartTold_1.at 14 rfl) (by decide) (fun _ => ?_) (fun c => absurd (by decide) c)
    exact J_sub (lv' := [(0, vR 68), (1, vI v1)]) [1, 2] rfl T
  replace T := T.2 c55
  refine J_aload_n 109 rfl 0 0 rfl ⟨by decide, by decide⟩ (D_X12_qPartTold_1.at 7 rfl) ?_
  refine J_getI (z := (h42 68 2)) 112 rfl fl_12_233 rfl ob_68 (Ob.lt ob_68) (D_X12_qPartTold_1.at 8 rfl) rfl ?_
  refine J_goto 116 (D_X12_qPartTold_1.at 9 rfl) (by decide) ?_
  refine J_istore (lv' := [(5, vI (h42 68 2)), (0, vR 68), (1, vI v1), (4, vI v4)]) 118 rfl 5 (by decide) rfl (D_X12_qPartTold_1.at 11 rfl) ?_
  refine J_iload 120 rfl 5 0 rfl (D_X12_qPartTold_1.at 12 rfl) ?_
  refine J_iconst 121 rfl (D_X12_qPartTold_1.at 13 rfl) ?_
  obtain ⟨s45, T⟩ := T
  refine J_icmp_eq 124 rfl 142 s45 ⟨by decide, by decide⟩ (D_X12_qPartTold_1.at 14 rfl) (by decide) (fun c54 => ?_) (fun c54 => ?_)
  · replace T := T.1 c54
    exact J_sub (lv' := [(0, vR 68), (1, vI v1)]) [1, 2] rfl T
  replace T := T.2 c54
  refine J_aload_n 125 rfl 0 1 rfl ⟨by decide, by decide⟩ (D_X12_qPartTold_1.at 15 rfl) ?_
  refine J_iload 127 rfl 4 3 rfl (D_X12_qPartTold_1.at 16 rfl) ?_
  obtain ⟨s46, T⟩ := T
  refine J_if_eq 130 rfl 135 s46 (D_X12_qPartTold_1.at 17 rfl) (by decide) (fun c53 => ?_) (fun c53 => ?_)
  · replace T := T.1 c53
    refine J_bipush 137 rfl ⟨by decide, by decide⟩ (D_X12_qPartTold_1.at 20 rfl) ?_
    refine J_iload 139 rfl 5 0 rfl (D_X12_qPartTold_1.at 21 rfl) ?_
    refine J_callV (d' := 2) (sr := fun z => []) (as := [vI 22, vI (h42 68 2)]) (st := []) (o := 68) 142 rfl ok_X12_qOpens im_X12_qOpens se_X12_qOpens ml_12_601 isC_12 ob_68 (Ob.lt ob_68) rfl (by decide) ⟨Nat.le_refl _, Nat.le_refl _⟩ (Nat.le_of_ble_eq_true rfl) (D_X12_qPartTold_1.at 22 rfl) (fun _ => rfl) T (fun r47 h48 T b49 => ?_)
    exact J_sub (lv' := [(0, vR 68), (1, vI v1)]) [1, 2] rfl T
  replace T := T.2 c53
  refine J_bipush 132 rfl ⟨by decide, by decide⟩ (D_X12_qPartTold_1.at 18 rfl) ?_
  refine J_goto 137 (D_X12_qPartTold_1.at 19 rfl) (by decide) ?_
  refine J_iload 139 rfl 5 0 rfl (D_X12_qPartTold_1.at 21 rfl) ?_
  refine J_callV (d' := 2) (sr := fun z => []) (as := [vI 21, vI (h42 68 2)]) (st := []) (o := 68) 142 rfl ok_X12_qOpens im_X12_qOpens se_X12_qOpens ml_12_601 isC_12 ob_68 (Ob.lt ob_68) rfl (by decide) ⟨Nat.le_refl _, Nat.le_refl _⟩ (Nat.le_of_ble_eq_true rfl) (D_X12_qPartTold_1.at 22 rfl) (fun _ => rfl) T (fun r50 h51 T b52 => ?_)
  exact J_sub (lv' := [(0, vR 68), (1, vI v1)]) [1, 2] rfl T
theorem l_X12_qPartTold_142 {w : Wd} {v1 : Int} {h : Hp} {K : Int → Hp → Prop} (T : C_X12_asksSign w 40 h (fun _ h57 => L_X12_qPartTold_180 w v1 h57 K)) : L_X12_qPartTold_142 w v1 h K := by
  unfold L_X12_qPartTold_142
  refine J_aload_n 143 rfl 0 0 rfl ⟨by decide, by decide⟩ (D_X12_qPartTold_1.at 23 rfl) ?_
  refine J_bipush 145 rfl ⟨by decide, by decide⟩ (D_X12_qPartTold_1.at 24 rfl) ?_
  refine J_callV (d' := 3) (sr := fun z => []) (as := [vI 40]) (st := []) (o := 68) 148 rfl ok_X12_asksSign im_X12_asksSign se_X12_asksSign ml_12_344 isC_12 ob_68 (Ob.lt ob_68) rfl (by decide) ⟨Nat.le_refl _, Nat.le_refl _⟩ (Nat.le_of_ble_eq_true rfl) (D_X12_qPartTold_1.at 25 rfl) (fun _ => rfl) T (fun r56 h57 T b58 => ?_)
  refine J_goto 180 (D_X12_qPartTold_1.at 26 rfl) (by decide) ?_
  exact T
theorem l_X12_qPartTold_183 {w : Wd} {h : Hp} {K : Int → Hp → Prop} (T : (inR (h 68 5)) ∧ ((((h 68 5) = 0) → (C_X12_qWordOf w 0 3 h (fun r60 h61 => (inR r60) ∧ (((r60 = (-1)) → (L_X12_qPartTold_208 w r60 h61 K)) ∧ (¬ (r60 = (-1)) → (C_X12_qAsksWord w r60 h61 (fun _ h65 => L_X12_qPartTold_208 w r60 h65 K))))))) ∧ (¬ ((h 68 5) = 0) → (K 0 h)))) : L_X12_qPartTold_183 w h K := by
  unfold L_X12_qPartTold_183
  refine J_aload_n 184 rfl 0 0 rfl ⟨by decide, by decide⟩ (D_X12_qPartTold_1.at 46 rfl) ?_
  refine J_getI (z := (h 68 5)) 187 rfl fl_12_227 rfl ob_68 (Ob.lt ob_68) (D_X12_qPartTold_1.at 47 rfl) rfl ?_
  obtain ⟨s59, T⟩ := T
  refine J_if_eq 190 rfl 191 s59 (D_X12_qPartTold_2.at 0 rfl) (by decide) (fun c68 => ?_) (fun c68 => ?_)
  · replace T := T.1 c68
    refine J_aload_n 192 rfl 0 0 rfl ⟨by decide, by decide⟩ (D_X12_qPartTold_2.at 2 rfl) ?_
    refine J_iconst 193 rfl (D_X12_qPartTold_2.at 3 rfl) ?_
    refine J_iconst 194 rfl (D_X12_qPartTold_2.at 4 rfl) ?_
    refine J_callV (d' := 4) (sr := fun z => [vI z]) (as := [vI 0, vI 3]) (st := []) (o := 68) 197 rfl ok_X12_qWordOf im_X12_qWordOf se_X12_qWordOf ml_12_598 isC_12 ob_68 (Ob.lt ob_68) rfl (by decide) ⟨Nat.le_refl _, Nat.le_refl _⟩ (Nat.le_of_ble_eq_true rfl) (D_X12_qPartTold_2.at 5 rfl) (fun _ => rfl) T (fun r60 h61 T b62 => ?_)
    refine J_istore_n (lv' := [(2, vI r60), (0, vR 68)]) 198 rfl 2 (by decide) rfl (D_X12_qPartTold_2.at 6 rfl) ?_
    refine J_iload_n 199 rfl 2 0 rfl (D_X12_qPartTold_2.at 7 rfl) ?_
    refine J_iconst 200 rfl (D_X12_qPartTold_2.at 8 rfl) ?_
    obtain ⟨s63, T⟩ := T
    refine J_icmp_eq 203 rfl 208 s63 ⟨by decide, by decide⟩ (D_X12_qPartTold_2.at 9 rfl) (by decide) (fun c67 => ?_) (fun c67 => ?_)
    · replace T := T.1 c67
      exact J_sub (lv' := [(0, vR 68), (2, vI r60)]) [1, 0] rfl T
    replace T := T.2 c67
    refine J_aload_n 204 rfl 0 1 rfl ⟨by decide, by decide⟩ (D_X12_qPartTold_2.at 10 rfl) ?_
    refine J_iload_n 205 rfl 2 0 rfl (D_X12_qPartTold_2.at 11 rfl) ?_
    refine J_callV (d' := 5) (sr := fun z => []) (as := [vI r60]) (st := []) (o := 68) 208 rfl ok_X12_qAsksWord im_X12_qAsksWord se_X12_qAsksWord ml_12_604 isC_12 ob_68 (Ob.lt ob_68) rfl (by decide) ⟨Nat.le_refl _, Nat.le_refl _⟩ (Nat.le_of_ble_eq_true rfl) (D_X12_qPartTold_2.at 12 rfl) (fun _ => rfl) T (fun r64 h65 T b66 => ?_)
    exact J_sub (lv' := [(0, vR 68), (2, vI r60)]) [1, 0] rfl T
  replace T := T.2 c68
  exact J_vret rfl (D_X12_qPartTold_2.at 1 rfl) T
theorem l_X12_qPartTold_208 {w : Wd} {v2 : Int} {h : Hp} {K : Int → Hp → Prop} (T : (inR v2) ∧ (((v2 = (-1)) → (C_X12_number w 0 9999 h (fun r70 h71 => C_X12_qCode w (1000 + r70) h71 (fun _ h74 => C_X12_qEndsPart w h74 (fun _ h77 => K 0 h77))))) ∧ (¬ (v2 = (-1)) → (C_X12_qCode w (40 + v2) h (fun _ h80 => C_X12_qEndsPart w h80 (fun _ h83 => K 0 h83)))))) : L_X12_qPartTold_208 w v2 h K := by
  unfold L_X12_qPartTold_208
  refine J_aload_n 209 rfl 0 0 rfl ⟨by decide, by decide⟩ (D_X12_qPartTold_2.at 13 rfl) ?_
  refine J_iload_n 210 rfl 2 1 rfl (D_X12_qPartTold_2.at 14 rfl) ?_
  refine J_iconst 211 rfl (D_X12_qPartTold_2.at 15 rfl) ?_
  obtain ⟨s69, T⟩ := T
  refine J_icmp_eq 214 rfl 221 s69 ⟨by decide, by decide⟩ (D_X12_qPartTold_2.at 16 rfl) (by decide) (fun c85 => ?_) (fun c85 => ?_)
  · replace T := T.1 c85
    refine J_sipush 224 rfl ⟨by decide, by decide⟩ (D_X12_qPartTold_2.at 21 rfl) ?_
    refine J_aload_n 225 rfl 0 0 rfl ⟨by decide, by decide⟩ (D_X12_qPartTold_2.at 22 rfl) ?_
    refine J_iconst 226 rfl (D_X12_qPartTold_2.at 23 rfl) ?_
    refine J_sipush 229 rfl ⟨by decide, by decide⟩ (D_X12_qPartTold_2.at 24 rfl) ?_
    refine J_callV (d' := 2) (sr := fun z => [vI z, vI 1000, vR 68]) (as := [vI 0, vI 9999]) (st := [vI 1000, vR 68]) (o := 68) 232 rfl ok_X12_number im_X12_number se_X12_number ml_12_297 isC_12 ob_68 (Ob.lt ob_68) rfl (by decide) ⟨Nat.le_refl _, Nat.le_refl _⟩ (Nat.le_of_ble_eq_true rfl) (D_X12_qPartTold_2.at 25 rfl) (fun _ => rfl) T (fun r70 h71 T b72 => ?_)
    refine J_iadd 233 rfl (D_X12_qPartTold_2.at 26 rfl) ?_
    refine J_callV (d' := 1) (sr := fun z => []) (as := [vI (1000 + r70)]) (st := []) (o := 68) 236 rfl ok_X12_qCode im_X12_qCode se_X12_qCode ml_12_583 isC_12 ob_68 (Ob.lt ob_68) rfl (by decide) ⟨Nat.le_refl _, Nat.le_refl _⟩ (Nat.le_of_ble_eq_true rfl) (D_X12_qPartTold_2.at 27 rfl) (fun _ => rfl) T (fun r73 h74 T b75 => ?_)
    refine J_aload_n 237 rfl 0 0 rfl ⟨by decide, by decide⟩ (D_X12_qPartTold_2.at 28 rfl) ?_
    refine J_callV (d' := 3) (sr := fun z => []) (as := []) (st := []) (o := 68) 240 rfl ok_X12_qEndsPart im_X12_qEndsPart se_X12_qEndsPart ml_12_607 isC_12 ob_68 (Ob.lt ob_68) rfl (by decide) ⟨Nat.le_refl _, Nat.le_refl _⟩ (Nat.le_of_ble_eq_true rfl) (D_X12_qPartTold_2.at 29 rfl) (fun _ => rfl) T (fun r76 h77 T b78 => ?_)
    exact J_vret rfl (D_X12_qPartTold_2.at 30 rfl) T
  replace T := T.2 c85
  refine J_bipush 216 rfl ⟨by decide, by decide⟩ (D_X12_qPartTold_2.at 17 rfl) ?_
  refine J_iload_n 217 rfl 2 1 rfl (D_X12_qPartTold_2.at 18 rfl) ?_
  refine J_iadd 218 rfl (D_X12_qPartTold_2.at 19 rfl) ?_
  refine J_goto 233 (D_X12_qPartTold_2.at 20 rfl) (by decide) ?_
  refine J_callV (d' := 1) (sr := fun z => []) (as := [vI (40 + v2)]) (st := []) (o := 68) 236 rfl ok_X12_qCode im_X12_qCode se_X12_qCode ml_12_583 isC_12 ob_68 (Ob.lt ob_68) rfl (by decide) ⟨Nat.le_refl _, Nat.le_refl _⟩ (Nat.le_of_ble_eq_true rfl) (D_X12_qPartTold_2.at 27 rfl) (fun _ => rfl) T (fun r79 h80 T b81 => ?_)
  refine J_aload_n 237 rfl 0 0 rfl ⟨by decide, by decide⟩ (D_X12_qPartTold_2.at 28 rfl) ?_
  refine J_callV (d' := 3) (sr := fun z => []) (as := []) (st := []) (o := 68) 240 rfl ok_X12_qEndsPart im_X12_qEndsPart se_X12_qEndsPart ml_12_607 isC_12 ob_68 (Ob.lt ob_68) rfl (by decide) ⟨Nat.le_refl _, Nat.le_refl _⟩ (Nat.le_of_ble_eq_true rfl) (D_X12_qPartTold_2.at 29 rfl) (fun _ => rfl) T (fun r82 h83 T b84 => ?_)
  exact J_vret rfl (D_X12_qPartTold_2.at 30 rfl) T
theorem c_X12_qSums {w : Wd} {h : Hp} {K : Int → Hp → Prop} (T : ∀ h1 : Hp, h1 = hu h 68 91 (h 68 89) → L_X12_qSums_15 w (h 68 91) 1 h1 K) : C_X12_qSums w h K := by
  refine CGm_of2 (by decide) (by decide) trivial (Nat.le_of_ble_eq_true rfl) ?_
  refine J_aload_n 1 rfl 0 0 rfl ⟨by decide, by decide⟩ (D_X12_qSums_0.at 0 rfl) ?_
  refine J_getI (z := (h 68 91)) 4 rfl fl_12_586 rfl ob_68 (Ob.lt ob_68) (D_X12_qSums_0.at 1 rfl) rfl ?_
  refine J_istore_n (lv' := [(1, vI (h 68 91)), (0, vR 68)]) 5 rfl 1 (by decide) rfl (D_X12_qSums_0.at 2 rfl) ?_
  refine J_aload_n 6 rfl 0 1 rfl ⟨by decide, by decide⟩ (D_X12_qSums_0.at 3 rfl) ?_
  refine J_aload_n 7 rfl 0 1 rfl ⟨by decide, by decide⟩ (D_X12_qSums_0.at 4 rfl) ?_
  refine J_getI (z := (h 68 89)) 10 rfl fl_12_580 rfl ob_68 (Ob.lt ob_68) (D_X12_qSums_0.at 5 rfl) rfl ?_
  refine J_putI 13 rfl fl_12_586 rfl rfl ob_68 (Ob.lt ob_68) (D_X12_qSums_0.at 6 rfl) (fun h1 e2 => ?_)
  replace T := T h1 e2
  refine J_iconst 14 rfl (D_X12_qSums_0.at 7 rfl) ?_
  refine J_istore_n (lv' := [(2, vI 1), (1, vI (h 68 91)), (0, vR 68)]) 15 rfl 2 (by decide) rfl (D_X12_qSums_0.at 8 rfl) ?_
  exact J_sub (lv' := [(0, vR 68), (1, vI (h 68 91)), (2, vI 1)]) [2, 1, 0] rfl T
theorem l_X12_qSums_15 {w : Wd} {v1 v2 : Int} {h : Hp} {K : Int → Hp → Prop} (T : (inR v2) ∧ (((v2 = 0) → (L_X12_qSums_53 w v1 h K)) ∧ (¬ (v2 = 0) → ((inR (h 68 5)) ∧ ((((h 68 5) ≠ 0) → (L_X12_qSums_53 w v1 h K)) ∧ (¬ ((h 68 5) ≠ 0) → (C_X12_qPartTold w h (fun _ h6 => (inR (h6 68 5)) ∧ ((((h6 68 5) ≠ 0) → (L_X12_qSums_15 w v1 0 h6 K)) ∧ (¬ ((h6 68 5) ≠ 0) → (C_X12_qGoesOn w h6 (fun r9 h10 => (r9 = 0 ∨ r9 = 1) → ((r9 = 0) → (L_X12_qSums_15 w v1 0 h10 K)) ∧ (¬ (r9 = 0) → (L_X12_qSums_15 w v1 1 h10 K)))))))))))))) : L_X12_qSums_15 w v1 v2 h K := by
  unfold L_X12_qSums_15
  refine J_iload_n 16 rfl 2 2 rfl (D_X12_qSums_0.at 9 rfl) ?_
  obtain ⟨s3, T⟩ := T
  refine J_if_eq 19 rfl 53 s3 (D_X12_qSums_0.at 10 rfl) (by decide) (fun c15 => ?_) (fun c15 => ?_)
  · replace T := T.1 c15
    exact J_sub (lv' := [(0, vR 68), (1, vI v1)]) [0, 1] rfl T
  replace T := T.2 c15
  refine J_aload_n 20 rfl 0 0 rfl ⟨by decide, by decide⟩ (D_X12_qSums_0.at 11 rfl) ?_
  refine J_getI (z := (h 68 5)) 23 rfl fl_12_227 rfl ob_68 (Ob.lt ob_68) (D_X12_qSums_0.at 12 rfl) rfl ?_
  obtain ⟨s4, T⟩ := T
  refine J_if_ne 26 rfl 53 s4 (D_X12_qSums_0.at 13 rfl) (by decide) (fun c14 => ?_) (fun c14 => ?_)
  · replace T := T.1 c14
    exact J_sub (lv' := [(0, vR 68), (1, vI v1)]) [0, 1] rfl T
  replace T := T.2 c14
  refine J_aload_n 27 rfl 0 0 rfl ⟨by decide, by decide⟩ (D_X12_qSums_0.at 14 rfl) ?_
  refine J_callV (d' := 6) (sr := fun z => []) (as := []) (st := []) (o := 68) 30 rfl ok_X12_qPartTold im_X12_qPartTold se_X12_qPartTold ml_12_619 isC_12 ob_68 (Ob.lt ob_68) rfl (by decide) ⟨Nat.le_refl _, Nat.le_refl _⟩ (Nat.le_of_ble_eq_true rfl) (D_X12_qSums_0.at 15 rfl) (fun _ => rfl) T (fun r5 h6 T b7 => ?_)
  refine J_aload_n 31 rfl 0 0 rfl ⟨by decide, by decide⟩ (D_X12_qSums_0.at 16 rfl) ?_
  refine J_getI (z := (h6 68 5)) 34 rfl fl_12_227 rfl ob_68 (Ob.lt ob_68) (D_X12_qSums_0.at 17 rfl) rfl ?_
  obtain ⟨s8, T⟩ := T
  refine J_if_ne 37 rfl 48 s8 (D_X12_qSums_0.at 18 rfl) (by decide) (fun c13 => ?_) (fun c13 => ?_)
  · replace T := T.1 c13
    refine J_iconst 49 rfl (D_X12_qSums_0.at 24 rfl) ?_
    refine J_istore_n (lv' := [(2, vI 0), (0, vR 68), (1, vI v1)]) 50 rfl 2 (by decide) rfl (D_X12_qSums_0.at 25 rfl) ?_
    refine J_goto 15 (D_X12_qSums_0.at 26 rfl) (by decide) ?_
    exact J_sub (lv' := [(0, vR 68), (1, vI v1), (2, vI 0)]) [1, 2, 0] rfl T
  replace T := T.2 c13
  refine J_aload_n 38 rfl 0 0 rfl ⟨by decide, by decide⟩ (D_X12_qSums_0.at 19 rfl) ?_
  refine J_callV (d' := 4) (sr := fun z => [vI z]) (as := []) (st := []) (o := 68) 41 rfl ok_X12_qGoesOn im_X12_qGoesOn se_X12_qGoesOn ml_12_622 isC_12 ob_68 (Ob.lt ob_68) rfl (by decide) ⟨Nat.le_refl _, Nat.le_refl _⟩ (Nat.le_of_ble_eq_true rfl) (D_X12_qSums_0.at 20 rfl) (fun _ => rfl) T (fun r9 h10 T b11 => ?_)
  replace T := T b11
  refine J_if_eq 44 rfl 48 (inR_b b11) (D_X12_qSums_0.at 21 rfl) (by decide) (fun c12 => ?_) (fun c12 => ?_)
  · replace T := T.1 c12
    refine J_iconst 49 rfl (D_X12_qSums_0.at 24 rfl) ?_
    refine J_istore_n (lv' := [(2, vI 0), (0, vR 68), (1, vI v1)]) 50 rfl 2 (by decide) rfl (D_X12_qSums_0.at 25 rfl) ?_
    refine J_goto 15 (D_X12_qSums_0.at 26 rfl) (by decide) ?_
    exact J_sub (lv' := [(0, vR 68), (1, vI v1), (2, vI 0)]) [1, 2, 0] rfl T
  replace T := T.2 c12
  refine J_iconst 45 rfl (D_X12_qSums_0.at 22 rfl) ?_
  refine J_goto 49 (D_X12_qSums_0.at 23 rfl) (by decide) ?_
  refine J_istore_n (lv' := [(2, vI 1), (0, vR 68), (1, vI v1)]) 50 rfl 2 (by decide) rfl (D_X12_qSums_0.at 25 rfl) ?_
  refine J_goto 15 (D_X12_qSums_0.at 26 rfl) (by decide) ?_
  exact J_sub (lv' := [(0, vR 68), (1, vI v1), (2, vI 1)]) [1, 2, 0] rfl T
theorem l_X12_qSums_53 {w : Wd} {v1 : Int} {h : Hp} {K : Int → Hp → Prop} (T : (inR (h 68 5)) ∧ ((((h 68 5) ≠ 0) → (∀ h17 : Hp, h17 = hu h 68 91 v1 → K 0 h17)) ∧ (¬ ((h 68 5) ≠ 0) → ((inR (h 68 89)) ∧ ((inR (h 68 91)) ∧ ((((h 68 89) ≤ (h 68 91)) → (∀ h21 : Hp, h21 = hu h 68 91 v1 → K 0 h21)) ∧ (¬ ((h 68 89) ≤ (h 68 91)) → (C_X12_qDrops w h (fun _ h24 => L_X12_qSums_53 w v1 h24 K))))))))) : L_X12_qSums_53 w v1 h K := by
  unfold L_X12_qSums_53
  refine J_aload_n 54 rfl 0 0 rfl ⟨by decide, by decide⟩ (D_X12_qSums_0.at 27 rfl) ?_
  refine J_getI (z := (h 68 5)) 57 rfl fl_12_227 rfl ob_68 (Ob.lt ob_68) (D_X12_qSums_0.at 28 rfl) rfl ?_
  obtain ⟨s16, T⟩ := T
  refine J_if_ne 60 rfl 78 s16 (D_X12_qSums_0.at 29 rfl) (by decide) (fun c27 => ?_) (fun c27 => ?_)
  · replace T := T.1 c27
    refine J_aload_n 79 rfl 0 0 rfl ⟨by decide, by decide⟩ (D_X12_qSums_0.at 38 rfl) ?_
    refine J_iload_n 80 rfl 1 1 rfl (D_X12_qSums_0.at 39 rfl) ?_
    refine J_putI 83 rfl fl_12_586 rfl rfl ob_68 (Ob.lt ob_68) (D_X12_qSums_0.at 40 rfl) (fun h17 e18 => ?_)
    replace T := T h17 e18
    exact J_vret rfl (D_X12_qSums_0.at 41 rfl) T
  replace T := T.2 c27
  refine J_aload_n 61 rfl 0 0 rfl ⟨by decide, by decide⟩ (D_X12_qSums_0.at 30 rfl) ?_
  refine J_getI (z := (h 68 89)) 64 rfl fl_12_580 rfl ob_68 (Ob.lt ob_68) (D_X12_qSums_0.at 31 rfl) rfl ?_
  refine J_aload_n 65 rfl 0 0 rfl ⟨by decide, by decide⟩ (D_X12_qSums_0.at 32 rfl) ?_
  refine J_getI (z := (h 68 91)) 68 rfl fl_12_586 rfl ob_68 (Ob.lt ob_68) (D_X12_qSums_0.at 33 rfl) rfl ?_
  obtain ⟨s19, T⟩ := T
  obtain ⟨s20, T⟩ := T
  refine J_icmp_le 71 rfl 78 s19 s20 (D_X12_qSums_0.at 34 rfl) (by decide) (fun c26 => ?_) (fun c26 => ?_)
  · replace T := T.1 c26
    refine J_aload_n 79 rfl 0 0 rfl ⟨by decide, by decide⟩ (D_X12_qSums_0.at 38 rfl) ?_
    refine J_iload_n 80 rfl 1 1 rfl (D_X12_qSums_0.at 39 rfl) ?_
    refine J_putI 83 rfl fl_12_586 rfl rfl ob_68 (Ob.lt ob_68) (D_X12_qSums_0.at 40 rfl) (fun h21 e22 => ?_)
    replace T := T h21 e22
    exact J_vret rfl (D_X12_qSums_0.at 41 rfl) T
  replace T := T.2 c26
  refine J_aload_n 72 rfl 0 0 rfl ⟨by decide, by decide⟩ (D_X12_qSums_0.at 35 rfl) ?_
  refine J_callV (d' := 2) (sr := fun z => []) (as := []) (st := []) (o := 68) 75 rfl ok_X12_qDrops im_X12_qDrops se_X12_qDrops ml_12_592 isC_12 ob_68 (Ob.lt ob_68) rfl (by decide) ⟨Nat.le_refl _, Nat.le_refl _⟩ (Nat.le_of_ble_eq_true rfl) (D_X12_qSums_0.at 36 rfl) (fun _ => rfl) T (fun r23 h24 T b25 => ?_)
  refine J_goto 53 (D_X12_qSums_0.at 37 rfl) (by decide) ?_
  exact T
theorem c_X12_qFact {w : Wd} {h : Hp} {K : Int → Hp → Prop} (T : C_X12_takes w 125 h (fun r1 h2 => (r1 = 0 ∨ r1 = 1) → ((r1 = 0) → (C_X12_qSums w h2 (fun _ h5 => (inR (h5 68 5)) ∧ ((((h5 68 5) = 0) → (C_X12_look w h5 (fun r8 h9 => (inR r8) ∧ (((r8 = 60) → (∀ h12 : Hp, h12 = hu h9 68 2 ((h9 68 2) + 1) → C_X12_qSums w h12 (fun _ h15 => (inR r8) ∧ (((r8 ≠ 60) → ((inR r8) ∧ (((r8 ≠ 62) → (C_X12_qCode w 9 h15 (fun _ h20 => K 0 h20))) ∧ (¬ (r8 ≠ 62) → (C_X12_qCode w 8 h15 (fun _ h23 => K 0 h23)))))) ∧ (¬ (r8 ≠ 60) → (C_X12_qCode w 7 h15 (fun _ h27 => K 0 h27))))))) ∧ (¬ (r8 = 60) → ((inR r8) ∧ (((r8 = 62) → (∀ h31 : Hp, h31 = hu h9 68 2 ((h9 68 2) + 1) → C_X12_qSums w h31 (fun _ h34 => (inR r8) ∧ (((r8 ≠ 60) → ((inR r8) ∧ (((r8 ≠ 62) → (C_X12_qCode w 9 h34 (fun _ h39 => K 0 h39))) ∧ (¬ (r8 ≠ 62) → (C_X12_qCode w 8 h34 (fun _ h42 => K 0 h42)))))) ∧ (¬ (r8 ≠ 60) → (C_X12_qCode w 7 h34 (fun _ h46 => K 0 h46))))))) ∧ (¬ (r8 = 62) → ((inR r8) ∧ (((r8 = 61) → (∀ h50 : Hp, h50 = hu h9 68 2 ((h9 68 2) + 1) → C_X12_qSums w h50 (fun _ h53 => (inR r8) ∧ (((r8 ≠ 60) → ((inR r8) ∧ (((r8 ≠ 62) → (C_X12_qCode w 9 h53 (fun _ h58 => K 0 h58))) ∧ (¬ (r8 ≠ 62) → (C_X12_qCode w 8 h53 (fun _ h61 => K 0 h61)))))) ∧ (¬ (r8 ≠ 60) → (C_X12_qCode w 7 h53 (fun _ h65 => K 0 h65))))))) ∧ (¬ (r8 = 61) → (C_X12_fail w 1 (h9 68 2) h9 (fun _ h69 => K 0 h69))))))))))))) ∧ (¬ ((h5 68 5) = 0) → (K 0 h5)))))) ∧ (¬ (r1 = 0) → (C_X12_qCode w 13 h2 (fun _ h76 => K 0 h76))))) : C_X12_qFact w h K := by
  refine CGm_of2 (by decide) (by decide) trivial (Nat.le_of_ble_eq_true rfl) ?_
  refine J_aload_n 1 rfl 0 0 rfl ⟨by decide, by decide⟩ (D_X12_qFact_0.at 0 rfl) ?_
  refine J_aload_n 2 rfl 0 0 rfl ⟨by decide, by decide⟩ (D_X12_qFact_0.at 1 rfl) ?_
  refine J_getF (ov := 125) (dd := 1057) 5 rfl fl_12_188 rfl (by decide) rfl ob_68 (Ob.lt ob_68) (D_X12_qFact_0.at 2 rfl) ?_
  refine J_callV (d' := 3) (sr := fun z => [vI z]) (as := [vR 125]) (st := []) (o := 68) 8 rfl ok_X12_takes im_X12_takes se_X12_takes ml_12_254 isC_12 ob_68 (Ob.lt ob_68) rfl (by decide) ⟨Nat.le_refl _, Nat.le_refl _⟩ (Nat.le_of_ble_eq_true rfl) (D_X12_qFact_0.at 3 rfl) (fun _ => rfl) T (fun r1 h2 T b3 => ?_)
  replace T := T b3
  refine J_if_eq 11 rfl 18 (inR_b b3) (D_X12_qFact_0.at 4 rfl) (by decide) (fun c78 => ?_) (fun c78 => ?_)
  · replace T := T.1 c78
    refine J_aload_n 19 rfl 0 0 rfl ⟨by decide, by decide⟩ (D_X12_qFact_0.at 9 rfl) ?_
    refine J_callV (d' := 7) (sr := fun z => []) (as := []) (st := []) (o := 68) 22 rfl ok_X12_qSums im_X12_qSums se_X12_qSums ml_12_625 isC_12 ob_68 (Ob.lt ob_68) rfl (by decide) ⟨Nat.le_refl _, Nat.le_refl _⟩ (Nat.le_of_ble_eq_true rfl) (D_X12_qFact_0.at 10 rfl) (fun _ => rfl) T (fun r4 h5 T b6 => ?_)
    refine J_aload_n 23 rfl 0 0 rfl ⟨by decide, by decide⟩ (D_X12_qFact_0.at 11 rfl) ?_
    refine J_getI (z := (h5 68 5)) 26 rfl fl_12_227 rfl ob_68 (Ob.lt ob_68) (D_X12_qFact_0.at 12 rfl) rfl ?_
    obtain ⟨s7, T⟩ := T
    refine J_if_eq 29 rfl 30 s7 (D_X12_qFact_0.at 13 rfl) (by decide) (fun c74 => ?_) (fun c74 => ?_)
    · replace T := T.1 c74
      refine J_aload_n 31 rfl 0 0 rfl ⟨by decide, by decide⟩ (D_X12_qFact_0.at 15 rfl) ?_
      refine J_callV (d' := 1) (sr := fun z => [vI z]) (as := []) (st := []) (o := 68) 34 rfl ok_X12_look im_X12_look se_X12_look ml_12_239 isC_12 ob_68 (Ob.lt ob_68) rfl (by decide) ⟨Nat.le_refl _, Nat.le_refl _⟩ (Nat.le_of_ble_eq_true rfl) (D_X12_qFact_0.at 16 rfl) (fun _ => rfl) T (fun r8 h9 T b10 => ?_)
      refine J_istore_n (lv' := [(1, vI r8), (0, vR 68)]) 35 rfl 1 (by decide) rfl (D_X12_qFact_0.at 17 rfl) ?_
      refine J_iload_n 36 rfl 1 0 rfl (D_X12_qFact_0.at 18 rfl) ?_
      refine J_bipush 38 rfl ⟨by decide, by decide⟩ (D_X12_qFact_0.at 19 rfl) ?_
      obtain ⟨s11, T⟩ := T
      refine J_icmp_eq 41 rfl 63 s11 ⟨by decide, by decide⟩ (D_X12_qFact_0.at 20 rfl) (by decide) (fun c73 => ?_) (fun c73 => ?_)
      · replace T := T.1 c73
        refine J_aload_n 64 rfl 0 1 rfl ⟨by decide, by decide⟩ (D_X12_qFact_0.at 33 rfl) ?_
        refine J_dup 65 rfl rfl (D_X12_qFact_0.at 34 rfl) ?_
        refine J_getI (z := (h9 68 2)) 68 rfl fl_12_233 rfl ob_68 (Ob.lt ob_68) (D_X12_qFact_0.at 35 rfl) rfl ?_
        refine J_iconst 69 rfl (D_X12_qFact_0.at 36 rfl) ?_
        refine J_iadd 70 rfl (D_X12_qFact_0.at 37 rfl) ?_
        refine J_putI 73 rfl fl_12_233 rfl rfl ob_68 (Ob.lt ob_68) (D_X12_qFact_0.at 38 rfl) (fun h12 e13 => ?_)
        replace T := T h12 e13
        refine J_aload_n 74 rfl 0 1 rfl ⟨by decide, by decide⟩ (D_X12_qFact_0.at 39 rfl) ?_
        refine J_callV (d' := 7) (sr := fun z => []) (as := []) (st := []) (o := 68) 77 rfl ok_X12_qSums im_X12_qSums se_X12_qSums ml_12_625 isC_12 ob_68 (Ob.lt ob_68) rfl (by decide) ⟨Nat.le_refl _, Nat.le_refl _⟩ (Nat.le_of_ble_eq_true rfl) (D_X12_qFact_0.at 40 rfl) (fun _ => rfl) T (fun r14 h15 T b16 => ?_)
        refine J_aload_n 78 rfl 0 1 rfl ⟨by decide, by decide⟩ (D_X12_qFact_0.at 41 rfl) ?_
        refine J_iload_n 79 rfl 1 0 rfl (D_X12_qFact_0.at 42 rfl) ?_
        refine J_bipush 81 rfl ⟨by decide, by decide⟩ (D_X12_qFact_0.at 43 rfl) ?_
        obtain ⟨s17, T⟩ := T
        refine J_icmp_ne 84 rfl 89 s17 ⟨by decide, by decide⟩ (D_X12_qFact_0.at 44 rfl) (by decide) (fun c29 => ?_) (fun c29 => ?_)
        · replace T := T.1 c29
          refine J_iload_n 90 rfl 1 0 rfl (D_X12_qFact_0.at 47 rfl) ?_
          refine J_bipush 92 rfl ⟨by decide, by decide⟩ (D_X12_qFact_1.at 0 rfl) ?_
          obtain ⟨s18, T⟩ := T
          refine J_icmp_ne 95 rfl 100 s18 ⟨by decide, by decide⟩ (D_X12_qFact_1.at 1 rfl) (by decide) (fun c25 => ?_) (fun c25 => ?_)
          · replace T := T.1 c25
            refine J_bipush 102 rfl ⟨by decide, by decide⟩ (D_X12_qFact_1.at 4 rfl) ?_
            refine J_callV (d' := 1) (sr := fun z => []) (as := [vI 9]) (st := []) (o := 68) 105 rfl ok_X12_qCode im_X12_qCode se_X12_qCode ml_12_583 isC_12 ob_68 (Ob.lt ob_68) rfl (by decide) ⟨Nat.le_refl _, Nat.le_refl _⟩ (Nat.le_of_ble_eq_true rfl) (D_X12_qFact_1.at 5 rfl) (fun _ => rfl) T (fun r19 h20 T b21 => ?_)
            exact J_vret rfl (D_X12_qFact_1.at 6 rfl) T
          replace T := T.2 c25
          refine J_bipush 97 rfl ⟨by decide, by decide⟩ (D_X12_qFact_1.at 2 rfl) ?_
          refine J_goto 102 (D_X12_qFact_1.at 3 rfl) (by decide) ?_
          refine J_callV (d' := 1) (sr := fun z => []) (as := [vI 8]) (st := []) (o := 68) 105 rfl ok_X12_qCode im_X12_qCode se_X12_qCode ml_12_583 isC_12 ob_68 (Ob.lt ob_68) rfl (by decide) ⟨Nat.le_refl _, Nat.le_refl _⟩ (Nat.le_of_ble_eq_true rfl) (D_X12_qFact_1.at 5 rfl) (fun _ => rfl) T (fun r22 h23 T b24 => ?_)
          exact J_vret rfl (D_X12_qFact_1.at 6 rfl) T
        replace T := T.2 c29
        refine J_bipush 86 rfl ⟨by decide, by decide⟩ (D_X12_qFact_0.at 45 rfl) ?_
        refine J_goto 102 (D_X12_qFact_0.at 46 rfl) (by decide) ?_
        refine J_callV (d' := 1) (sr := fun z => []) (as := [vI 7]) (st := []) (o := 68) 105 rfl ok_X12_qCode im_X12_qCode se_X12_qCode ml_12_583 isC_12 ob_68 (Ob.lt ob_68) rfl (by decide) ⟨Nat.le_refl _, Nat.le_refl _⟩ (Nat.le_of_ble_eq_true rfl) (D_X12_qFact_1.at 5 rfl) (fun _ => rfl) T (fun r26 h27 T b28 => ?_)
        exact J_vret rfl (D_X12_qFact_1.at 6 rfl) T
      replace T := T.2 c73
      refine J_iload_n 42 rfl 1 0 rfl (D_X12_qFact_0.at 21 rfl) ?_
      refine J_bipush 44 rfl ⟨by decide, by decide⟩ (D_X12_qFact_0.at 22 rfl) ?_
      obtain ⟨s30, T⟩ := T
      refine J_icmp_eq 47 rfl 63 s30 ⟨by decide, by decide⟩ (D_X12_qFact_0.at 23 rfl) (by decide) (fun c72 => ?_) (fun c72 => ?_)
      · replace T := T.1 c72
        refine J_aload_n 64 rfl 0 1 rfl ⟨by decide, by decide⟩ (D_X12_qFact_0.at 33 rfl) ?_
        refine J_dup 65 rfl rfl (D_X12_qFact_0.at 34 rfl) ?_
        refine J_getI (z := (h9 68 2)) 68 rfl fl_12_233 rfl ob_68 (Ob.lt ob_68) (D_X12_qFact_0.at 35 rfl) rfl ?_
        refine J_iconst 69 rfl (D_X12_qFact_0.at 36 rfl) ?_
        refine J_iadd 70 rfl (D_X12_qFact_0.at 37 rfl) ?_
        refine J_putI 73 rfl fl_12_233 rfl rfl ob_68 (Ob.lt ob_68) (D_X12_qFact_0.at 38 rfl) (fun h31 e32 => ?_)
        replace T := T h31 e32
        refine J_aload_n 74 rfl 0 1 rfl ⟨by decide, by decide⟩ (D_X12_qFact_0.at 39 rfl) ?_
        refine J_callV (d' := 7) (sr := fun z => []) (as := []) (st := []) (o := 68) 77 rfl ok_X12_qSums im_X12_qSums se_X12_qSums ml_12_625 isC_12 ob_68 (Ob.lt ob_68) rfl (by decide) ⟨Nat.le_refl _, Nat.le_refl _⟩ (Nat.le_of_ble_eq_true rfl) (D_X12_qFact_0.at 40 rfl) (fun _ => rfl) T (fun r33 h34 T b35 => ?_)
        refine J_aload_n 78 rfl 0 1 rfl ⟨by decide, by decide⟩ (D_X12_qFact_0.at 41 rfl) ?_
        refine J_iload_n 79 rfl 1 0 rfl (D_X12_qFact_0.at 42 rfl) ?_
        refine J_bipush 81 rfl ⟨by decide, by decide⟩ (D_X12_qFact_0.at 43 rfl) ?_
        obtain ⟨s36, T⟩ := T
        refine J_icmp_ne 84 rfl 89 s36 ⟨by decide, by decide⟩ (D_X12_qFact_0.at 44 rfl) (by decide) (fun c48 => ?_) (fun c48 => ?_)
        · replace T := T.1 c48
          refine J_iload_n 90 rfl 1 0 rfl (D_X12_qFact_0.at 47 rfl) ?_
          refine J_bipush 92 rfl ⟨by decide, by decide⟩ (D_X12_qFact_1.at 0 rfl) ?_
          obtain ⟨s37, T⟩ := T
          refine J_icmp_ne 95 rfl 100 s37 ⟨by decide, by decide⟩ (D_X12_qFact_1.at 1 rfl) (by decide) (fun c44 => ?_) (fun c44 => ?_)
          · replace T := T.1 c44
            refine J_bipush 102 rfl ⟨by decide, by decide⟩ (D_X12_qFact_1.at 4 rfl) ?_
            refine J_callV (d' := 1) (sr := fun z => []) (as := [vI 9]) (st := []) (o := 68) 105 rfl ok_X12_qCode im_X12_qCode se_X12_qCode ml_12_583 isC_12 ob_68 (Ob.lt ob_68) rfl (by decide) ⟨Nat.le_refl _, Nat.le_refl _⟩ (Nat.le_of_ble_eq_true rfl) (D_X12_qFact_1.at 5 rfl) (fun _ => rfl) T (fun r38 h39 T b40 => ?_)
            exact J_vret rfl (D_X12_qFact_1.at 6 rfl) T
          replace T := T.2 c44
          refine J_bipush 97 rfl ⟨by decide, by decide⟩ (D_X12_qFact_1.at 2 rfl) ?_
          refine J_goto 102 (D_X12_qFact_1.at 3 rfl) (by decide) ?_
          refine J_callV (d' := 1) (sr := fun z => []) (as := [vI 8]) (st := []) (o := 68) 105 rfl ok_X12_qCode im_X12_qCode se_X12_qCode ml_12_583 isC_12 ob_68 (Ob.lt ob_68) rfl (by decide) ⟨Nat.le_refl _, Nat.le_refl _⟩ (Nat.le_of_ble_eq_true rfl) (D_X12_qFact_1.at 5 rfl) (fun _ => rfl) T (fun r41 h42 T b43 => ?_)
          exact J_vret rfl (D_X12_qFact_1.at 6 rfl) T
        replace T := T.2 c48
        refine J_bipush 86 rfl ⟨by decide, by decide⟩ (D_X12_qFact_0.at 45 rfl) ?_
        refine J_goto 102 (D_X12_qFact_0.at 46 rfl) (by decide) ?_
        refine J_callV (d' := 1) (sr := fun z => []) (as := [vI 7]) (st := []) (o := 68) 105 rfl ok_X12_qCode im_X12_qCode se_X12_qCode ml_12_583 isC_12 ob_68 (Ob.lt ob_68) rfl (by decide) ⟨Nat.le_refl _, Nat.le_refl _⟩ (Nat.le_of_ble_eq_true rfl) (D_X12_qFact_1.at 5 rfl) (fun _ => rfl) T (fun r45 h46 T b47 => ?_)
        exact J_vret rfl (D_X12_qFact_1.at 6 rfl) T
      replace T := T.2 c72
      refine J_iload_n 48 rfl 1 0 rfl (D_X12_qFact_0.at 24 rfl) ?_
      refine J_bipush 50 rfl ⟨by decide, by decide⟩ (D_X12_qFact_0.at 25 rfl) ?_
      obtain ⟨s49, T⟩ := T
      refine J_icmp_eq 53 rfl 63 s49 ⟨by decide, by decide⟩ (D_X12_qFact_0.at 26 rfl) (by decide) (fun c71 => ?_) (fun c71 => ?_)
      · replace T := T.1 c71
        refine J_aload_n 64 rfl 0 1 rfl ⟨by decide, by decide⟩ (D_X12_qFact_0.at 33 rfl) ?_
        refine J_dup 65 rfl rfl (D_X12_qFact_0.at 34 rfl) ?_
        refine J_getI (z := (h9 68 2)) 68 rfl fl_12_233 rfl ob_68 (Ob.lt ob_68) (D_X12_qFact_0.at 35 rfl) rfl ?_
        refine J_iconst 69 rfl (D_X12_qFact_0.at 36 rfl) ?_
        refine J_iadd 70 rfl (D_X12_qFact_0.at 37 rfl) ?_
        refine J_putI 73 rfl fl_12_233 rfl rfl ob_68 (Ob.lt ob_68) (D_X12_qFact_0.at 38 rfl) (fun h50 e51 => ?_)
        replace T := T h50 e51
        refine J_aload_n 74 rfl 0 1 rfl ⟨by decide, by decide⟩ (D_X12_qFact_0.at 39 rfl) ?_
        refine J_callV (d' := 7) (sr := fun z => []) (as := []) (st := []) (o := 68) 77 rfl ok_X12_qSums im_X12_qSums se_X12_qSums ml_12_625 isC_12 ob_68 (Ob.lt ob_68) rfl (by decide) ⟨Nat.le_refl _, Nat.le_refl _⟩ (Nat.le_of_ble_eq_true rfl) (D_X12_qFact_0.at 40 rfl) (fun _ => rfl) T (fun r52 h53 T b54 => ?_)
        refine J_aload_n 78 rfl 0 1 rfl ⟨by decide, by decide⟩ (D_X12_qFact_0.at 41 rfl) ?_
        refine J_iload_n 79 rfl 1 0 rfl (D_X12_qFact_0.at 42 rfl) ?_
        refine J_bipush 81 rfl ⟨by decide, by decide⟩ (D_X12_qFact_0.at 43 rfl) ?_
        obtain ⟨s55, T⟩ := T
        refine J_icmp_ne 84 rfl 89 s55 ⟨by decide, by decide⟩ (D_X12_qFact_0.at 44 rfl) (by decide) (fun c67 => ?_) (fun c67 => ?_)
        · replace T := T.1 c67
          refine J_iload_n 90 rfl 1 0 rfl (D_X12_qFact_0.at 47 rfl) ?_
          refine J_bipush 92 rfl ⟨by decide, by decide⟩ (D_X12_qFact_1.at 0 rfl) ?_
          obtain ⟨s56, T⟩ := T
          refine J_icmp_ne 95 rfl 100 s56 ⟨by decide, by decide⟩ (D_X12_qFact_1.at 1 rfl) (by decide) (fun c63 => ?_) (fun c63 => ?_)
          · replace T := T.1 c63
            refine J_bipush 102 rfl ⟨by decide, by decide⟩ (D_X12_qFact_1.at 4 rfl) ?_
            refine J_callV (d' := 1) (sr := fun z => []) (as := [vI 9]) (st := []) (o := 68) 105 rfl ok_X12_qCode im_X12_qCode se_X12_qCode ml_12_583 isC_12 ob_68 (Ob.lt ob_68) rfl (by decide) ⟨Nat.le_refl _, Nat.le_refl _⟩ (Nat.le_of_ble_eq_true rfl) (D_X12_qFact_1.at 5 rfl) (fun _ => rfl) T (fun r57 h58 T b59 => ?_)
            exact J_vret rfl (D_X12_qFact_1.at 6 rfl) T
          replace T := T.2 c63
          refine J_bipush 97 rfl ⟨by decide, by decide⟩ (D_X12_qFact_1.at 2 rfl) ?_
          refine J_goto 102 (D_X12_qFact_1.at 3 rfl) (by decide) ?_
          refine J_callV (d' := 1) (sr := fun z => []) (as := [vI 8]) (st := []) (o := 68) 105 rfl ok_X12_qCode im_X12_qCode se_X12_qCode ml_12_583 isC_12 ob_68 (Ob.lt ob_68) rfl (by decide) ⟨Nat.le_refl _, Nat.le_refl _⟩ (Nat.le_of_ble_eq_true rfl) (D_X12_qFact_1.at 5 rfl) (fun _ => rfl) T (fun r60 h61 T b62 => ?_)
          exact J_vret rfl (D_X12_qFact_1.at 6 rfl) T
        replace T := T.2 c67
        refine J_bipush 86 rfl ⟨by decide, by decide⟩ (D_X12_qFact_0.at 45 rfl) ?_
        refine J_goto 102 (D_X12_qFact_0.at 46 rfl) (by decide) ?_
        refine J_callV (d' := 1) (sr := fun z => []) (as := [vI 7]) (st := []) (o := 68) 105 rfl ok_X12_qCode im_X12_qCode se_X12_qCode ml_12_583 isC_12 ob_68 (Ob.lt ob_68) rfl (by decide) ⟨Nat.le_refl _, Nat.le_refl _⟩ (Nat.le_of_ble_eq_true rfl) (D_X12_qFact_1.at 5 rfl) (fun _ => rfl) T (fun r64 h65 T b66 => ?_)
        exact J_vret rfl (D_X12_qFact_1.at 6 rfl) T
      replace T := T.2 c71
      refine J_aload_n 54 rfl 0 1 rfl ⟨by decide, by decide⟩ (D_X12_qFact_0.at 27 rfl) ?_
      refine J_iconst 55 rfl (D_X12_qFact_0.at 28 rfl) ?_
      refine J_aload_n 56 rfl 0 1 rfl ⟨by decide, by decide⟩ (D_X12_qFact_0.at 29 rfl) ?_
      refine J_getI (z := (h9 68 2)) 59 rfl fl_12_233 rfl ob_68 (Ob.lt ob_68) (D_X12_qFact_0.at 30 rfl) rfl ?_
      refine J_callV (d' := 1) (sr := fun z => []) (as := [vI 1, vI (h9 68 2)]) (st := []) (o := 68) 62 rfl ok_X12_fail im_X12_fail se_X12_fail ml_12_257 isC_12 ob_68 (Ob.lt ob_68) rfl (by decide) ⟨Nat.le_refl _, Nat.le_refl _⟩ (Nat.le_of_ble_eq_true rfl) (D_X12_qFact_0.at 31 rfl) (fun _ => rfl) T (fun r68 h69 T b70 => ?_)
      exact J_vret rfl (D_X12_qFact_0.at 32 rfl) T
    replace T := T.2 c74
    exact J_vret rfl (D_X12_qFact_0.at 14 rfl) T
  replace T := T.2 c78
  refine J_aload_n 12 rfl 0 0 rfl ⟨by decide, by decide⟩ (D_X12_qFact_0.at 5 rfl) ?_
  refine J_bipush 14 rfl ⟨by decide, by decide⟩ (D_X12_qFact_0.at 6 rfl) ?_
  refine J_callV (d' := 1) (sr := fun z => []) (as := [vI 13]) (st := []) (o := 68) 17 rfl ok_X12_qCode im_X12_qCode se_X12_qCode ml_12_583 isC_12 ob_68 (Ob.lt ob_68) rfl (by decide) ⟨Nat.le_refl _, Nat.le_refl _⟩ (Nat.le_of_ble_eq_true rfl) (D_X12_qFact_0.at 7 rfl) (fun _ => rfl) T (fun r75 h76 T b77 => ?_)
  exact J_vret rfl (D_X12_qFact_0.at 8 rfl) T
theorem c_X12_qTest {w : Wd} {h : Hp} {K : Int → Hp → Prop} (T : L_X12_qTest_2 w 1 h K) : C_X12_qTest w h K := by
  refine CGm_of2 (by decide) (by decide) trivial (Nat.le_of_ble_eq_true rfl) ?_
  refine J_iconst 1 rfl (D_X12_qTest_0.at 0 rfl) ?_
  refine J_istore_n (lv' := [(1, vI 1), (0, vR 68)]) 2 rfl 1 (by decide) rfl (D_X12_qTest_0.at 1 rfl) ?_
  exact J_sub (lv' := [(0, vR 68), (1, vI 1)]) [1, 0] rfl T
theorem l_X12_qTest_2 {w : Wd} {v1 : Int} {h : Hp} {K : Int → Hp → Prop} (T : (inR v1) ∧ (((v1 = 0) → (L_X12_qTest_110 w h K)) ∧ (¬ (v1 = 0) → ((inR (h 68 5)) ∧ ((((h 68 5) ≠ 0) → (L_X12_qTest_110 w h K)) ∧ (¬ ((h 68 5) ≠ 0) → (C_X12_look w h (fun r3 h4 => (inR r3) ∧ (((r3 ≠ 91) → (C_X12_isHere w 122 h4 (fun r7 h8 => (r7 = 0 ∨ r7 = 1) → ((r7 = 0) → (C_X12_qFact w h8 (fun _ h11 => C_X12_qDropsNots w h11 (fun _ h14 => (inR (h14 68 5)) ∧ ((((h14 68 5) ≠ 0) → (L_X12_qTest_2 w 0 h14 K)) ∧ (¬ ((h14 68 5) ≠ 0) → (C_X12_qGoesOnTest w h14 (fun r17 h18 => (r17 = 0 ∨ r17 = 1) → ((r17 = 0) → (L_X12_qTest_2 w 0 h18 K)) ∧ (¬ (r17 = 0) → (L_X12_qTest_2 w 1 h18 K)))))))))) ∧ (¬ (r7 = 0) → (C_X12_qOpens w 12 (h8 68 2) h8 (fun _ h23 => C_X12_asks w 122 h23 (fun _ h26 => L_X12_qTest_2 w v1 h26 K))))))) ∧ (¬ (r3 ≠ 91) → (C_X12_qOpens w 25 (h4 68 2) h4 (fun _ h30 => ∀ h32 : Hp, h32 = hu h30 68 2 ((h30 68 2) + 1) → L_X12_qTest_2 w v1 h32 K)))))))))))) : L_X12_qTest_2 w v1 h K := by
  unfold L_X12_qTest_2
  refine J_iload_n 3 rfl 1 1 rfl (D_X12_qTest_0.at 2 rfl) ?_
  obtain ⟨s1, T⟩ := T
  refine J_if_eq 6 rfl 110 s1 (D_X12_qTest_0.at 3 rfl) (by decide) (fun c36 => ?_) (fun c36 => ?_)
  · replace T := T.1 c36
    exact J_sub (lv' := [(0, vR 68)]) [0] rfl T
  replace T := T.2 c36
  refine J_aload_n 7 rfl 0 0 rfl ⟨by decide, by decide⟩ (D_X12_qTest_0.at 4 rfl) ?_
  refine J_getI (z := (h 68 5)) 10 rfl fl_12_227 rfl ob_68 (Ob.lt ob_68) (D_X12_qTest_0.at 5 rfl) rfl ?_
  obtain ⟨s2, T⟩ := T
  refine J_if_ne 13 rfl 110 s2 (D_X12_qTest_0.at 6 rfl) (by decide) (fun c35 => ?_) (fun c35 => ?_)
  · replace T := T.1 c35
    exact J_sub (lv' := [(0, vR 68)]) [0] rfl T
  replace T := T.2 c35
  refine J_aload_n 14 rfl 0 0 rfl ⟨by decide, by decide⟩ (D_X12_qTest_0.at 7 rfl) ?_
  refine J_callV (d' := 1) (sr := fun z => [vI z]) (as := []) (st := []) (o := 68) 17 rfl ok_X12_look im_X12_look se_X12_look ml_12_239 isC_12 ob_68 (Ob.lt ob_68) rfl (by decide) ⟨Nat.le_refl _, Nat.le_refl _⟩ (Nat.le_of_ble_eq_true rfl) (D_X12_qTest_0.at 8 rfl) (fun _ => rfl) T (fun r3 h4 T b5 => ?_)
  refine J_istore_n (lv' := [(2, vI r3), (0, vR 68), (1, vI v1)]) 18 rfl 2 (by decide) rfl (D_X12_qTest_0.at 9 rfl) ?_
  refine J_iload_n 19 rfl 2 0 rfl (D_X12_qTest_0.at 10 rfl) ?_
  refine J_bipush 21 rfl ⟨by decide, by decide⟩ (D_X12_qTest_0.at 11 rfl) ?_
  obtain ⟨s6, T⟩ := T
  refine J_icmp_ne 24 rfl 47 s6 ⟨by decide, by decide⟩ (D_X12_qTest_0.at 12 rfl) (by decide) (fun c34 => ?_) (fun c34 => ?_)
  · replace T := T.1 c34
    refine J_aload_n 48 rfl 0 1 rfl ⟨by decide, by decide⟩ (D_X12_qTest_0.at 25 rfl) ?_
    refine J_aload_n 49 rfl 0 1 rfl ⟨by decide, by decide⟩ (D_X12_qTest_0.at 26 rfl) ?_
    refine J_getF (ov := 122) (dd := 1054) 52 rfl fl_12_179 rfl (by decide) rfl ob_68 (Ob.lt ob_68) (D_X12_qTest_0.at 27 rfl) ?_
    refine J_callV (d' := 2) (sr := fun z => [vI z]) (as := [vR 122]) (st := []) (o := 68) 55 rfl ok_X12_isHere im_X12_isHere se_X12_isHere ml_12_250 isC_12 ob_68 (Ob.lt ob_68) rfl (by decide) ⟨Nat.le_refl _, Nat.le_refl _⟩ (Nat.le_of_ble_eq_true rfl) (D_X12_qTest_0.at 28 rfl) (fun _ => rfl) T (fun r7 h8 T b9 => ?_)
    replace T := T b9
    refine J_if_eq 58 rfl 79 (inR_b b9) (D_X12_qTest_0.at 29 rfl) (by decide) (fun c28 => ?_) (fun c28 => ?_)
    · replace T := T.1 c28
      refine J_aload_n 80 rfl 0 1 rfl ⟨by decide, by decide⟩ (D_X12_qTest_0.at 40 rfl) ?_
      refine J_callV (d' := 8) (sr := fun z => []) (as := []) (st := []) (o := 68) 83 rfl ok_X12_qFact im_X12_qFact se_X12_qFact ml_12_628 isC_12 ob_68 (Ob.lt ob_68) rfl (by decide) ⟨Nat.le_refl _, Nat.le_refl _⟩ (Nat.le_of_ble_eq_true rfl) (D_X12_qTest_0.at 41 rfl) (fun _ => rfl) T (fun r10 h11 T b12 => ?_)
      refine J_aload_n 84 rfl 0 1 rfl ⟨by decide, by decide⟩ (D_X12_qTest_0.at 42 rfl) ?_
      refine J_callV (d' := 3) (sr := fun z => []) (as := []) (st := []) (o := 68) 87 rfl ok_X12_qDropsNots im_X12_qDropsNots se_X12_qDropsNots ml_12_631 isC_12 ob_68 (Ob.lt ob_68) rfl (by decide) ⟨Nat.le_refl _, Nat.le_refl _⟩ (Nat.le_of_ble_eq_true rfl) (D_X12_qTest_0.at 43 rfl) (fun _ => rfl) T (fun r13 h14 T b15 => ?_)
      refine J_aload_n 88 rfl 0 1 rfl ⟨by decide, by decide⟩ (D_X12_qTest_0.at 44 rfl) ?_
      refine J_getI (z := (h14 68 5)) 91 rfl fl_12_227 rfl ob_68 (Ob.lt ob_68) (D_X12_qTest_0.at 45 rfl) rfl ?_
      obtain ⟨s16, T⟩ := T
      refine J_if_ne 94 rfl 105 s16 (D_X12_qTest_0.at 46 rfl) (by decide) (fun c21 => ?_) (fun c21 => ?_)
      · replace T := T.1 c21
        refine J_iconst 106 rfl (D_X12_qTest_1.at 4 rfl) ?_
        refine J_istore_n (lv' := [(1, vI 0), (2, vI r3), (0, vR 68)]) 107 rfl 1 (by decide) rfl (D_X12_qTest_1.at 5 rfl) ?_
        refine J_goto 2 (D_X12_qTest_1.at 6 rfl) (by decide) ?_
        exact J_sub (lv' := [(0, vR 68), (1, vI 0)]) [2, 0] rfl T
      replace T := T.2 c21
      refine J_aload_n 95 rfl 0 1 rfl ⟨by decide, by decide⟩ (D_X12_qTest_0.at 47 rfl) ?_
      refine J_callV (d' := 4) (sr := fun z => [vI z]) (as := []) (st := []) (o := 68) 98 rfl ok_X12_qGoesOnTest im_X12_qGoesOnTest se_X12_qGoesOnTest ml_12_634 isC_12 ob_68 (Ob.lt ob_68) rfl (by decide) ⟨Nat.le_refl _, Nat.le_refl _⟩ (Nat.le_of_ble_eq_true rfl) (D_X12_qTest_1.at 0 rfl) (fun _ => rfl) T (fun r17 h18 T b19 => ?_)
      replace T := T b19
      refine J_if_eq 101 rfl 105 (inR_b b19) (D_X12_qTest_1.at 1 rfl) (by decide) (fun c20 => ?_) (fun c20 => ?_)
      · replace T := T.1 c20
        refine J_iconst 106 rfl (D_X12_qTest_1.at 4 rfl) ?_
        refine J_istore_n (lv' := [(1, vI 0), (2, vI r3), (0, vR 68)]) 107 rfl 1 (by decide) rfl (D_X12_qTest_1.at 5 rfl) ?_
        refine J_goto 2 (D_X12_qTest_1.at 6 rfl) (by decide) ?_
        exact J_sub (lv' := [(0, vR 68), (1, vI 0)]) [2, 0] rfl T
      replace T := T.2 c20
      refine J_iconst 102 rfl (D_X12_qTest_1.at 2 rfl) ?_
      refine J_goto 106 (D_X12_qTest_1.at 3 rfl) (by decide) ?_
      refine J_istore_n (lv' := [(1, vI 1), (2, vI r3), (0, vR 68)]) 107 rfl 1 (by decide) rfl (D_X12_qTest_1.at 5 rfl) ?_
      refine J_goto 2 (D_X12_qTest_1.at 6 rfl) (by decide) ?_
      exact J_sub (lv' := [(0, vR 68), (1, vI 1)]) [2, 0] rfl T
    replace T := T.2 c28
    refine J_aload_n 59 rfl 0 1 rfl ⟨by decide, by decide⟩ (D_X12_qTest_0.at 30 rfl) ?_
    refine J_bipush 61 rfl ⟨by decide, by decide⟩ (D_X12_qTest_0.at 31 rfl) ?_
    refine J_aload_n 62 rfl 0 1 rfl ⟨by decide, by decide⟩ (D_X12_qTest_0.at 32 rfl) ?_
    refine J_getI (z := (h8 68 2)) 65 rfl fl_12_233 rfl ob_68 (Ob.lt ob_68) (D_X12_qTest_0.at 33 rfl) rfl ?_
    refine J_callV (d' := 2) (sr := fun z => []) (as := [vI 12, vI (h8 68 2)]) (st := []) (o := 68) 68 rfl ok_X12_qOpens im_X12_qOpens se_X12_qOpens ml_12_601 isC_12 ob_68 (Ob.lt ob_68) rfl (by decide) ⟨Nat.le_refl _, Nat.le_refl _⟩ (Nat.le_of_ble_eq_true rfl) (D_X12_qTest_0.at 34 rfl) (fun _ => rfl) T (fun r22 h23 T b24 => ?_)
    refine J_aload_n 69 rfl 0 1 rfl ⟨by decide, by decide⟩ (D_X12_qTest_0.at 35 rfl) ?_
    refine J_aload_n 70 rfl 0 1 rfl ⟨by decide, by decide⟩ (D_X12_qTest_0.at 36 rfl) ?_
    refine J_getF (ov := 122) (dd := 1054) 73 rfl fl_12_179 rfl (by decide) rfl ob_68 (Ob.lt ob_68) (D_X12_qTest_0.at 37 rfl) ?_
    refine J_callV (d' := 4) (sr := fun z => []) (as := [vR 122]) (st := []) (o := 68) 76 rfl ok_X12_asks im_X12_asks se_X12_asks ml_12_301 isC_12 ob_68 (Ob.lt ob_68) rfl (by decide) ⟨Nat.le_refl _, Nat.le_refl _⟩ (Nat.le_of_ble_eq_true rfl) (D_X12_qTest_0.at 38 rfl) (fun _ => rfl) T (fun r25 h26 T b27 => ?_)
    refine J_goto 2 (D_X12_qTest_0.at 39 rfl) (by decide) ?_
    exact J_sub (lv' := [(0, vR 68), (1, vI v1)]) [1, 2] rfl T
  replace T := T.2 c34
  refine J_aload_n 25 rfl 0 1 rfl ⟨by decide, by decide⟩ (D_X12_qTest_0.at 13 rfl) ?_
  refine J_bipush 27 rfl ⟨by decide, by decide⟩ (D_X12_qTest_0.at 14 rfl) ?_
  refine J_aload_n 28 rfl 0 1 rfl ⟨by decide, by decide⟩ (D_X12_qTest_0.at 15 rfl) ?_
  refine J_getI (z := (h4 68 2)) 31 rfl fl_12_233 rfl ob_68 (Ob.lt ob_68) (D_X12_qTest_0.at 16 rfl) rfl ?_
  refine J_callV (d' := 2) (sr := fun z => []) (as := [vI 25, vI (h4 68 2)]) (st := []) (o := 68) 34 rfl ok_X12_qOpens im_X12_qOpens se_X12_qOpens ml_12_601 isC_12 ob_68 (Ob.lt ob_68) rfl (by decide) ⟨Nat.le_refl _, Nat.le_refl _⟩ (Nat.le_of_ble_eq_true rfl) (D_X12_qTest_0.at 17 rfl) (fun _ => rfl) T (fun r29 h30 T b31 => ?_)
  refine J_aload_n 35 rfl 0 1 rfl ⟨by decide, by decide⟩ (D_X12_qTest_0.at 18 rfl) ?_
  refine J_dup 36 rfl rfl (D_X12_qTest_0.at 19 rfl) ?_
  refine J_getI (z := (h30 68 2)) 39 rfl fl_12_233 rfl ob_68 (Ob.lt ob_68) (D_X12_qTest_0.at 20 rfl) rfl ?_
  refine J_iconst 40 rfl (D_X12_qTest_0.at 21 rfl) ?_
  refine J_iadd 41 rfl (D_X12_qTest_0.at 22 rfl) ?_
  refine J_putI 44 rfl fl_12_233 rfl rfl ob_68 (Ob.lt ob_68) (D_X12_qTest_0.at 23 rfl) (fun h32 e33 => ?_)
  replace T := T h32 e33
  refine J_goto 2 (D_X12_qTest_0.at 24 rfl) (by decide) ?_
  exact J_sub (lv' := [(0, vR 68), (1, vI v1)]) [1, 2] rfl T
theorem l_X12_qTest_110 {w : Wd} {h : Hp} {K : Int → Hp → Prop} (T : (inR (h 68 5)) ∧ ((((h 68 5) ≠ 0) → (K 0 h)) ∧ (¬ ((h 68 5) ≠ 0) → ((inR (h 68 89)) ∧ ((((h 68 89) ≤ 0) → (K 0 h)) ∧ (¬ ((h 68 89) ≤ 0) → (C_X12_qDrops w h (fun _ h40 => L_X12_qTest_110 w h40 K)))))))) : L_X12_qTest_110 w h K := by
  unfold L_X12_qTest_110
  refine J_aload_n 111 rfl 0 0 rfl ⟨by decide, by decide⟩ (D_X12_qTest_1.at 7 rfl) ?_
  refine J_getI (z := (h 68 5)) 114 rfl fl_12_227 rfl ob_68 (Ob.lt ob_68) (D_X12_qTest_1.at 8 rfl) rfl ?_
  obtain ⟨s37, T⟩ := T
  refine J_if_ne 117 rfl 131 s37 (D_X12_qTest_1.at 9 rfl) (by decide) (fun c43 => ?_) (fun c43 => ?_)
  · replace T := T.1 c43
    exact J_vret rfl (D_X12_qTest_1.at 16 rfl) T
  replace T := T.2 c43
  refine J_aload_n 118 rfl 0 0 rfl ⟨by decide, by decide⟩ (D_X12_qTest_1.at 10 rfl) ?_
  refine J_getI (z := (h 68 89)) 121 rfl fl_12_580 rfl ob_68 (Ob.lt ob_68) (D_X12_qTest_1.at 11 rfl) rfl ?_
  obtain ⟨s38, T⟩ := T
  refine J_if_le 124 rfl 131 s38 (D_X12_qTest_1.at 12 rfl) (by decide) (fun c42 => ?_) (fun c42 => ?_)
  · replace T := T.1 c42
    exact J_vret rfl (D_X12_qTest_1.at 16 rfl) T
  replace T := T.2 c42
  refine J_aload_n 125 rfl 0 0 rfl ⟨by decide, by decide⟩ (D_X12_qTest_1.at 13 rfl) ?_
  refine J_callV (d' := 2) (sr := fun z => []) (as := []) (st := []) (o := 68) 128 rfl ok_X12_qDrops im_X12_qDrops se_X12_qDrops ml_12_592 isC_12 ob_68 (Ob.lt ob_68) rfl (by decide) ⟨Nat.le_refl _, Nat.le_refl _⟩ (Nat.le_of_ble_eq_true rfl) (D_X12_qTest_1.at 14 rfl) (fun _ => rfl) T (fun r39 h40 T b41 => ?_)
  refine J_goto 110 (D_X12_qTest_1.at 15 rfl) (by decide) ?_
  exact T
theorem c_X12_ask {w : Wd} {h : Hp} {K : Int → Hp → Prop} (T : (inR (h 68 36)) ∧ ((((h 68 36) ≠ 0) → (∀ h2 : Hp, h2 = hu h 68 3 (h 68 1) → ∀ h4 : Hp, h4 = hu h2 68 1 0 → ∀ h6 : Hp, h6 = hu h4 68 2 0 → ∀ h8 : Hp, h8 = hu h6 68 4 (-1) → ∀ h10 : Hp, h10 = hu h8 68 5 0 → ∀ h12 : Hp, h12 = hu h10 68 6 (-1) → ∀ h14 : Hp, h14 = hu h12 68 87 0 → ∀ h16 : Hp, h16 = hu h14 68 89 0 → ∀ h18 : Hp, h18 = hu h16 68 90 0 → ∀ h20 : Hp, h20 = hu h18 68 91 0 → C_X12_qKind w h20 (fun r22 h23 => (inR (h23 68 5)) ∧ ((((h23 68 5) ≠ 0) → (L_X12_ask_93 w r22 h23 K)) ∧ (¬ ((h23 68 5) ≠ 0) → ((inR r22) ∧ (((r22 ≥ 3) → (L_X12_ask_93 w r22 h23 K)) ∧ (¬ (r22 ≥ 3) → (C_X12_qTest w h23 (fun _ h28 => L_X12_ask_104 w r22 h28 K)))))))))) ∧ (¬ ((h 68 36) ≠ 0) → (∀ h32 : Hp, h32 = hu h 68 1 0 → K (-1000000000000000) h32)))) : C_X12_ask w h K := by
  refine CGm_of2 (by decide) (by decide) trivial (Nat.le_of_ble_eq_true rfl) ?_
  refine J_aload_n 1 rfl 0 0 rfl ⟨by decide, by decide⟩ (D_X12_ask_0.at 0 rfl) ?_
  refine J_getI (z := (h 68 36)) 4 rfl fl_12_356 rfl ob_68 (Ob.lt ob_68) (D_X12_ask_0.at 1 rfl) rfl ?_
  obtain ⟨s1, T⟩ := T
  refine J_if_ne 7 rfl 16 s1 (D_X12_ask_0.at 2 rfl) (by decide) (fun c34 => ?_) (fun c34 => ?_)
  · replace T := T.1 c34
    refine J_aload_n 17 rfl 0 0 rfl ⟨by decide, by decide⟩ (D_X12_ask_0.at 8 rfl) ?_
    refine J_aload_n 18 rfl 0 0 rfl ⟨by decide, by decide⟩ (D_X12_ask_0.at 9 rfl) ?_
    refine J_getI (z := (h 68 1)) 21 rfl fl_12_224 rfl ob_68 (Ob.lt ob_68) (D_X12_ask_0.at 10 rfl) rfl ?_
    refine J_putI 24 rfl fl_12_236 rfl rfl ob_68 (Ob.lt ob_68) (D_X12_ask_0.at 11 rfl) (fun h2 e3 => ?_)
    replace T := T h2 e3
    refine J_aload_n 25 rfl 0 0 rfl ⟨by decide, by decide⟩ (D_X12_ask_0.at 12 rfl) ?_
    refine J_iconst 26 rfl (D_X12_ask_0.at 13 rfl) ?_
    refine J_putI 29 rfl fl_12_224 rfl rfl ob_68 (Ob.lt ob_68) (D_X12_ask_0.at 14 rfl) (fun h4 e5 => ?_)
    replace T := T h4 e5
    refine J_aload_n 30 rfl 0 0 rfl ⟨by decide, by decide⟩ (D_X12_ask_0.at 15 rfl) ?_
    refine J_iconst 31 rfl (D_X12_ask_0.at 16 rfl) ?_
    refine J_putI 34 rfl fl_12_233 rfl rfl ob_68 (Ob.lt ob_68) (D_X12_ask_0.at 17 rfl) (fun h6 e7 => ?_)
    replace T := T h6 e7
    refine J_aload_n 35 rfl 0 0 rfl ⟨by decide, by decide⟩ (D_X12_ask_0.at 18 rfl) ?_
    refine J_iconst 36 rfl (D_X12_ask_0.at 19 rfl) ?_
    refine J_putI 39 rfl fl_12_247 rfl rfl ob_68 (Ob.lt ob_68) (D_X12_ask_0.at 20 rfl) (fun h8 e9 => ?_)
    replace T := T h8 e9
    refine J_aload_n 40 rfl 0 0 rfl ⟨by decide, by decide⟩ (D_X12_ask_0.at 21 rfl) ?_
    refine J_iconst 41 rfl (D_X12_ask_0.at 22 rfl) ?_
    refine J_putI 44 rfl fl_12_227 rfl rfl ob_68 (Ob.lt ob_68) (D_X12_ask_0.at 23 rfl) (fun h10 e11 => ?_)
    replace T := T h10 e11
    refine J_aload_n 45 rfl 0 0 rfl ⟨by decide, by decide⟩ (D_X12_ask_0.at 24 rfl) ?_
    refine J_iconst 46 rfl (D_X12_ask_0.at 25 rfl) ?_
    refine J_putI 49 rfl fl_12_230 rfl rfl ob_68 (Ob.lt ob_68) (D_X12_ask_0.at 26 rfl) (fun h12 e13 => ?_)
    replace T := T h12 e13
    refine J_aload_n 50 rfl 0 0 rfl ⟨by decide, by decide⟩ (D_X12_ask_0.at 27 rfl) ?_
    refine J_iconst 51 rfl (D_X12_ask_0.at 28 rfl) ?_
    refine J_putI 54 rfl fl_12_574 rfl rfl ob_68 (Ob.lt ob_68) (D_X12_ask_0.at 29 rfl) (fun h14 e15 => ?_)
    replace T := T h14 e15
    refine J_aload_n 55 rfl 0 0 rfl ⟨by decide, by decide⟩ (D_X12_ask_0.at 30 rfl) ?_
    refine J_iconst 56 rfl (D_X12_ask_0.at 31 rfl) ?_
    refine J_putI 59 rfl fl_12_580 rfl rfl ob_68 (Ob.lt ob_68) (D_X12_ask_0.at 32 rfl) (fun h16 e17 => ?_)
    replace T := T h16 e17
    refine J_aload_n 60 rfl 0 0 rfl ⟨by decide, by decide⟩ (D_X12_ask_0.at 33 rfl) ?_
    refine J_iconst 61 rfl (D_X12_ask_0.at 34 rfl) ?_
    refine J_putI 64 rfl fl_12_577 rfl rfl ob_68 (Ob.lt ob_68) (D_X12_ask_0.at 35 rfl) (fun h18 e19 => ?_)
    replace T := T h18 e19
    refine J_aload_n 65 rfl 0 0 rfl ⟨by decide, by decide⟩ (D_X12_ask_0.at 36 rfl) ?_
    refine J_iconst 66 rfl (D_X12_ask_0.at 37 rfl) ?_
    refine J_putI 69 rfl fl_12_586 rfl rfl ob_68 (Ob.lt ob_68) (D_X12_ask_0.at 38 rfl) (fun h20 e21 => ?_)
    replace T := T h20 e21
    refine J_aload_n 70 rfl 0 0 rfl ⟨by decide, by decide⟩ (D_X12_ask_0.at 39 rfl) ?_
    refine J_callV (d' := 5) (sr := fun z => [vI z]) (as := []) (st := []) (o := 68) 73 rfl ok_X12_qKind im_X12_qKind se_X12_qKind ml_12_673 isC_12 ob_68 (Ob.lt ob_68) rfl (by decide) ⟨Nat.le_refl _, Nat.le_refl _⟩ (Nat.le_of_ble_eq_true rfl) (D_X12_ask_0.at 40 rfl) (fun _ => rfl) T (fun r22 h23 T b24 => ?_)
    refine J_istore_n (lv' := [(1, vI r22), (0, vR 68)]) 74 rfl 1 (by decide) rfl (D_X12_ask_0.at 41 rfl) ?_
    refine J_aload_n 75 rfl 0 1 rfl ⟨by decide, by decide⟩ (D_X12_ask_0.at 42 rfl) ?_
    refine J_getI (z := (h23 68 5)) 78 rfl fl_12_227 rfl ob_68 (Ob.lt ob_68) (D_X12_ask_0.at 43 rfl) rfl ?_
    obtain ⟨s25, T⟩ := T
    refine J_if_ne 81 rfl 93 s25 (D_X12_ask_0.at 44 rfl) (by decide) (fun c31 => ?_) (fun c31 => ?_)
    · replace T := T.1 c31
      exact J_sub (lv' := [(0, vR 68), (1, vI r22)]) [1, 0] rfl T
    replace T := T.2 c31
    refine J_iload_n 82 rfl 1 0 rfl (D_X12_ask_0.at 45 rfl) ?_
    refine J_iconst 83 rfl (D_X12_ask_0.at 46 rfl) ?_
    obtain ⟨s26, T⟩ := T
    refine J_icmp_ge 86 rfl 93 s26 ⟨by decide, by decide⟩ (D_X12_ask_0.at 47 rfl) (by decide) (fun c30 => ?_) (fun c30 => ?_)
    · replace T := T.1 c30
      exact J_sub (lv' := [(0, vR 68), (1, vI r22)]) [1, 0] rfl T
    replace T := T.2 c30
    refine J_aload_n 87 rfl 0 1 rfl ⟨by decide, by decide⟩ (D_X12_ask_1.at 0 rfl) ?_
    refine J_callV (d' := 9) (sr := fun z => []) (as := []) (st := []) (o := 68) 90 rfl ok_X12_qTest im_X12_qTest se_X12_qTest ml_12_676 isC_12 ob_68 (Ob.lt ob_68) rfl (by decide) ⟨Nat.le_refl _, Nat.le_refl _⟩ (Nat.le_of_ble_eq_true rfl) (D_X12_ask_1.at 1 rfl) (fun _ => rfl) T (fun r27 h28 T b29 => ?_)
    refine J_goto 104 (D_X12_ask_1.at 2 rfl) (by decide) ?_
    exact J_sub (lv' := [(0, vR 68), (1, vI r22)]) [1, 0] rfl T
  replace T := T.2 c34
  refine J_aload_n 8 rfl 0 0 rfl ⟨by decide, by decide⟩ (D_X12_ask_0.at 3 rfl) ?_
  refine J_iconst 9 rfl (D_X12_ask_0.at 4 rfl) ?_
  refine J_putI 12 rfl fl_12_224 rfl rfl ob_68 (Ob.lt ob_68) (D_X12_ask_0.at 5 rfl) (fun h32 e33 => ?_)
  replace T := T h32 e33
  refine J_ldc2 15 rfl ko_12_671 (D_X12_ask_0.at 6 rfl) ?_
  exact J_lret rfl (D_X12_ask_0.at 7 rfl) T
theorem l_X12_ask_104 {w : Wd} {v1 : Int} {h : Hp} {K : Int → Hp → Prop} (T : (inR (h 68 5)) ∧ ((((h 68 5) ≠ 0) → (L_X12_ask_128 w v1 h K)) ∧ (¬ ((h 68 5) ≠ 0) → (C_X12_look w h (fun r36 h37 => (inR r36) ∧ (((r36 = (-1)) → (L_X12_ask_128 w v1 h37 K)) ∧ (¬ (r36 = (-1)) → (C_X12_fail w 1 (h37 68 2) h37 (fun _ h41 => L_X12_ask_128 w v1 h41 K))))))))) : L_X12_ask_104 w v1 h K := by
  unfold L_X12_ask_104
  refine J_aload_n 105 rfl 0 0 rfl ⟨by decide, by decide⟩ (D_X12_ask_1.at 8 rfl) ?_
  refine J_getI (z := (h 68 5)) 108 rfl fl_12_227 rfl ob_68 (Ob.lt ob_68) (D_X12_ask_1.at 9 rfl) rfl ?_
  obtain ⟨s35, T⟩ := T
  refine J_if_ne 111 rfl 128 s35 (D_X12_ask_1.at 10 rfl) (by decide) (fun c44 => ?_) (fun c44 => ?_)
  · replace T := T.1 c44
    exact T
  replace T := T.2 c44
  refine J_aload_n 112 rfl 0 0 rfl ⟨by decide, by decide⟩ (D_X12_ask_1.at 11 rfl) ?_
  refine J_callV (d' := 1) (sr := fun z => [vI z]) (as := []) (st := []) (o := 68) 115 rfl ok_X12_look im_X12_look se_X12_look ml_12_239 isC_12 ob_68 (Ob.lt ob_68) rfl (by decide) ⟨Nat.le_refl _, Nat.le_refl _⟩ (Nat.le_of_ble_eq_true rfl) (D_X12_ask_1.at 12 rfl) (fun _ => rfl) T (fun r36 h37 T b38 => ?_)
  refine J_iconst 116 rfl (D_X12_ask_1.at 13 rfl) ?_
  obtain ⟨s39, T⟩ := T
  refine J_icmp_eq 119 rfl 128 s39 ⟨by decide, by decide⟩ (D_X12_ask_1.at 14 rfl) (by decide) (fun c43 => ?_) (fun c43 => ?_)
  · replace T := T.1 c43
    exact T
  replace T := T.2 c43
  refine J_aload_n 120 rfl 0 0 rfl ⟨by decide, by decide⟩ (D_X12_ask_1.at 15 rfl) ?_
  refine J_iconst 121 rfl (D_X12_ask_1.at 16 rfl) ?_
  refine J_aload_n 122 rfl 0 0 rfl ⟨by decide, by decide⟩ (D_X12_ask_1.at 17 rfl) ?_
  refine J_getI (z := (h37 68 2)) 125 rfl fl_12_233 rfl ob_68 (Ob.lt ob_68) (D_X12_ask_1.at 18 rfl) rfl ?_
  refine J_callV (d' := 1) (sr := fun z => []) (as := [vI 1, vI (h37 68 2)]) (st := []) (o := 68) 128 rfl ok_X12_fail im_X12_fail se_X12_fail ml_12_257 isC_12 ob_68 (Ob.lt ob_68) rfl (by decide) ⟨Nat.le_refl _, Nat.le_refl _⟩ (Nat.le_of_ble_eq_true rfl) (D_X12_ask_1.at 19 rfl) (fun _ => rfl) T (fun r40 h41 T b42 => ?_)
  exact T
theorem l_X12_ask_128 {w : Wd} {v1 : Int} {h : Hp} {K : Int → Hp → Prop} (T : ∀ h45 : Hp, h45 = hu h 68 7 (h 68 5) → ∀ h47 : Hp, h47 = hu h45 68 8 (h45 68 6) → (inR (h47 68 5)) ∧ ((((h47 68 5) = 0) → ((inR v1) ∧ (((v1 ≥ 2) → (∀ h51 : Hp, h51 = hu h47 68 94 0 → ∀ h53 : Hp, h53 = hu h51 68 95 1 → L_X12_ask_178 w v1 0 h53 K)) ∧ (¬ (v1 ≥ 2) → (∀ h55 : Hp, h55 = hu h47 68 94 (-1) → ∀ h57 : Hp, h57 = hu h55 68 95 1 → L_X12_ask_178 w v1 0 h57 K))))) ∧ (¬ ((h47 68 5) = 0) → (K (-1000000000000000) h47)))) : L_X12_ask_128 w v1 h K := by
  unfold L_X12_ask_128
  refine J_aload_n 129 rfl 0 0 rfl ⟨by decide, by decide⟩ (D_X12_ask_1.at 20 rfl) ?_
  refine J_aload_n 130 rfl 0 0 rfl ⟨by decide, by decide⟩ (D_X12_ask_1.at 21 rfl) ?_
  refine J_getI (z := (h 68 5)) 133 rfl fl_12_227 rfl ob_68 (Ob.lt ob_68) (D_X12_ask_1.at 22 rfl) rfl ?_
  refine J_putI 136 rfl fl_12_350 rfl rfl ob_68 (Ob.lt ob_68) (D_X12_ask_1.at 23 rfl) (fun h45 e46 => ?_)
  replace T := T h45 e46
  refine J_aload_n 137 rfl 0 0 rfl ⟨by decide, by decide⟩ (D_X12_ask_1.at 24 rfl) ?_
  refine J_aload_n 138 rfl 0 0 rfl ⟨by decide, by decide⟩ (D_X12_ask_1.at 25 rfl) ?_
  refine J_getI (z := (h45 68 6)) 141 rfl fl_12_230 rfl ob_68 (Ob.lt ob_68) (D_X12_ask_1.at 26 rfl) rfl ?_
  refine J_putI 144 rfl fl_12_13 rfl rfl ob_68 (Ob.lt ob_68) (D_X12_ask_1.at 27 rfl) (fun h47 e48 => ?_)
  replace T := T h47 e48
  refine J_aload_n 145 rfl 0 0 rfl ⟨by decide, by decide⟩ (D_X12_ask_1.at 28 rfl) ?_
  refine J_getI (z := (h47 68 5)) 148 rfl fl_12_227 rfl ob_68 (Ob.lt ob_68) (D_X12_ask_1.at 29 rfl) rfl ?_
  obtain ⟨s49, T⟩ := T
  refine J_if_eq 151 rfl 155 s49 (D_X12_ask_1.at 30 rfl) (by decide) (fun c60 => ?_) (fun c60 => ?_)
  · replace T := T.1 c60
    refine J_aload_n 156 rfl 0 0 rfl ⟨by decide, by decide⟩ (D_X12_ask_1.at 33 rfl) ?_
    refine J_iload_n 157 rfl 1 1 rfl (D_X12_ask_1.at 34 rfl) ?_
    refine J_iconst 158 rfl (D_X12_ask_1.at 35 rfl) ?_
    obtain ⟨s50, T⟩ := T
    refine J_icmp_ge 161 rfl 167 s50 ⟨by decide, by decide⟩ (D_X12_ask_1.at 36 rfl) (by decide) (fun c59 => ?_) (fun c59 => ?_)
    · replace T := T.1 c59
      refine J_lconst (z := 0) 168 rfl rfl (D_X12_ask_1.at 39 rfl) ?_
      refine J_putL 171 rfl fl_12_663 rfl rfl ob_68 (Ob.lt ob_68) (D_X12_ask_1.at 40 rfl) (fun h51 e52 => ?_)
      replace T := T h51 e52
      refine J_aload_n 172 rfl 0 0 rfl ⟨by decide, by decide⟩ (D_X12_ask_1.at 41 rfl) ?_
      refine J_iconst 173 rfl (D_X12_ask_1.at 42 rfl) ?_
      refine J_putZ 176 rfl fl_12_668 rfl rfl (Or.inr rfl) ob_68 (Ob.lt ob_68) (D_X12_ask_1.at 43 rfl) (fun h53 e54 => ?_)
      replace T := T h53 e54
      refine J_iconst 177 rfl (D_X12_ask_1.at 44 rfl) ?_
      refine J_istore_n (lv' := [(2, vI 0), (0, vR 68), (1, vI v1)]) 178 rfl 2 (by decide) rfl (D_X12_ask_1.at 45 rfl) ?_
      exact J_sub (lv' := [(0, vR 68), (1, vI v1), (2, vI 0)]) [1, 2, 0] rfl T
    replace T := T.2 c59
    refine J_ldc2 164 rfl ko_12_666 (D_X12_ask_1.at 37 rfl) ?_
    refine J_goto 168 (D_X12_ask_1.at 38 rfl) (by decide) ?_
    refine J_putL 171 rfl fl_12_663 rfl rfl ob_68 (Ob.lt ob_68) (D_X12_ask_1.at 40 rfl) (fun h55 e56 => ?_)
    replace T := T h55 e56
    refine J_aload_n 172 rfl 0 0 rfl ⟨by decide, by decide⟩ (D_X12_ask_1.at 41 rfl) ?_
    refine J_iconst 173 rfl (D_X12_ask_1.at 42 rfl) ?_
    refine J_putZ 176 rfl fl_12_668 rfl rfl (Or.inr rfl) ob_68 (Ob.lt ob_68) (D_X12_ask_1.at 43 rfl) (fun h57 e58 => ?_)
    replace T := T h57 e58
    refine J_iconst 177 rfl (D_X12_ask_1.at 44 rfl) ?_
    refine J_istore_n (lv' := [(2, vI 0), (0, vR 68), (1, vI v1)]) 178 rfl 2 (by decide) rfl (D_X12_ask_1.at 45 rfl) ?_
    exact J_sub (lv' := [(0, vR 68), (1, vI v1), (2, vI 0)]) [1, 2, 0] rfl T
  replace T := T.2 c60
  refine J_ldc2 154 rfl ko_12_671 (D_X12_ask_1.at 31 rfl) ?_
  exact J_lret rfl (D_X12_ask_1.at 32 rfl) T
theorem l_X12_ask_178 {w : Wd} {v1 v2 : Int} {h : Hp} {K : Int → Hp → Prop} (T : (inR v2) ∧ (((v2 > 9) → (K (h 68 94) h)) ∧ (¬ (v2 > 9) → (C_X12_wouldBe w v2 h (fun _ h63 => C_X12_qTold w v2 h63 (fun r65 h66 => C_X12_qTakes w v1 r65 v2 h66 (fun _ h69 => L_X12_ask_178 w v1 (v2 + 1) h69 K))))))) : L_X12_ask_178 w v1 v2 h K := by
  unfold L_X12_ask_178
  refine J_iload_n 179 rfl 2 2 rfl (D_X12_ask_1.at 46 rfl) ?_
  refine J_bipush 181 rfl ⟨by decide, by decide⟩ (D_X12_ask_1.at 47 rfl) ?_
  obtain ⟨s61, T⟩ := T
  refine J_icmp_gt 184 rfl 206 s61 ⟨by decide, by decide⟩ (D_X12_ask_2.at 0 rfl) (by decide) (fun c71 => ?_) (fun c71 => ?_)
  · replace T := T.1 c71
    refine J_aload_n 207 rfl 0 0 rfl ⟨by decide, by decide⟩ (D_X12_ask_2.at 13 rfl) ?_
    refine J_getL (z := (h 68 94)) 210 rfl fl_12_663 rfl ob_68 (Ob.lt ob_68) (D_X12_ask_2.at 14 rfl) rfl ?_
    exact J_lret rfl (D_X12_ask_2.at 15 rfl) T
  replace T := T.2 c71
  refine J_aload_n 185 rfl 0 0 rfl ⟨by decide, by decide⟩ (D_X12_ask_2.at 1 rfl) ?_
  refine J_iload_n 186 rfl 2 2 rfl (D_X12_ask_2.at 2 rfl) ?_
  refine J_callV (d' := 6) (sr := fun z => []) (as := [vI v2]) (st := []) (o := 68) 189 rfl ok_X12_wouldBe im_X12_wouldBe se_X12_wouldBe ml_12_459 isC_12 ob_68 (Ob.lt ob_68) rfl (by decide) ⟨Nat.le_refl _, Nat.le_refl _⟩ (Nat.le_of_ble_eq_true rfl) (D_X12_ask_2.at 3 rfl) (fun _ => rfl) T (fun r62 h63 T b64 => ?_)
  refine J_aload_n 190 rfl 0 0 rfl ⟨by decide, by decide⟩ (D_X12_ask_2.at 4 rfl) ?_
  refine J_iload_n 191 rfl 1 1 rfl (D_X12_ask_2.at 5 rfl) ?_
  refine J_aload_n 192 rfl 0 0 rfl ⟨by decide, by decide⟩ (D_X12_ask_2.at 6 rfl) ?_
  refine J_iload_n 193 rfl 2 2 rfl (D_X12_ask_2.at 7 rfl) ?_
  refine J_callV (d' := 5) (sr := fun z => [vL z, vI v1, vR 68]) (as := [vI v2]) (st := [vI v1, vR 68]) (o := 68) 196 rfl ok_X12_qTold im_X12_qTold se_X12_qTold ml_12_679 isC_12 ob_68 (Ob.lt ob_68) rfl (by decide) ⟨Nat.le_refl _, Nat.le_refl _⟩ (Nat.le_of_ble_eq_true rfl) (D_X12_ask_2.at 8 rfl) (fun _ => rfl) T (fun r65 h66 T b67 => ?_)
  refine J_iload_n 197 rfl 2 2 rfl (D_X12_ask_2.at 9 rfl) ?_
  refine J_callV (d' := 1) (sr := fun z => []) (as := [vI v1, vL r65, vI v2]) (st := []) (o := 68) 200 rfl ok_X12_qTakes im_X12_qTakes se_X12_qTakes ml_12_683 isC_12 ob_68 (Ob.lt ob_68) rfl (by decide) ⟨Nat.le_refl _, Nat.le_refl _⟩ (Nat.le_of_ble_eq_true rfl) (D_X12_ask_2.at 10 rfl) (fun _ => rfl) T (fun r68 h69 T b70 => ?_)
  refine J_iinc (v := (v2 + 1)) (lv' := [(2, vI (v2 + 1)), (0, vR 68), (1, vI v1)]) 203 rfl 2 2 1 rfl rfl (by decide) rfl (D_X12_ask_2.at 11 rfl) ?_
  refine J_goto 178 (D_X12_ask_2.at 12 rfl) (by decide) ?_
  exact J_sub (lv' := [(0, vR 68), (1, vI v1), (2, vI (v2 + 1))]) [1, 2, 0] rfl T
theorem l_X12_ask_93 {w : Wd} {v1 : Int} {h : Hp} {K : Int → Hp → Prop} (T : (inR (h 68 5)) ∧ ((((h 68 5) ≠ 0) → (L_X12_ask_104 w v1 h K)) ∧ (¬ ((h 68 5) ≠ 0) → (C_X12_qSums w h (fun _ h74 => L_X12_ask_104 w v1 h74 K))))) : L_X12_ask_93 w v1 h K := by
  unfold L_X12_ask_93
  refine J_aload_n 94 rfl 0 0 rfl ⟨by decide, by decide⟩ (D_X12_ask_1.at 3 rfl) ?_
  refine J_getI (z := (h 68 5)) 97 rfl fl_12_227 rfl ob_68 (Ob.lt ob_68) (D_X12_ask_1.at 4 rfl) rfl ?_
  obtain ⟨s72, T⟩ := T
  refine J_if_ne 100 rfl 104 s72 (D_X12_ask_1.at 5 rfl) (by decide) (fun c76 => ?_) (fun c76 => ?_)
  · replace T := T.1 c76
    exact T
  replace T := T.2 c76
  refine J_aload_n 101 rfl 0 0 rfl ⟨by decide, by decide⟩ (D_X12_ask_1.at 6 rfl) ?_
  refine J_callV (d' := 7) (sr := fun z => []) (as := []) (st := []) (o := 68) 104 rfl ok_X12_qSums im_X12_qSums se_X12_qSums ml_12_625 isC_12 ob_68 (Ob.lt ob_68) rfl (by decide) ⟨Nat.le_refl _, Nat.le_refl _⟩ (Nat.le_of_ble_eq_true rfl) (D_X12_ask_1.at 7 rfl) (fun _ => rfl) T (fun r73 h74 T b75 => ?_)
  exact T
