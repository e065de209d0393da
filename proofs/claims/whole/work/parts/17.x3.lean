def C_X11_refuse (w : Wd) (a1 : Int) (h : Hp) (K : Int → Hp → Prop) : Prop := CGm w true m_X11_refuse 1 NT NT [vR 0, vI a1] h K
def C_X11_keepFault (w : Wd) (h : Hp) (K : Int → Hp → Prop) : Prop := CGm w true m_X11_keepFault 1 NT NT [vR 0] h K
def C_X11_fault (w : Wd) (a1 : Int) (h : Hp) (K : Int → Hp → Prop) : Prop := CGm w true m_X11_fault 1 NT NT [vR 0, vI a1] h K
def C_X11_draw (w : Wd) (a1 : Int) (h : Hp) (K : Int → Hp → Prop) : Prop := CGm w true m_X11_draw 1 NT NT [vR 0, vI a1] h K
def C_X11_write (w : Wd) (a1 : Int) (h : Hp) (K : Int → Hp → Prop) : Prop := CGm w true m_X11_write 1 NT NT [vR 0, vI a1] h K
def C_X11_octet (w : Wd) (a1 : Int) (h : Hp) (K : Int → Hp → Prop) : Prop := CGm w true m_X11_octet 1 NT NT [vR 0, vI a1] h K
def C_X11_status (w : Wd) (a1 : Int) (h : Hp) (K : Int → Hp → Prop) : Prop := CGm w true m_X11_status 1 NT NT [vR 0, vI a1] h K
def C_X11_feed (w : Wd) (a1 a2 a3 a4 a5 : Int) (h : Hp) (K : Int → Hp → Prop) : Prop := CGm w true m_X11_feed 2 NT NT [vR 0, vI a1, vI a2, vI a3, vI a4, vI a5] h K
def C_X11_refuseAct (w : Wd) (a1 : Int) (h : Hp) (K : Int → Hp → Prop) : Prop := CGm w true m_X11_refuseAct 2 NT NT [vR 0, vI a1] h K
def C_X11_has (w : Wd) (a1 : Int) (h : Hp) (K : Int → Hp → Prop) : Prop := CGm w true m_X11_has 2 NT NT [vR 0, vI a1] h K
def C_X11_letter (w : Wd) (a1 a2 a3 : Int) (h : Hp) (K : Int → Hp → Prop) : Prop := CGm w true m_X11_letter 2 NT NT [vR 0, vI a1, vI a2, vI a3] h K
def C_X11_lies (w : Wd) (a1 a2 : Int) (h : Hp) (K : Int → Hp → Prop) : Prop := CGm w true m_X11_lies 2 NT NT [vR 0, vI a1, vI a2] h K
def C_X11_flow (w : Wd) (a1 a2 : Int) (h : Hp) (K : Int → Hp → Prop) : Prop := CGm w true m_X11_flow 2 NT NT [vR 0, vI a1, vI a2] h K
def C_X11_isStoneQuestion (w : Wd) (a1 : Int) (h : Hp) (K : Int → Hp → Prop) : Prop := CGm w true m_X11_isStoneQuestion 2 NT NT [vR 0, vI a1] h K
def C_X11_writeTwo (w : Wd) (a1 : Int) (h : Hp) (K : Int → Hp → Prop) : Prop := CGm w true m_X11_writeTwo 2 NT NT [vR 0, vI a1] h K
def C_X11_isChecked (w : Wd) (h : Hp) (K : Int → Hp → Prop) : Prop := CGm w true m_X11_isChecked 2 NT NT [vR 0] h K
def L_X11_isChecked_6 (w : Wd) (v1 v2 : Int) (h : Hp) (K : Int → Hp → Prop) : Prop := JG w true m_X11_isChecked 2 NT NT 6 [(0, vR 0), (1, vI v1), (2, vI v2)] [] h K
def C_X11_end (w : Wd) (a1 : Int) (h : Hp) (K : Int → Hp → Prop) : Prop := CGm w true m_X11_end 3 NT NT [vR 0, vI a1] h K
def C_X11_bank (w : Wd) (a1 a2 : Int) (h : Hp) (K : Int → Hp → Prop) : Prop := CGm w true m_X11_bank 3 NT NT [vR 0, vI a1, vI a2] h K
def C_X11_isIsland (w : Wd) (a1 : Int) (h : Hp) (K : Int → Hp → Prop) : Prop := CGm w true m_X11_isIsland 3 NT NT [vR 0, vI a1] h K
def C_X11_hasMajority (w : Wd) (a1 a2 a3 : Int) (h : Hp) (K : Int → Hp → Prop) : Prop := CGm w true m_X11_hasMajority 3 NT NT [vR 0, vR a1, vI a2, vI a3] h K
def C_X11_vote (w : Wd) (a1 a2 : Int) (h : Hp) (K : Int → Hp → Prop) : Prop := CGm w true m_X11_vote 3 NT NT [vR 0, vI a1, vI a2] h K
def L_X11_vote_8 (w : Wd) (v1 v2 v3 v4 v5 : Int) (h : Hp) (K : Int → Hp → Prop) : Prop := JG w true m_X11_vote 3 NT NT 8 [(0, vR 0), (1, vI v1), (2, vI v2), (3, vI v3), (4, vI v4), (5, vI v5)] [] h K
def L_X11_vote_29 (w : Wd) (v1 v2 v3 v4 v5 v6 v7 : Int) (h : Hp) (K : Int → Hp → Prop) : Prop := JG w true m_X11_vote 3 NT NT 29 [(0, vR 0), (1, vI v1), (2, vI v2), (3, vI v3), (4, vI v4), (5, vI v5), (6, vI v6), (7, vI v7)] [] h K
def C_X11_share (w : Wd) (a1 a2 : Int) (h : Hp) (K : Int → Hp → Prop) : Prop := CGm w true m_X11_share 3 NT NT [vR 0, vI a1, vI a2] h K
def C_X11_tint (w : Wd) (a1 a2 : Int) (h : Hp) (K : Int → Hp → Prop) : Prop := CGm w true m_X11_tint 3 NT NT [vR 0, vI a1, vI a2] h K
def C_X11_stone (w : Wd) (a1 a2 : Int) (h : Hp) (K : Int → Hp → Prop) : Prop := CGm w true m_X11_stone 3 NT NT [vR 0, vI a1, vI a2] h K
def C_X11_rake (w : Wd) (a1 a2 a3 a4 : Int) (h : Hp) (K : Int → Hp → Prop) : Prop := CGm w true m_X11_rake 3 NT NT [vR 0, vI a1, vI a2, vI a3, vI a4] h K
def C_X11_undo (w : Wd) (h : Hp) (K : Int → Hp → Prop) : Prop := CGm w true m_X11_undo 3 NT NT [vR 0] h K
def C_X11_seed (w : Wd) (a1 : Int) (h : Hp) (K : Int → Hp → Prop) : Prop := CGm w true m_X11_seed 3 NT NT [vR 0, vI a1] h K
def C_X11_find (w : Wd) (h : Hp) (K : Int → Hp → Prop) : Prop := CGm w true m_X11_find 3 NT NT [vR 0] h K
def L_X11_find_37 (w : Wd) (v1 v2 : Int) (h : Hp) (K : Int → Hp → Prop) : Prop := JG w true m_X11_find 3 NT NT 37 [(0, vR 0), (1, vI v1), (2, vI v2)] [] h K
def C_X11_toldAbove (w : Wd) (a1 : Int) (h : Hp) (K : Int → Hp → Prop) : Prop := CGm w true m_X11_toldAbove 3 NT NT [vR 0, vI a1] h K
def L_X11_toldAbove_4 (w : Wd) (v1 v2 v3 : Int) (h : Hp) (K : Int → Hp → Prop) : Prop := JG w true m_X11_toldAbove 3 NT NT 4 [(0, vR 0), (1, vI v1), (2, vI v2), (3, vI v3)] [] h K
def C_X11_image (w : Wd) (h : Hp) (K : Int → Hp → Prop) : Prop := CGm w true m_X11_image 3 NT NT [vR 0] h K
def L_X11_image_18 (w : Wd) (v1 : Int) (h : Hp) (K : Int → Hp → Prop) : Prop := JG w true m_X11_image 3 NT NT 18 [(0, vR 0), (1, vI v1)] [] h K
def L_X11_image_89 (w : Wd) (v1 : Int) (h : Hp) (K : Int → Hp → Prop) : Prop := JG w true m_X11_image 3 NT NT 89 [(0, vR 0), (1, vI v1)] [] h K
def L_X11_image_44 (w : Wd) (v1 v2 : Int) (h : Hp) (K : Int → Hp → Prop) : Prop := JG w true m_X11_image 3 NT NT 44 [(0, vR 0), (1, vI v1), (2, vI v2)] [] h K
def L_X11_image_141 (w : Wd) (v1 v2 : Int) (h : Hp) (K : Int → Hp → Prop) : Prop := JG w true m_X11_image 3 NT NT 141 [(0, vR 0), (1, vI v1), (2, vI v2)] [] h K
def C_X11_readTrial (w : Wd) (a1 : Int) (h : Hp) (K : Int → Hp → Prop) : Prop := CGm w true m_X11_readTrial 3 NT NT [vR 0, vI a1] h K
def L_X11_readTrial_30 (w : Wd) (v1 v2 v3 : Int) (h : Hp) (K : Int → Hp → Prop) : Prop := JG w true m_X11_readTrial 3 NT NT 30 [(0, vR 0), (1, vI v1), (2, vI v2), (3, vI v3)] [] h K
def L_X11_readTrial_109 (w : Wd) (v1 v2 v3 : Int) (h : Hp) (K : Int → Hp → Prop) : Prop := JG w true m_X11_readTrial 3 NT NT 109 [(0, vR 0), (1, vI v1), (2, vI v2), (3, vI v3)] [] h K
def L_X11_readTrial_64 (w : Wd) (v1 v2 v3 v4 : Int) (h : Hp) (K : Int → Hp → Prop) : Prop := JG w true m_X11_readTrial 3 NT NT 64 [(0, vR 0), (1, vI v1), (2, vI v2), (3, vI v3), (4, vI v4)] [] h K
def C_X11_majority (w : Wd) (a1 : Int) (h : Hp) (K : Int → Hp → Prop) : Prop := CGm w true m_X11_majority 4 NT NT [vR 0, vI a1] h K
def L_X11_majority_2 (w : Wd) (v1 v2 : Int) (h : Hp) (K : Int → Hp → Prop) : Prop := JG w true m_X11_majority 4 NT NT 2 [(0, vR 0), (1, vI v1), (2, vI v2)] [] h K
def C_X11_isJoined (w : Wd) (a1 : Int) (h : Hp) (K : Int → Hp → Prop) : Prop := CGm w true m_X11_isJoined 4 NT NT [vR 0, vI a1] h K
def C_X11_isAsFound (w : Wd) (h : Hp) (K : Int → Hp → Prop) : Prop := CGm w true m_X11_isAsFound 4 NT NT [vR 0] h K
def L_X11_isAsFound_2 (w : Wd) (v1 : Int) (h : Hp) (K : Int → Hp → Prop) : Prop := JG w true m_X11_isAsFound 4 NT NT 2 [(0, vR 0), (1, vI v1)] [] h K
def C_X11_forged (w : Wd) (a1 : Int) (h : Hp) (K : Int → Hp → Prop) : Prop := CGm w true m_X11_forged 4 NT NT [vR 0, vI a1] h K
def C_X11_isImage (w : Wd) (h : Hp) (K : Int → Hp → Prop) : Prop := CGm w true m_X11_isImage 4 NT NT [vR 0] h K
def L_X11_isImage_70 (w : Wd) (v3 : Int) (h : Hp) (K : Int → Hp → Prop) : Prop := JG w true m_X11_isImage 4 NT NT 70 [(0, vR 0), (3, vI v3)] [] h K
def C_X11_landFrom (w : Wd) (a1 : Int) (h : Hp) (K : Int → Hp → Prop) : Prop := CGm w true m_X11_landFrom 5 NT NT [vR 0, vI a1] h K
def L_X11_landFrom_2 (w : Wd) (v2 : Int) (h : Hp) (K : Int → Hp → Prop) : Prop := JG w true m_X11_landFrom 5 NT NT 2 [(0, vR 0), (2, vI v2)] [] h K
def C_X11_landTo (w : Wd) (a1 : Int) (h : Hp) (K : Int → Hp → Prop) : Prop := CGm w true m_X11_landTo 5 NT NT [vR 0, vI a1] h K
def L_X11_landTo_2 (w : Wd) (v2 : Int) (h : Hp) (K : Int → Hp → Prop) : Prop := JG w true m_X11_landTo 5 NT NT 2 [(0, vR 0), (2, vI v2)] [] h K
def C_X11_cuts (w : Wd) (a1 a2 : Int) (h : Hp) (K : Int → Hp → Prop) : Prop := CGm w true m_X11_cuts 5 NT NT [vR 0, vI a1, vI a2] h K
def C_X11_on (w : Wd) (h : Hp) (K : Int → Hp → Prop) : Prop := CGm w true m_X11_on 5 NT NT [vR 0] h K
def C_X11_reach (w : Wd) (a1 a2 : Int) (h : Hp) (K : Int → Hp → Prop) : Prop := CGm w true m_X11_reach 6 NT NT [vR 0, vI a1, vI a2] h K
def C_X11_imagine (w : Wd) (a1 : Int) (h : Hp) (K : Int → Hp → Prop) : Prop := CGm w true m_X11_imagine 6 NT NT [vR 0, vI a1] h K
def C_X11_passYear (w : Wd) (a1 a2 : Int) (h : Hp) (K : Int → Hp → Prop) : Prop := CGm w true m_X11_passYear 6 NT NT [vR 0, vR a1, vI a2] h K
def C_X11_keep (w : Wd) (a1 a2 a3 a4 : Int) (h : Hp) (K : Int → Hp → Prop) : Prop := CGm w true m_X11_keep 6 NT NT [vR 0, vI a1, vI a2, vI a3, vI a4] h K
def C_X11_answer (w : Wd) (a1 : Int) (h : Hp) (K : Int → Hp → Prop) : Prop := CGm w true m_X11_answer 6 NT NT [vR 0, vI a1] h K
def L_X11_answer_23 (w : Wd) (v1 v2 v3 v4 v5 v7 v8 v9 : Int) (h : Hp) (K : Int → Hp → Prop) : Prop := JG w true m_X11_answer 6 NT NT 23 [(0, vR 0), (1, vI v1), (2, vI v2), (3, vI v3), (4, vI v4), (5, vL v5), (7, vI v7), (8, vI v8), (9, vI v9)] [] h K
def C_X11_settles (w : Wd) (a1 a2 a3 : Int) (h : Hp) (K : Int → Hp → Prop) : Prop := CGm w true m_X11_settles 7 NT NT [vR 0, vI a1, vI a2, vI a3] h K
def C_X11_carries (w : Wd) (a1 a2 a3 : Int) (h : Hp) (K : Int → Hp → Prop) : Prop := CGm w true m_X11_carries 7 NT NT [vR 0, vI a1, vI a2, vI a3] h K
def C_X11_would (w : Wd) (a1 a2 : Int) (h : Hp) (K : Int → Hp → Prop) : Prop := CGm w true m_X11_would 7 NT NT [vR 0, vI a1, vI a2] h K
def C_X11_flood (w : Wd) (a1 : Int) (h : Hp) (K : Int → Hp → Prop) : Prop := CGm w true m_X11_flood 7 NT NT [vR 0, vI a1] h K
def C_X11_years (w : Wd) (a1 : Int) (h : Hp) (K : Int → Hp → Prop) : Prop := CGm w true m_X11_years 7 NT NT [vR 0, vI a1] h K
def L_X11_years_57 (w : Wd) (v1 v2 v3 : Int) (h : Hp) (K : Int → Hp → Prop) : Prop := JG w true m_X11_years 7 NT NT 57 [(0, vR 0), (1, vI v1), (2, vI v2), (3, vI v3)] [] h K
def C_X11_mine (w : Wd) (a1 a2 a3 a4 a5 : Int) (h : Hp) (K : Int → Hp → Prop) : Prop := CGm w true m_X11_mine 7 NT NT [vR 0, vI a1, vI a2, vI a3, vI a4, vI a5] h K
def C_X11_until (w : Wd) (a1 a2 a3 : Int) (h : Hp) (K : Int → Hp → Prop) : Prop := CGm w true m_X11_until 7 NT NT [vR 0, vI a1, vI a2, vI a3] h K
def L_X11_until_45 (w : Wd) (v1 v2 v3 v4 : Int) (h : Hp) (K : Int → Hp → Prop) : Prop := JG w true m_X11_until 7 NT NT 45 [(0, vR 0), (1, vI v1), (2, vI v2), (3, vI v3), (4, vI v4)] [] h K
def C_X11_levels (w : Wd) (h : Hp) (K : Int → Hp → Prop) : Prop := CGm w true m_X11_levels 7 NT NT [vR 0] h K
def L_X11_levels_13 (w : Wd) (v1 v2 : Int) (h : Hp) (K : Int → Hp → Prop) : Prop := JG w true m_X11_levels 7 NT NT 13 [(0, vR 0), (1, vI v1), (2, vI v2)] [] h K
def C_X11_ask (w : Wd) (h : Hp) (K : Int → Hp → Prop) : Prop := CGm w true m_X11_ask 62 NT NT [vR 0] h K
def C_X11_river (w : Wd) (h : Hp) (K : Int → Hp → Prop) : Prop := CGm w true m_X11_river 64 NT NT [vR 0] h K
theorem c_X11_refuse {w : Wd} {a1 : Int} {h : Hp} {K : Int → Hp → Prop} (T : (inR a1) ∧ (((a1 < 0) → (K (-1) h)) ∧ (¬ (a1 < 0) → ((inR a1) ∧ (((a1 ≥ 6) → (K (-1) h)) ∧ (¬ (a1 ≥ 6) → ((0 ≤ a1 ∧ a1 < 6) ∧ ((0 ≤ a1 ∧ a1 < 6) ∧ (∀ h5 : Hp, h5 = hu h 59 a1 ((h 59 a1) + 1) → K (-1) h5))))))))) : C_X11_refuse w a1 h K := by
  refine CGm_of2 (by decide) (by decide) trivial (Nat.le_of_ble_eq_true rfl) ?_
  refine J_iload_n 1 rfl 1 1 rfl (D_X11_refuse_0.at 0 rfl) ?_
  obtain ⟨s1, T⟩ := T
  refine J_if_lt 4 rfl 23 s1 (D_X11_refuse_0.at 1 rfl) (by decide) (fun c8 => ?_) (fun c8 => ?_)
  · replace T := T.1 c8
    refine J_iconst 24 rfl (D_X11_refuse_0.at 15 rfl) ?_
    exact J_iret rfl (D_X11_refuse_0.at 16 rfl) T
  replace T := T.2 c8
  refine J_iload_n 5 rfl 1 1 rfl (D_X11_refuse_0.at 2 rfl) ?_
  refine J_aload_n 6 rfl 0 0 rfl ⟨by decide, by decide⟩ (D_X11_refuse_0.at 3 rfl) ?_
  refine J_getF (ov := 59) (dd := 1059) 9 rfl fl_11_73 rfl (by decide) rfl ob_0 (Ob.lt ob_0) (D_X11_refuse_0.at 4 rfl) ?_
  refine J_alenE (v := 6) 10 rfl rfl (by decide) ar_59 (Ar.lt ar_59) (D_X11_refuse_0.at 5 rfl) ?_
  obtain ⟨s2, T⟩ := T
  refine J_icmp_ge 13 rfl 23 s2 ⟨by decide, by decide⟩ (D_X11_refuse_0.at 6 rfl) (by decide) (fun c7 => ?_) (fun c7 => ?_)
  · replace T := T.1 c7
    refine J_iconst 24 rfl (D_X11_refuse_0.at 15 rfl) ?_
    exact J_iret rfl (D_X11_refuse_0.at 16 rfl) T
  replace T := T.2 c7
  refine J_aload_n 14 rfl 0 0 rfl ⟨by decide, by decide⟩ (D_X11_refuse_0.at 7 rfl) ?_
  refine J_getF (ov := 59) (dd := 1059) 17 rfl fl_11_73 rfl (by decide) rfl ob_0 (Ob.lt ob_0) (D_X11_refuse_0.at 8 rfl) ?_
  refine J_iload_n 18 rfl 1 1 rfl (D_X11_refuse_0.at 9 rfl) ?_
  refine J_dup2 19 rfl rfl rfl (D_X11_refuse_0.at 10 rfl) ?_
  obtain ⟨s3, T⟩ := T
  refine J_iald 20 rfl ar_59 (Ar.lt ar_59) s3 (D_X11_refuse_0.at 11 rfl) ?_
  refine J_iconst 21 rfl (D_X11_refuse_0.at 12 rfl) ?_
  refine J_iadd 22 rfl (D_X11_refuse_0.at 13 rfl) ?_
  obtain ⟨s4, T⟩ := T
  refine J_iastH 23 rfl ar_59 (Ar.lt ar_59) s4 trivial (D_X11_refuse_0.at 14 rfl) (fun h5 e6 => ?_)
  replace T := T h5 e6
  refine J_iconst 24 rfl (D_X11_refuse_0.at 15 rfl) ?_
  exact J_iret rfl (D_X11_refuse_0.at 16 rfl) T
theorem c_X11_keepFault {w : Wd} {h : Hp} {K : Int → Hp → Prop} (T : ∀ h1 : Hp, h1 = hu h 0 18 (h 1 4) → ∀ h3 : Hp, h3 = hu h1 0 19 (h1 1 5) → K 0 h3) : C_X11_keepFault w h K := by
  refine CGm_of2 (by decide) (by decide) trivial (Nat.le_of_ble_eq_true rfl) ?_
  refine J_aload_n 1 rfl 0 0 rfl ⟨by decide, by decide⟩ (D_X11_keepFault_0.at 0 rfl) ?_
  refine J_aload_n 2 rfl 0 0 rfl ⟨by decide, by decide⟩ (D_X11_keepFault_0.at 1 rfl) ?_
  refine J_getF (ov := 1) (dd := 1001) 5 rfl fl_11_12 rfl (by decide) rfl ob_0 (Ob.lt ob_0) (D_X11_keepFault_0.at 2 rfl) ?_
  refine J_getI (z := (h 1 4)) 8 rfl fl_11_366 rfl ob_1 (Ob.lt ob_1) (D_X11_keepFault_0.at 3 rfl) rfl ?_
  refine J_putI 11 rfl fl_11_148 rfl rfl ob_0 (Ob.lt ob_0) (D_X11_keepFault_0.at 4 rfl) (fun h1 e2 => ?_)
  replace T := T h1 e2
  refine J_aload_n 12 rfl 0 0 rfl ⟨by decide, by decide⟩ (D_X11_keepFault_0.at 5 rfl) ?_
  refine J_aload_n 13 rfl 0 0 rfl ⟨by decide, by decide⟩ (D_X11_keepFault_0.at 6 rfl) ?_
  refine J_getF (ov := 1) (dd := 1001) 16 rfl fl_11_12 rfl (by decide) rfl ob_0 (Ob.lt ob_0) (D_X11_keepFault_0.at 7 rfl) ?_
  refine J_getI (z := (h1 1 5)) 19 rfl fl_11_369 rfl ob_1 (Ob.lt ob_1) (D_X11_keepFault_0.at 8 rfl) rfl ?_
  refine J_putI 22 rfl fl_11_80 rfl rfl ob_0 (Ob.lt ob_0) (D_X11_keepFault_0.at 9 rfl) (fun h3 e4 => ?_)
  replace T := T h3 e4
  exact J_vret rfl (D_X11_keepFault_0.at 10 rfl) T
theorem c_X11_fault {w : Wd} {a1 : Int} {h : Hp} {K : Int → Hp → Prop} (T : (inR a1) ∧ ((a1 = 0 → K (h 0 18) h) ∧ (a1 = 1 → K (h 0 19) h) ∧ (a1 ≠ 0 ∧ a1 ≠ 1 → K (-1) h))) : C_X11_fault w a1 h K := by
  refine CGm_of2 (by decide) (by decide) trivial (Nat.le_of_ble_eq_true rfl) ?_
  refine J_iload_n 1 rfl 1 1 rfl (D_X11_fault_0.at 0 rfl) ?_
  obtain ⟨s1, T⟩ := T
  by_cases g3 : a1 = 0
  · replace T := T.1 g3
    refine J_look 27 28 s1 (D_X11_fault_0.at 1 rfl) (by decide) (by rw [g3]; rfl) (by decide) ?_
    refine J_aload_n 29 rfl 0 0 rfl ⟨by decide, by decide⟩ (D_X11_fault_0.at 2 rfl) ?_
    refine J_getI (z := (h 0 18)) 32 rfl fl_11_148 rfl ob_0 (Ob.lt ob_0) (D_X11_fault_0.at 3 rfl) rfl ?_
    exact J_iret rfl (D_X11_fault_0.at 4 rfl) T
  by_cases g4 : a1 = 1
  · replace T := T.2.1 g4
    refine J_look 32 33 s1 (D_X11_fault_0.at 1 rfl) (by decide) (by rw [g4]; rfl) (by decide) ?_
    refine J_aload_n 34 rfl 0 0 rfl ⟨by decide, by decide⟩ (D_X11_fault_0.at 5 rfl) ?_
    refine J_getI (z := (h 0 19)) 37 rfl fl_11_80 rfl ob_0 (Ob.lt ob_0) (D_X11_fault_0.at 6 rfl) rfl ?_
    exact J_iret rfl (D_X11_fault_0.at 7 rfl) T
  replace T := T.2.2 ⟨g3, g4⟩
  refine J_look 37 38 s1 (D_X11_fault_0.at 1 rfl) (by decide) (by show Op.lookupswitch.offset [(0, 27), (1, 32)] 37 _ = 37; rw [look_ne g3, look_ne g4]; rfl) (by decide) ?_
  refine J_iconst 39 rfl (D_X11_fault_0.at 8 rfl) ?_
  exact J_iret rfl (D_X11_fault_0.at 9 rfl) T
theorem c_X11_draw {w : Wd} {a1 : Int} {h : Hp} {K : Int → Hp → Prop} (T : ∀ h1 : Hp, h1 = hu h 0 17 (((1103515245 * (h 0 17)) + 12345) % 2147483648) → (inR a1) ∧ (((a1 ≥ 1) → ((0 ≤ (h1 0 17) ∧ (h1 0 17) < 2147483648) ∧ ((0 ≤ ((h1 0 17) / 64) ∧ ((h1 0 17) / 64) < 2147483648) ∧ ((0 < a1 ∧ a1 < 2147483648) ∧ (K (((h1 0 17) / 64) % a1) h1))))) ∧ (¬ (a1 ≥ 1) → (K 0 h1)))) : C_X11_draw w a1 h K := by
  refine CGm_of2 (by decide) (by decide) trivial (Nat.le_of_ble_eq_true rfl) ?_
  refine J_aload_n 1 rfl 0 0 rfl ⟨by decide, by decide⟩ (D_X11_draw_0.at 0 rfl) ?_
  refine J_ldcw 4 rfl ko_11_371 (D_X11_draw_0.at 1 rfl) ?_
  refine J_aload_n 5 rfl 0 0 rfl ⟨by decide, by decide⟩ (D_X11_draw_0.at 2 rfl) ?_
  refine J_getI (z := (h 0 17)) 8 rfl fl_11_76 rfl ob_0 (Ob.lt ob_0) (D_X11_draw_0.at 3 rfl) rfl ?_
  refine J_imul 9 rfl (D_X11_draw_0.at 4 rfl) ?_
  refine J_sipush 12 rfl ⟨by decide, by decide⟩ (D_X11_draw_0.at 5 rfl) ?_
  refine J_iadd 13 rfl (D_X11_draw_0.at 6 rfl) ?_
  refine J_ldcw 16 rfl ko_11_372 (D_X11_draw_0.at 7 rfl) ?_
  refine J_maskE (mm := 2147483648) 17 rfl 31 (by decide) rfl rfl (D_X11_draw_0.at 8 rfl) ?_
  refine J_putI 20 rfl fl_11_76 rfl rfl ob_0 (Ob.lt ob_0) (D_X11_draw_0.at 9 rfl) (fun h1 e2 => ?_)
  replace T := T h1 e2
  refine J_iload_n 21 rfl 1 1 rfl (D_X11_draw_0.at 10 rfl) ?_
  refine J_iconst 22 rfl (D_X11_draw_0.at 11 rfl) ?_
  obtain ⟨s3, T⟩ := T
  refine J_icmp_ge 25 rfl 29 s3 ⟨by decide, by decide⟩ (D_X11_draw_0.at 12 rfl) (by decide) (fun c7 => ?_) (fun c7 => ?_)
  · replace T := T.1 c7
    refine J_aload_n 30 rfl 0 0 rfl ⟨by decide, by decide⟩ (D_X11_draw_0.at 15 rfl) ?_
    refine J_getI (z := (h1 0 17)) 33 rfl fl_11_76 rfl ob_0 (Ob.lt ob_0) (D_X11_draw_0.at 16 rfl) rfl ?_
    refine J_bipush 35 rfl ⟨by decide, by decide⟩ (D_X11_draw_0.at 17 rfl) ?_
    obtain ⟨s4, T⟩ := T
    refine J_idiv 36 rfl s4 ⟨by decide, by decide⟩ (D_X11_draw_0.at 18 rfl) ?_
    refine J_iload_n 37 rfl 1 1 rfl (D_X11_draw_0.at 19 rfl) ?_
    obtain ⟨s5, T⟩ := T
    obtain ⟨s6, T⟩ := T
    refine J_irem 38 rfl s5 s6 (D_X11_draw_0.at 20 rfl) ?_
    exact J_iret rfl (D_X11_draw_0.at 21 rfl) T
  replace T := T.2 c7
  refine J_iconst 26 rfl (D_X11_draw_0.at 13 rfl) ?_
  refine J_goto 38 (D_X11_draw_0.at 14 rfl) (by decide) ?_
  exact J_iret rfl (D_X11_draw_0.at 21 rfl) T
theorem c_X11_write {w : Wd} {a1 : Int} {h : Hp} {K : Int → Hp → Prop} (T : (inR (h 0 16)) ∧ ((((h 0 16) ≥ 201) → (K 0 h)) ∧ (¬ ((h 0 16) ≥ 201) → ((0 ≤ (h 0 16) ∧ (h 0 16) < 201) ∧ (∀ h3 : Hp, h3 = hu h 58 (h 0 16) (a1 % 256) → ∀ h5 : Hp, h5 = hu h3 0 16 ((h3 0 16) + 1) → K 0 h5))))) : C_X11_write w a1 h K := by
  refine CGm_of2 (by decide) (by decide) trivial (Nat.le_of_ble_eq_true rfl) ?_
  refine J_aload_n 1 rfl 0 0 rfl ⟨by decide, by decide⟩ (D_X11_write_0.at 0 rfl) ?_
  refine J_getI (z := (h 0 16)) 4 rfl fl_11_351 rfl ob_0 (Ob.lt ob_0) (D_X11_write_0.at 1 rfl) rfl ?_
  refine J_aload_n 5 rfl 0 0 rfl ⟨by decide, by decide⟩ (D_X11_write_0.at 2 rfl) ?_
  refine J_getF (ov := 58) (dd := 1058) 8 rfl fl_11_70 rfl (by decide) rfl ob_0 (Ob.lt ob_0) (D_X11_write_0.at 3 rfl) ?_
  refine J_alenE (v := 201) 9 rfl rfl (by decide) ar_58 (Ar.lt ar_58) (D_X11_write_0.at 4 rfl) ?_
  obtain ⟨s1, T⟩ := T
  refine J_icmp_ge 12 rfl 36 s1 ⟨by decide, by decide⟩ (D_X11_write_0.at 5 rfl) (by decide) (fun c7 => ?_) (fun c7 => ?_)
  · replace T := T.1 c7
    exact J_vret rfl (D_X11_write_0.at 20 rfl) T
  replace T := T.2 c7
  refine J_aload_n 13 rfl 0 0 rfl ⟨by decide, by decide⟩ (D_X11_write_0.at 6 rfl) ?_
  refine J_getF (ov := 58) (dd := 1058) 16 rfl fl_11_70 rfl (by decide) rfl ob_0 (Ob.lt ob_0) (D_X11_write_0.at 7 rfl) ?_
  refine J_aload_n 17 rfl 0 0 rfl ⟨by decide, by decide⟩ (D_X11_write_0.at 8 rfl) ?_
  refine J_getI (z := (h 0 16)) 20 rfl fl_11_351 rfl ob_0 (Ob.lt ob_0) (D_X11_write_0.at 9 rfl) rfl ?_
  refine J_iload_n 21 rfl 1 1 rfl (D_X11_write_0.at 10 rfl) ?_
  refine J_sipush 24 rfl ⟨by decide, by decide⟩ (D_X11_write_0.at 11 rfl) ?_
  refine J_maskE (mm := 256) 25 rfl 8 (by decide) rfl rfl (D_X11_write_0.at 12 rfl) ?_
  obtain ⟨s2, T⟩ := T
  refine J_iastH 26 rfl ar_58 (Ar.lt ar_58) s2 trivial (D_X11_write_0.at 13 rfl) (fun h3 e4 => ?_)
  replace T := T h3 e4
  refine J_aload_n 27 rfl 0 0 rfl ⟨by decide, by decide⟩ (D_X11_write_0.at 14 rfl) ?_
  refine J_dup 28 rfl rfl (D_X11_write_0.at 15 rfl) ?_
  refine J_getI (z := (h3 0 16)) 31 rfl fl_11_351 rfl ob_0 (Ob.lt ob_0) (D_X11_write_0.at 16 rfl) rfl ?_
  refine J_iconst 32 rfl (D_X11_write_0.at 17 rfl) ?_
  refine J_iadd 33 rfl (D_X11_write_0.at 18 rfl) ?_
  refine J_putI 36 rfl fl_11_351 rfl rfl ob_0 (Ob.lt ob_0) (D_X11_write_0.at 19 rfl) (fun h5 e6 => ?_)
  replace T := T h5 e6
  exact J_vret rfl (D_X11_write_0.at 20 rfl) T
theorem c_X11_octet {w : Wd} {a1 : Int} {h : Hp} {K : Int → Hp → Prop} (T : (inR a1) ∧ (((a1 < 0) → (K (-1) h)) ∧ (¬ (a1 < 0) → ((inR a1) ∧ ((inR (h 0 16)) ∧ (((a1 < (h 0 16)) → ((0 ≤ a1 ∧ a1 < 201) ∧ (K (h 58 a1) h))) ∧ (¬ (a1 < (h 0 16)) → (K (-1) h)))))))) : C_X11_octet w a1 h K := by
  refine CGm_of2 (by decide) (by decide) trivial (Nat.le_of_ble_eq_true rfl) ?_
  refine J_iload_n 1 rfl 1 1 rfl (D_X11_octet_0.at 0 rfl) ?_
  obtain ⟨s1, T⟩ := T
  refine J_if_lt 4 rfl 12 s1 (D_X11_octet_0.at 1 rfl) (by decide) (fun c6 => ?_) (fun c6 => ?_)
  · replace T := T.1 c6
    refine J_iconst 13 rfl (D_X11_octet_0.at 6 rfl) ?_
    exact J_iret rfl (D_X11_octet_0.at 7 rfl) T
  replace T := T.2 c6
  refine J_iload_n 5 rfl 1 1 rfl (D_X11_octet_0.at 2 rfl) ?_
  refine J_aload_n 6 rfl 0 0 rfl ⟨by decide, by decide⟩ (D_X11_octet_0.at 3 rfl) ?_
  refine J_getI (z := (h 0 16)) 9 rfl fl_11_351 rfl ob_0 (Ob.lt ob_0) (D_X11_octet_0.at 4 rfl) rfl ?_
  obtain ⟨s2, T⟩ := T
  obtain ⟨s3, T⟩ := T
  refine J_icmp_lt 12 rfl 14 s2 s3 (D_X11_octet_0.at 5 rfl) (by decide) (fun c5 => ?_) (fun c5 => ?_)
  · replace T := T.1 c5
    refine J_aload_n 15 rfl 0 0 rfl ⟨by decide, by decide⟩ (D_X11_octet_0.at 8 rfl) ?_
    refine J_getF (ov := 58) (dd := 1058) 18 rfl fl_11_70 rfl (by decide) rfl ob_0 (Ob.lt ob_0) (D_X11_octet_0.at 9 rfl) ?_
    refine J_iload_n 19 rfl 1 1 rfl (D_X11_octet_0.at 10 rfl) ?_
    obtain ⟨s4, T⟩ := T
    refine J_iald 20 rfl ar_58 (Ar.lt ar_58) s4 (D_X11_octet_0.at 11 rfl) ?_
    exact J_iret rfl (D_X11_octet_0.at 12 rfl) T
  replace T := T.2 c5
  refine J_iconst 13 rfl (D_X11_octet_0.at 6 rfl) ?_
  exact J_iret rfl (D_X11_octet_0.at 7 rfl) T
theorem c_X11_status {w : Wd} {a1 : Int} {h : Hp} {K : Int → Hp → Prop} (T : (inR a1) ∧ (((a1 < 0) → (K (-1) h)) ∧ (¬ (a1 < 0) → ((inR a1) ∧ (((a1 < 6) → ((0 ≤ a1 ∧ a1 < 6) ∧ (K (h 59 a1) h))) ∧ (¬ (a1 < 6) → (K (-1) h))))))) : C_X11_status w a1 h K := by
  refine CGm_of2 (by decide) (by decide) trivial (Nat.le_of_ble_eq_true rfl) ?_
  refine J_iload_n 1 rfl 1 1 rfl (D_X11_status_0.at 0 rfl) ?_
  obtain ⟨s1, T⟩ := T
  refine J_if_lt 4 rfl 13 s1 (D_X11_status_0.at 1 rfl) (by decide) (fun c5 => ?_) (fun c5 => ?_)
  · replace T := T.1 c5
    refine J_iconst 14 rfl (D_X11_status_0.at 7 rfl) ?_
    exact J_iret rfl (D_X11_status_0.at 8 rfl) T
  replace T := T.2 c5
  refine J_iload_n 5 rfl 1 1 rfl (D_X11_status_0.at 2 rfl) ?_
  refine J_aload_n 6 rfl 0 0 rfl ⟨by decide, by decide⟩ (D_X11_status_0.at 3 rfl) ?_
  refine J_getF (ov := 59) (dd := 1059) 9 rfl fl_11_73 rfl (by decide) rfl ob_0 (Ob.lt ob_0) (D_X11_status_0.at 4 rfl) ?_
  refine J_alenE (v := 6) 10 rfl rfl (by decide) ar_59 (Ar.lt ar_59) (D_X11_status_0.at 5 rfl) ?_
  obtain ⟨s2, T⟩ := T
  refine J_icmp_lt 13 rfl 15 s2 ⟨by decide, by decide⟩ (D_X11_status_0.at 6 rfl) (by decide) (fun c4 => ?_) (fun c4 => ?_)
  · replace T := T.1 c4
    refine J_aload_n 16 rfl 0 0 rfl ⟨by decide, by decide⟩ (D_X11_status_0.at 9 rfl) ?_
    refine J_getF (ov := 59) (dd := 1059) 19 rfl fl_11_73 rfl (by decide) rfl ob_0 (Ob.lt ob_0) (D_X11_status_0.at 10 rfl) ?_
    refine J_iload_n 20 rfl 1 1 rfl (D_X11_status_0.at 11 rfl) ?_
    obtain ⟨s3, T⟩ := T
    refine J_iald 21 rfl ar_59 (Ar.lt ar_59) s3 (D_X11_status_0.at 12 rfl) ?_
    exact J_iret rfl (D_X11_status_0.at 13 rfl) T
  replace T := T.2 c4
  refine J_iconst 14 rfl (D_X11_status_0.at 7 rfl) ?_
  exact J_iret rfl (D_X11_status_0.at 8 rfl) T
theorem c_X11_feed {w : Wd} {a1 a2 a3 a4 a5 : Int} {h : Hp} {K : Int → Hp → Prop} (T : (inR ((h 1 1) + 20)) ∧ (((((h 1 1) + 20) ≤ 1600) → (C_X10_append w a1 h (fun _ h3 => C_X10_append w a2 h3 (fun _ h6 => C_X10_append w a3 h6 (fun _ h9 => C_X10_append w a4 h9 (fun _ h12 => C_X10_append w a5 h12 (fun _ h15 => K (h15 1 1) h15))))))) ∧ (¬ (((h 1 1) + 20) ≤ 1600) → (C_X11_refuse w 0 h (fun r17 h18 => K r17 h18))))) : C_X11_feed w a1 a2 a3 a4 a5 h K := by
  refine CGm_of2 (by decide) (by decide) trivial (Nat.le_of_ble_eq_true rfl) ?_
  refine J_aload_n 1 rfl 0 0 rfl ⟨by decide, by decide⟩ (D_X11_feed_0.at 0 rfl) ?_
  refine J_getF (ov := 1) (dd := 1001) 4 rfl fl_11_12 rfl (by decide) rfl ob_0 (Ob.lt ob_0) (D_X11_feed_0.at 1 rfl) ?_
  refine J_getI (z := (h 1 1)) 7 rfl fl_11_110 rfl ob_1 (Ob.lt ob_1) (D_X11_feed_0.at 2 rfl) rfl ?_
  refine J_bipush 9 rfl ⟨by decide, by decide⟩ (D_X11_feed_0.at 3 rfl) ?_
  refine J_iadd 10 rfl (D_X11_feed_0.at 4 rfl) ?_
  refine J_sipush 13 rfl ⟨by decide, by decide⟩ (D_X11_feed_0.at 5 rfl) ?_
  obtain ⟨s1, T⟩ := T
  refine J_icmp_le 16 rfl 22 s1 ⟨by decide, by decide⟩ (D_X11_feed_0.at 6 rfl) (by decide) (fun c20 => ?_) (fun c20 => ?_)
  · replace T := T.1 c20
    refine J_aload_n 23 rfl 0 0 rfl ⟨by decide, by decide⟩ (D_X11_feed_0.at 11 rfl) ?_
    refine J_getF (ov := 1) (dd := 1001) 26 rfl fl_11_12 rfl (by decide) rfl ob_0 (Ob.lt ob_0) (D_X11_feed_0.at 12 rfl) ?_
    refine J_iload_n 27 rfl 1 1 rfl (D_X11_feed_0.at 13 rfl) ?_
    refine J_callV (d' := 1) (sr := fun z => []) (as := [vI a1]) (st := []) (o := 1) 30 rfl ok_X10_append im_X10_append se_X10_append ml_11_117 isC_10 ob_1 (Ob.lt ob_1) rfl (by decide) ⟨Nat.le_refl _, Nat.le_refl _⟩ (Nat.le_of_ble_eq_true rfl) (D_X11_feed_0.at 14 rfl) (fun _ => rfl) T (fun r2 h3 T b4 => ?_)
    refine J_aload_n 31 rfl 0 0 rfl ⟨by decide, by decide⟩ (D_X11_feed_0.at 15 rfl) ?_
    refine J_getF (ov := 1) (dd := 1001) 34 rfl fl_11_12 rfl (by decide) rfl ob_0 (Ob.lt ob_0) (D_X11_feed_0.at 16 rfl) ?_
    refine J_iload_n 35 rfl 2 2 rfl (D_X11_feed_0.at 17 rfl) ?_
    refine J_callV (d' := 1) (sr := fun z => []) (as := [vI a2]) (st := []) (o := 1) 38 rfl ok_X10_append im_X10_append se_X10_append ml_11_117 isC_10 ob_1 (Ob.lt ob_1) rfl (by decide) ⟨Nat.le_refl _, Nat.le_refl _⟩ (Nat.le_of_ble_eq_true rfl) (D_X11_feed_0.at 18 rfl) (fun _ => rfl) T (fun r5 h6 T b7 => ?_)
    refine J_aload_n 39 rfl 0 0 rfl ⟨by decide, by decide⟩ (D_X11_feed_0.at 19 rfl) ?_
    refine J_getF (ov := 1) (dd := 1001) 42 rfl fl_11_12 rfl (by decide) rfl ob_0 (Ob.lt ob_0) (D_X11_feed_0.at 20 rfl) ?_
    refine J_iload_n 43 rfl 3 3 rfl (D_X11_feed_0.at 21 rfl) ?_
    refine J_callV (d' := 1) (sr := fun z => []) (as := [vI a3]) (st := []) (o := 1) 46 rfl ok_X10_append im_X10_append se_X10_append ml_11_117 isC_10 ob_1 (Ob.lt ob_1) rfl (by decide) ⟨Nat.le_refl _, Nat.le_refl _⟩ (Nat.le_of_ble_eq_true rfl) (D_X11_feed_0.at 22 rfl) (fun _ => rfl) T (fun r8 h9 T b10 => ?_)
    refine J_aload_n 47 rfl 0 0 rfl ⟨by decide, by decide⟩ (D_X11_feed_0.at 23 rfl) ?_
    refine J_getF (ov := 1) (dd := 1001) 50 rfl fl_11_12 rfl (by decide) rfl ob_0 (Ob.lt ob_0) (D_X11_feed_0.at 24 rfl) ?_
    refine J_iload 52 rfl 4 4 rfl (D_X11_feed_0.at 25 rfl) ?_
    refine J_callV (d' := 1) (sr := fun z => []) (as := [vI a4]) (st := []) (o := 1) 55 rfl ok_X10_append im_X10_append se_X10_append ml_11_117 isC_10 ob_1 (Ob.lt ob_1) rfl (by decide) ⟨Nat.le_refl _, Nat.le_refl _⟩ (Nat.le_of_ble_eq_true rfl) (D_X11_feed_0.at 26 rfl) (fun _ => rfl) T (fun r11 h12 T b13 => ?_)
    refine J_aload_n 56 rfl 0 0 rfl ⟨by decide, by decide⟩ (D_X11_feed_0.at 27 rfl) ?_
    refine J_getF (ov := 1) (dd := 1001) 59 rfl fl_11_12 rfl (by decide) rfl ob_0 (Ob.lt ob_0) (D_X11_feed_0.at 28 rfl) ?_
    refine J_iload 61 rfl 5 5 rfl (D_X11_feed_0.at 29 rfl) ?_
    refine J_callV (d' := 1) (sr := fun z => []) (as := [vI a5]) (st := []) (o := 1) 64 rfl ok_X10_append im_X10_append se_X10_append ml_11_117 isC_10 ob_1 (Ob.lt ob_1) rfl (by decide) ⟨Nat.le_refl _, Nat.le_refl _⟩ (Nat.le_of_ble_eq_true rfl) (D_X11_feed_0.at 30 rfl) (fun _ => rfl) T (fun r14 h15 T b16 => ?_)
    refine J_aload_n 65 rfl 0 0 rfl ⟨by decide, by decide⟩ (D_X11_feed_0.at 31 rfl) ?_
    refine J_getF (ov := 1) (dd := 1001) 68 rfl fl_11_12 rfl (by decide) rfl ob_0 (Ob.lt ob_0) (D_X11_feed_0.at 32 rfl) ?_
    refine J_getI (z := (h15 1 1)) 71 rfl fl_11_110 rfl ob_1 (Ob.lt ob_1) (D_X11_feed_0.at 33 rfl) rfl ?_
    exact J_iret rfl (D_X11_feed_0.at 34 rfl) T
  replace T := T.2 c20
  refine J_aload_n 17 rfl 0 0 rfl ⟨by decide, by decide⟩ (D_X11_feed_0.at 7 rfl) ?_
  refine J_iconst 18 rfl (D_X11_feed_0.at 8 rfl) ?_
  refine J_callV (d' := 1) (sr := fun z => [vI z]) (as := [vI 0]) (st := []) (o := 0) 21 rfl ok_X11_refuse im_X11_refuse se_X11_refuse ml_11_113 isC_11 ob_0 (Ob.lt ob_0) rfl (by decide) ⟨Nat.le_refl _, Nat.le_refl _⟩ (Nat.le_of_ble_eq_true rfl) (D_X11_feed_0.at 9 rfl) (fun _ => rfl) T (fun r17 h18 T b19 => ?_)
  exact J_iret rfl (D_X11_feed_0.at 10 rfl) T
theorem c_X11_refuseAct {w : Wd} {a1 : Int} {h : Hp} {K : Int → Hp → Prop} (T : C_X11_refuse w a1 h (fun r1 h2 => K 0 h2)) : C_X11_refuseAct w a1 h K := by
  refine CGm_of2 (by decide) (by decide) trivial (Nat.le_of_ble_eq_true rfl) ?_
  refine J_aload_n 1 rfl 0 0 rfl ⟨by decide, by decide⟩ (D_X11_refuseAct_0.at 0 rfl) ?_
  refine J_iload_n 2 rfl 1 1 rfl (D_X11_refuseAct_0.at 1 rfl) ?_
  refine J_callV (d' := 1) (sr := fun z => [vI z]) (as := [vI a1]) (st := []) (o := 0) 5 rfl ok_X11_refuse im_X11_refuse se_X11_refuse ml_11_113 isC_11 ob_0 (Ob.lt ob_0) rfl (by decide) ⟨Nat.le_refl _, Nat.le_refl _⟩ (Nat.le_of_ble_eq_true rfl) (D_X11_refuseAct_0.at 2 rfl) (fun _ => rfl) T (fun r1 h2 T b3 => ?_)
  refine J_pop 6 rfl rfl (D_X11_refuseAct_0.at 3 rfl) ?_
  refine J_iconst 7 rfl (D_X11_refuseAct_0.at 4 rfl) ?_
  exact J_zret rfl (Or.inl rfl) (D_X11_refuseAct_0.at 5 rfl) T
theorem c_X11_has {w : Wd} {a1 : Int} {h : Hp} {K : Int → Hp → Prop} (T : (inR a1) ∧ ((a1 = 0 → (Ob 7 (h 0 4)) ∧ (K (h (h 0 4) 12) h)) ∧ (a1 = 1 → (Ob 7 (h 0 4)) ∧ (K (h ((h 0 4) + 1) 1) h)) ∧ (a1 = 2 → (Ob 7 (h 0 4)) ∧ (K (h ((h 0 4) + 3) 1) h)) ∧ (a1 = 3 → (Ob 7 (h 0 4)) ∧ (K (h ((h 0 4) + 5) 1) h)) ∧ (a1 = 4 → (Ob 7 (h 0 4)) ∧ (K (h (h 0 4) 13) h)) ∧ (a1 = 5 → (Ob 7 (h 0 4)) ∧ (K (h (h 0 4) 14) h)) ∧ (a1 = 6 → (Ob 7 (h 0 4)) ∧ (K (h (h 0 4) 15) h)) ∧ (a1 = 7 → K (h 40 4) h) ∧ (a1 = 8 → C_X11_total w 41 h (fun r10 h11 => K r10 h11)) ∧ (a1 = 9 → C_X11_total w 43 h (fun r13 h14 => K r13 h14)) ∧ (a1 = 10 → C_X11_total w 42 h (fun r16 h17 => K r16 h17)) ∧ (a1 = 11 → C_X11_total w 44 h (fun r19 h20 => K r19 h20)) ∧ (a1 = 12 → K (h 50 2) h) ∧ ((a1 < 0 ∨ 12 < a1) → K (-1) h))) : C_X11_has w a1 h K := by
  refine CGm_of2 (by decide) (by decide) trivial (Nat.le_of_ble_eq_true rfl) ?_
  refine J_iload_n 1 rfl 1 1 rfl (D_X11_has_0.at 0 rfl) ?_
  obtain ⟨s1, T⟩ := T
  have tg : a1 = 0 ∨ a1 = 1 ∨ a1 = 2 ∨ a1 = 3 ∨ a1 = 4 ∨ a1 = 5 ∨ a1 = 6 ∨ a1 = 7 ∨ a1 = 8 ∨ a1 = 9 ∨ a1 = 10 ∨ a1 = 11 ∨ a1 = 12 ∨ (a1 < 0 ∨ 12 < a1) := by omega
  rcases tg with g2 | g2 | g2 | g2 | g2 | g2 | g2 | g2 | g2 | g2 | g2 | g2 | g2 | g2
  · replace T := T.1 g2
    refine J_tab 67 68 s1 (D_X11_has_0.at 1 rfl) ⟨by omega, by omega⟩ (by rw [g2]; rfl) (by decide) ?_
    refine J_aload_n 69 rfl 0 0 rfl ⟨by decide, by decide⟩ (D_X11_has_0.at 2 rfl) ?_
    obtain ⟨s3, T⟩ := T
    refine J_getR (z := (h 0 4)) 72 rfl fl_11_35 rfl ob_0 (Ob.lt ob_0) (D_X11_has_0.at 3 rfl) rfl ?_
    refine J_getI (z := (h (h 0 4) 12)) 75 rfl fl_11_151 rfl s3 (Ob.lt s3) (D_X11_has_0.at 4 rfl) rfl ?_
    exact J_iret rfl (D_X11_has_0.at 5 rfl) T
  · replace T := T.2.1 g2
    refine J_tab 75 76 s1 (D_X11_has_0.at 1 rfl) ⟨by omega, by omega⟩ (by rw [g2]; rfl) (by decide) ?_
    refine J_aload_n 77 rfl 0 0 rfl ⟨by decide, by decide⟩ (D_X11_has_0.at 6 rfl) ?_
    obtain ⟨s4, T⟩ := T
    refine J_getR (z := (h 0 4)) 80 rfl fl_11_35 rfl ob_0 (Ob.lt ob_0) (D_X11_has_0.at 7 rfl) rfl ?_
    refine J_getF (ov := ((h 0 4) + 1)) (dd := 1001) 83 rfl fl_11_154 rfl (by decide) rfl s4 (Ob.lt s4) (D_X11_has_0.at 8 rfl) ?_
    refine J_getI (z := (h ((h 0 4) + 1) 1)) 86 rfl fl_11_158 rfl (of_7_0 s4) (Ob.lt (of_7_0 s4)) (D_X11_has_0.at 9 rfl) rfl ?_
    exact J_iret rfl (D_X11_has_0.at 10 rfl) T
  · replace T := T.2.2.1 g2
    refine J_tab 86 87 s1 (D_X11_has_0.at 1 rfl) ⟨by omega, by omega⟩ (by rw [g2]; rfl) (by decide) ?_
    refine J_aload_n 88 rfl 0 0 rfl ⟨by decide, by decide⟩ (D_X11_has_0.at 11 rfl) ?_
    obtain ⟨s5, T⟩ := T
    refine J_getR (z := (h 0 4)) 91 rfl fl_11_35 rfl ob_0 (Ob.lt ob_0) (D_X11_has_0.at 12 rfl) rfl ?_
    refine J_getF (ov := ((h 0 4) + 3)) (dd := 1003) 94 rfl fl_11_163 rfl (by decide) rfl s5 (Ob.lt s5) (D_X11_has_0.at 13 rfl) ?_
    refine J_getI (z := (h ((h 0 4) + 3) 1)) 97 rfl fl_11_158 rfl (of_7_1 s5) (Ob.lt (of_7_1 s5)) (D_X11_has_0.at 14 rfl) rfl ?_
    exact J_iret rfl (D_X11_has_0.at 15 rfl) T
  · replace T := T.2.2.2.1 g2
    refine J_tab 97 98 s1 (D_X11_has_0.at 1 rfl) ⟨by omega, by omega⟩ (by rw [g2]; rfl) (by decide) ?_
    refine J_aload_n 99 rfl 0 0 rfl ⟨by decide, by decide⟩ (D_X11_has_0.at 16 rfl) ?_
    obtain ⟨s6, T⟩ := T
    refine J_getR (z := (h 0 4)) 102 rfl fl_11_35 rfl ob_0 (Ob.lt ob_0) (D_X11_has_0.at 17 rfl) rfl ?_
    refine J_getF (ov := ((h 0 4) + 5)) (dd := 1005) 105 rfl fl_11_166 rfl (by decide) rfl s6 (Ob.lt s6) (D_X11_has_0.at 18 rfl) ?_
    refine J_getI (z := (h ((h 0 4) + 5) 1)) 108 rfl fl_11_158 rfl (of_7_2 s6) (Ob.lt (of_7_2 s6)) (D_X11_has_0.at 19 rfl) rfl ?_
    exact J_iret rfl (D_X11_has_0.at 20 rfl) T
  · replace T := T.2.2.2.2.1 g2
    refine J_tab 108 109 s1 (D_X11_has_0.at 1 rfl) ⟨by omega, by omega⟩ (by rw [g2]; rfl) (by decide) ?_
    refine J_aload_n 110 rfl 0 0 rfl ⟨by decide, by decide⟩ (D_X11_has_0.at 21 rfl) ?_
    obtain ⟨s7, T⟩ := T
    refine J_getR (z := (h 0 4)) 113 rfl fl_11_35 rfl ob_0 (Ob.lt ob_0) (D_X11_has_0.at 22 rfl) rfl ?_
    refine J_getI (z := (h (h 0 4) 13)) 116 rfl fl_11_169 rfl s7 (Ob.lt s7) (D_X11_has_0.at 23 rfl) rfl ?_
    exact J_iret rfl (D_X11_has_0.at 24 rfl) T
  · replace T := T.2.2.2.2.2.1 g2
    refine J_tab 116 117 s1 (D_X11_has_0.at 1 rfl) ⟨by omega, by omega⟩ (by rw [g2]; rfl) (by decide) ?_
    refine J_aload_n 118 rfl 0 0 rfl ⟨by decide, by decide⟩ (D_X11_has_0.at 25 rfl) ?_
    obtain ⟨s8, T⟩ := T
    refine J_getR (z := (h 0 4)) 121 rfl fl_11_35 rfl ob_0 (Ob.lt ob_0) (D_X11_has_0.at 26 rfl) rfl ?_
    refine J_getI (z := (h (h 0 4) 14)) 124 rfl fl_11_172 rfl s8 (Ob.lt s8) (D_X11_has_0.at 27 rfl) rfl ?_
    exact J_iret rfl (D_X11_has_0.at 28 rfl) T
  · replace T := T.2.2.2.2.2.2.1 g2
    refine J_tab 124 125 s1 (D_X11_has_0.at 1 rfl) ⟨by omega, by omega⟩ (by rw [g2]; rfl) (by decide) ?_
    refine J_aload_n 126 rfl 0 0 rfl ⟨by decide, by decide⟩ (D_X11_has_0.at 29 rfl) ?_
    obtain ⟨s9, T⟩ := T
    refine J_getR (z := (h 0 4)) 129 rfl fl_11_35 rfl ob_0 (Ob.lt ob_0) (D_X11_has_0.at 30 rfl) rfl ?_
    refine J_getI (z := (h (h 0 4) 15)) 132 rfl fl_11_175 rfl s9 (Ob.lt s9) (D_X11_has_0.at 31 rfl) rfl ?_
    exact J_iret rfl (D_X11_has_0.at 32 rfl) T
  · replace T := T.2.2.2.2.2.2.2.1 g2
    refine J_tab 132 133 s1 (D_X11_has_0.at 1 rfl) ⟨by omega, by omega⟩ (by rw [g2]; rfl) (by decide) ?_
    refine J_aload_n 134 rfl 0 0 rfl ⟨by decide, by decide⟩ (D_X11_has_0.at 33 rfl) ?_
    refine J_getF (ov := 40) (dd := 1040) 137 rfl fl_11_45 rfl (by decide) rfl ob_0 (Ob.lt ob_0) (D_X11_has_0.at 34 rfl) ?_
    refine J_getI (z := (h 40 4)) 140 rfl fl_11_178 rfl ob_40 (Ob.lt ob_40) (D_X11_has_0.at 35 rfl) rfl ?_
    exact J_iret rfl (D_X11_has_0.at 36 rfl) T
  · replace T := T.2.2.2.2.2.2.2.2.1 g2
    refine J_tab 140 141 s1 (D_X11_has_0.at 1 rfl) ⟨by omega, by omega⟩ (by rw [g2]; rfl) (by decide) ?_
    refine J_aload_n 142 rfl 0 0 rfl ⟨by decide, by decide⟩ (D_X11_has_0.at 37 rfl) ?_
    refine J_getF (ov := 40) (dd := 1040) 145 rfl fl_11_45 rfl (by decide) rfl ob_0 (Ob.lt ob_0) (D_X11_has_0.at 38 rfl) ?_
    refine J_getF (ov := 41) (dd := 1001) 148 rfl fl_11_181 rfl (by decide) rfl ob_40 (Ob.lt ob_40) (D_X11_has_0.at 39 rfl) ?_
    refine J_callS (d' := 1) (sr := fun z => [vI z]) (as := [vR 41]) (st := []) 151 rfl ok_X11_total sm_X11_total ml_11_184 rfl (by decide) ⟨Nat.le_refl _, Nat.le_refl _⟩ (Nat.le_of_ble_eq_true rfl) (D_X11_has_0.at 40 rfl) (fun _ => rfl) T (fun r10 h11 T b12 => ?_)
    exact J_iret rfl (D_X11_has_0.at 41 rfl) T
  · replace T := T.2.2.2.2.2.2.2.2.2.1 g2
    refine J_tab 151 152 s1 (D_X11_has_0.at 1 rfl) ⟨by omega, by omega⟩ (by rw [g2]; rfl) (by decide) ?_
    refine J_aload_n 153 rfl 0 0 rfl ⟨by decide, by decide⟩ (D_X11_has_0.at 42 rfl) ?_
    refine J_getF (ov := 40) (dd := 1040) 156 rfl fl_11_45 rfl (by decide) rfl ob_0 (Ob.lt ob_0) (D_X11_has_0.at 43 rfl) ?_
    refine J_getF (ov := 43) (dd := 1003) 159 rfl fl_11_188 rfl (by decide) rfl ob_40 (Ob.lt ob_40) (D_X11_has_0.at 44 rfl) ?_
    refine J_callS (d' := 1) (sr := fun z => [vI z]) (as := [vR 43]) (st := []) 162 rfl ok_X11_total sm_X11_total ml_11_184 rfl (by decide) ⟨Nat.le_refl _, Nat.le_refl _⟩ (Nat.le_of_ble_eq_true rfl) (D_X11_has_0.at 45 rfl) (fun _ => rfl) T (fun r13 h14 T b15 => ?_)
    exact J_iret rfl (D_X11_has_0.at 46 rfl) T
  · replace T := T.2.2.2.2.2.2.2.2.2.2.1 g2
    refine J_tab 162 163 s1 (D_X11_has_0.at 1 rfl) ⟨by omega, by omega⟩ (by rw [g2]; rfl) (by decide) ?_
    refine J_aload_n 164 rfl 0 0 rfl ⟨by decide, by decide⟩ (D_X11_has_0.at 47 rfl) ?_
    refine J_getF (ov := 40) (dd := 1040) 167 rfl fl_11_45 rfl (by decide) rfl ob_0 (Ob.lt ob_0) (D_X11_has_1.at 0 rfl) ?_
    refine J_getF (ov := 42) (dd := 1002) 170 rfl fl_11_191 rfl (by decide) rfl ob_40 (Ob.lt ob_40) (D_X11_has_1.at 1 rfl) ?_
    refine J_callS (d' := 1) (sr := fun z => [vI z]) (as := [vR 42]) (st := []) 173 rfl ok_X11_total sm_X11_total ml_11_184 rfl (by decide) ⟨Nat.le_refl _, Nat.le_refl _⟩ (Nat.le_of_ble_eq_true rfl) (D_X11_has_1.at 2 rfl) (fun _ => rfl) T (fun r16 h17 T b18 => ?_)
    exact J_iret rfl (D_X11_has_1.at 3 rfl) T
  · replace T := T.2.2.2.2.2.2.2.2.2.2.2.1 g2
    refine J_tab 173 174 s1 (D_X11_has_0.at 1 rfl) ⟨by omega, by omega⟩ (by rw [g2]; rfl) (by decide) ?_
    refine J_aload_n 175 rfl 0 0 rfl ⟨by decide, by decide⟩ (D_X11_has_1.at 4 rfl) ?_
    refine J_getF (ov := 40) (dd := 1040) 178 rfl fl_11_45 rfl (by decide) rfl ob_0 (Ob.lt ob_0) (D_X11_has_1.at 5 rfl) ?_
    refine J_getF (ov := 44) (dd := 1004) 181 rfl fl_11_194 rfl (by decide) rfl ob_40 (Ob.lt ob_40) (D_X11_has_1.at 6 rfl) ?_
    refine J_callS (d' := 1) (sr := fun z => [vI z]) (as := [vR 44]) (st := []) 184 rfl ok_X11_total sm_X11_total ml_11_184 rfl (by decide) ⟨Nat.le_refl _, Nat.le_refl _⟩ (Nat.le_of_ble_eq_true rfl) (D_X11_has_1.at 7 rfl) (fun _ => rfl) T (fun r19 h20 T b21 => ?_)
    exact J_iret rfl (D_X11_has_1.at 8 rfl) T
  · replace T := T.2.2.2.2.2.2.2.2.2.2.2.2.1 g2
    refine J_tab 184 185 s1 (D_X11_has_0.at 1 rfl) ⟨by omega, by omega⟩ (by rw [g2]; rfl) (by decide) ?_
    refine J_aload_n 186 rfl 0 0 rfl ⟨by decide, by decide⟩ (D_X11_has_1.at 9 rfl) ?_
    refine J_getF (ov := 50) (dd := 1050) 189 rfl fl_11_55 rfl (by decide) rfl ob_0 (Ob.lt ob_0) (D_X11_has_1.at 10 rfl) ?_
    refine J_getI (z := (h 50 2)) 192 rfl fl_11_197 rfl ob_50 (Ob.lt ob_50) (D_X11_has_1.at 11 rfl) rfl ?_
    exact J_iret rfl (D_X11_has_1.at 12 rfl) T
  · replace T := T.2.2.2.2.2.2.2.2.2.2.2.2.2 g2
    refine J_tabO 193 s1 (D_X11_has_0.at 1 rfl) g2 (by decide) ?_
    refine J_iconst 194 rfl (D_X11_has_1.at 13 rfl) ?_
    exact J_iret rfl (D_X11_has_1.at 14 rfl) T
theorem c_X11_letter {w : Wd} {a1 a2 a3 : Int} {h : Hp} {K : Int → Hp → Prop} (T : (inR a1) ∧ ((a1 = 0 → (Ob 7 (h 0 4)) ∧ (C_X4_letterOf w ((h 0 4) + 1) a2 a3 h (fun r4 h5 => K r4 h5))) ∧ (a1 = 1 → (Ob 7 (h 0 4)) ∧ (C_X4_letterOf w ((h 0 4) + 3) a2 a3 h (fun r8 h9 => K r8 h9))) ∧ (a1 = 2 → (Ob 7 (h 0 4)) ∧ (C_X4_letterOf w ((h 0 4) + 5) a2 a3 h (fun r12 h13 => K r12 h13))) ∧ ((a1 < 0 ∨ 2 < a1) → K (-1) h))) : C_X11_letter w a1 a2 a3 h K := by
  refine CGm_of2 (by decide) (by decide) trivial (Nat.le_of_ble_eq_true rfl) ?_
  refine J_iload_n 1 rfl 1 1 rfl (D_X11_letter_0.at 0 rfl) ?_
  obtain ⟨s1, T⟩ := T
  have tg : a1 = 0 ∨ a1 = 1 ∨ a1 = 2 ∨ (a1 < 0 ∨ 2 < a1) := by omega
  rcases tg with g2 | g2 | g2 | g2
  · replace T := T.1 g2
    refine J_tab 27 28 s1 (D_X11_letter_0.at 1 rfl) ⟨by omega, by omega⟩ (by rw [g2]; rfl) (by decide) ?_
    refine J_aload_n 29 rfl 0 0 rfl ⟨by decide, by decide⟩ (D_X11_letter_0.at 2 rfl) ?_
    obtain ⟨s3, T⟩ := T
    refine J_getR (z := (h 0 4)) 32 rfl fl_11_35 rfl ob_0 (Ob.lt ob_0) (D_X11_letter_0.at 3 rfl) rfl ?_
    refine J_getF (ov := ((h 0 4) + 1)) (dd := 1001) 35 rfl fl_11_154 rfl (by decide) rfl s3 (Ob.lt s3) (D_X11_letter_0.at 4 rfl) ?_
    refine J_iload_n 36 rfl 2 2 rfl (D_X11_letter_0.at 5 rfl) ?_
    refine J_iload_n 37 rfl 3 3 rfl (D_X11_letter_0.at 6 rfl) ?_
    refine J_callV (d' := 1) (sr := fun z => [vI z]) (as := [vI a2, vI a3]) (st := []) (o := ((h 0 4) + 1)) 40 rfl ok_X4_letterOf im_X4_letterOf se_X4_letterOf ml_11_198 isC_4 (of_7_0 s3) (Ob.lt (of_7_0 s3)) rfl (by decide) ⟨Nat.le_refl _, Nat.le_refl _⟩ (Nat.le_of_ble_eq_true rfl) (D_X11_letter_0.at 7 rfl) (fun _ => rfl) T (fun r4 h5 T b6 => ?_)
    exact J_iret rfl (D_X11_letter_0.at 8 rfl) T
  · replace T := T.2.1 g2
    refine J_tab 40 41 s1 (D_X11_letter_0.at 1 rfl) ⟨by omega, by omega⟩ (by rw [g2]; rfl) (by decide) ?_
    refine J_aload_n 42 rfl 0 0 rfl ⟨by decide, by decide⟩ (D_X11_letter_0.at 9 rfl) ?_
    obtain ⟨s7, T⟩ := T
    refine J_getR (z := (h 0 4)) 45 rfl fl_11_35 rfl ob_0 (Ob.lt ob_0) (D_X11_letter_0.at 10 rfl) rfl ?_
    refine J_getF (ov := ((h 0 4) + 3)) (dd := 1003) 48 rfl fl_11_163 rfl (by decide) rfl s7 (Ob.lt s7) (D_X11_letter_0.at 11 rfl) ?_
    refine J_iload_n 49 rfl 2 2 rfl (D_X11_letter_0.at 12 rfl) ?_
    refine J_iload_n 50 rfl 3 3 rfl (D_X11_letter_0.at 13 rfl) ?_
    refine J_callV (d' := 1) (sr := fun z => [vI z]) (as := [vI a2, vI a3]) (st := []) (o := ((h 0 4) + 3)) 53 rfl ok_X4_letterOf im_X4_letterOf se_X4_letterOf ml_11_198 isC_4 (of_7_1 s7) (Ob.lt (of_7_1 s7)) rfl (by decide) ⟨Nat.le_refl _, Nat.le_refl _⟩ (Nat.le_of_ble_eq_true rfl) (D_X11_letter_0.at 14 rfl) (fun _ => rfl) T (fun r8 h9 T b10 => ?_)
    exact J_iret rfl (D_X11_letter_0.at 15 rfl) T
  · replace T := T.2.2.1 g2
    refine J_tab 53 54 s1 (D_X11_letter_0.at 1 rfl) ⟨by omega, by omega⟩ (by rw [g2]; rfl) (by decide) ?_
    refine J_aload_n 55 rfl 0 0 rfl ⟨by decide, by decide⟩ (D_X11_letter_0.at 16 rfl) ?_
    obtain ⟨s11, T⟩ := T
    refine J_getR (z := (h 0 4)) 58 rfl fl_11_35 rfl ob_0 (Ob.lt ob_0) (D_X11_letter_0.at 17 rfl) rfl ?_
    refine J_getF (ov := ((h 0 4) + 5)) (dd := 1005) 61 rfl fl_11_166 rfl (by decide) rfl s11 (Ob.lt s11) (D_X11_letter_0.at 18 rfl) ?_
    refine J_iload_n 62 rfl 2 2 rfl (D_X11_letter_0.at 19 rfl) ?_
    refine J_iload_n 63 rfl 3 3 rfl (D_X11_letter_0.at 20 rfl) ?_
    refine J_callV (d' := 1) (sr := fun z => [vI z]) (as := [vI a2, vI a3]) (st := []) (o := ((h 0 4) + 5)) 66 rfl ok_X4_letterOf im_X4_letterOf se_X4_letterOf ml_11_198 isC_4 (of_7_2 s11) (Ob.lt (of_7_2 s11)) rfl (by decide) ⟨Nat.le_refl _, Nat.le_refl _⟩ (Nat.le_of_ble_eq_true rfl) (D_X11_letter_0.at 21 rfl) (fun _ => rfl) T (fun r12 h13 T b14 => ?_)
    exact J_iret rfl (D_X11_letter_0.at 22 rfl) T
  · replace T := T.2.2.2 g2
    refine J_tabO 67 s1 (D_X11_letter_0.at 1 rfl) g2 (by decide) ?_
    refine J_iconst 68 rfl (D_X11_letter_0.at 23 rfl) ?_
    exact J_iret rfl (D_X11_letter_0.at 24 rfl) T
theorem c_X11_lies {w : Wd} {a1 a2 : Int} {h : Hp} {K : Int → Hp → Prop} (T : (Ob 7 (h 0 4)) ∧ (C_X7_hasReach w (h 0 4) a1 h (fun r2 h3 => (r2 = 0 ∨ r2 = 1) → ((r2 = 0) → (K (-1) h3)) ∧ (¬ (r2 = 0) → ((Ob 7 (h3 0 4)) ∧ (C_X7_hasBank w (h3 0 4) a2 h3 (fun r6 h7 => (r6 = 0 ∨ r6 = 1) → ((r6 ≠ 0) → ((0 ≤ ((a1 * 10) + a2) ∧ ((a1 * 10) + a2) < 80) ∧ (K (h7 42 ((a1 * 10) + a2)) h7))) ∧ (¬ (r6 ≠ 0) → (K (-1) h7))))))))) : C_X11_lies w a1 a2 h K := by
  refine CGm_of2 (by decide) (by decide) trivial (Nat.le_of_ble_eq_true rfl) ?_
  refine J_aload_n 1 rfl 0 0 rfl ⟨by decide, by decide⟩ (D_X11_lies_0.at 0 rfl) ?_
  obtain ⟨s1, T⟩ := T
  refine J_getR (z := (h 0 4)) 4 rfl fl_11_35 rfl ob_0 (Ob.lt ob_0) (D_X11_lies_0.at 1 rfl) rfl ?_
  refine J_iload_n 5 rfl 1 1 rfl (D_X11_lies_0.at 2 rfl) ?_
  refine J_callV (d' := 1) (sr := fun z => [vI z]) (as := [vI a1]) (st := []) (o := (h 0 4)) 8 rfl ok_X7_hasReach im_X7_hasReach se_X7_hasReach ml_11_220 isC_7 s1 (Ob.lt s1) rfl (by decide) ⟨Nat.le_refl _, Nat.le_refl _⟩ (Nat.le_of_ble_eq_true rfl) (D_X11_lies_0.at 3 rfl) (fun _ => rfl) T (fun r2 h3 T b4 => ?_)
  replace T := T b4
  refine J_if_eq 11 rfl 22 (inR_b b4) (D_X11_lies_0.at 4 rfl) (by decide) (fun c11 => ?_) (fun c11 => ?_)
  · replace T := T.1 c11
    refine J_iconst 23 rfl (D_X11_lies_0.at 10 rfl) ?_
    exact J_iret rfl (D_X11_lies_0.at 11 rfl) T
  replace T := T.2 c11
  refine J_aload_n 12 rfl 0 0 rfl ⟨by decide, by decide⟩ (D_X11_lies_0.at 5 rfl) ?_
  obtain ⟨s5, T⟩ := T
  refine J_getR (z := (h3 0 4)) 15 rfl fl_11_35 rfl ob_0 (Ob.lt ob_0) (D_X11_lies_0.at 6 rfl) rfl ?_
  refine J_iload_n 16 rfl 2 2 rfl (D_X11_lies_0.at 7 rfl) ?_
  refine J_callV (d' := 1) (sr := fun z => [vI z]) (as := [vI a2]) (st := []) (o := (h3 0 4)) 19 rfl ok_X7_hasBank im_X7_hasBank se_X7_hasBank ml_11_202 isC_7 s5 (Ob.lt s5) rfl (by decide) ⟨Nat.le_refl _, Nat.le_refl _⟩ (Nat.le_of_ble_eq_true rfl) (D_X11_lies_0.at 8 rfl) (fun _ => rfl) T (fun r6 h7 T b8 => ?_)
  replace T := T b8
  refine J_if_ne 22 rfl 24 (inR_b b8) (D_X11_lies_0.at 9 rfl) (by decide) (fun c10 => ?_) (fun c10 => ?_)
  · replace T := T.1 c10
    refine J_aload_n 25 rfl 0 0 rfl ⟨by decide, by decide⟩ (D_X11_lies_0.at 12 rfl) ?_
    refine J_getF (ov := 40) (dd := 1040) 28 rfl fl_11_45 rfl (by decide) rfl ob_0 (Ob.lt ob_0) (D_X11_lies_0.at 13 rfl) ?_
    refine J_getF (ov := 42) (dd := 1002) 31 rfl fl_11_191 rfl (by decide) rfl ob_40 (Ob.lt ob_40) (D_X11_lies_0.at 14 rfl) ?_
    refine J_iload_n 32 rfl 1 1 rfl (D_X11_lies_0.at 15 rfl) ?_
    refine J_iload_n 33 rfl 2 2 rfl (D_X11_lies_0.at 16 rfl) ?_
    refine J_callS (d' := 1) (K1 := fun z h0 => rok (some .int) z → JG w true m_X11_lies 2 NT NT 36 [(0, vR 0), (1, vI a1), (2, vI a2)] [vI z, vR 42] h0 _) (sr := fun z => [vI z, vR 42]) (as := [vI a1, vI a2]) (st := [vR 42]) 36 rfl ok_X11_cell sm_X11_cell ml_11_244 rfl (by decide) ⟨Nat.le_refl _, Nat.le_refl _⟩ (Nat.le_of_ble_eq_true rfl) (D_X11_lies_0.at 17 rfl) (fun _ => rfl) (CGm_of2 (by decide) (by decide) trivial (Nat.le_of_ble_eq_true rfl) ?_) (fun _ _ kq hb => kq hb)
    refine J_iload_n 1 rfl 0 0 rfl (D_X11_cell_0.at 0 rfl) ?_
    refine J_bipush 3 rfl ⟨by decide, by decide⟩ (D_X11_cell_0.at 1 rfl) ?_
    refine J_imul 4 rfl (D_X11_cell_0.at 2 rfl) ?_
    refine J_iload_n 5 rfl 1 1 rfl (D_X11_cell_0.at 3 rfl) ?_
    refine J_iadd 6 rfl (D_X11_cell_0.at 4 rfl) ?_
    refine J_iret rfl (D_X11_cell_0.at 5 rfl) (fun _ => ?_)
    obtain ⟨s9, T⟩ := T
    refine J_iald 37 rfl ar_42 (Ar.lt ar_42) s9 (D_X11_lies_0.at 18 rfl) ?_
    exact J_iret rfl (D_X11_lies_0.at 19 rfl) T
  replace T := T.2 c10
  refine J_iconst 23 rfl (D_X11_lies_0.at 10 rfl) ?_
  exact J_iret rfl (D_X11_lies_0.at 11 rfl) T
theorem c_X11_flow {w : Wd} {a1 a2 : Int} {h : Hp} {K : Int → Hp → Prop} (T : (Ob 7 (h 0 4)) ∧ (C_X7_hasReach w (h 0 4) a1 h (fun r2 h3 => (r2 = 0 ∨ r2 = 1) → ((r2 = 0) → (K (-1) h3)) ∧ (¬ (r2 = 0) → ((inR a2) ∧ (((a2 < 0) → (K (-1) h3)) ∧ (¬ (a2 < 0) → ((inR a2) ∧ (((a2 ≥ 10) → (K (-1) h3)) ∧ (¬ (a2 ≥ 10) → ((Ob 7 (h3 0 4)) ∧ (C_X0_aim w (h3 0 4) 40 a2 h3 (fun _ h9 => (Ob 7 (h9 61 5)) ∧ ((0 ≤ a1 ∧ a1 < 8) ∧ ((0 ≤ a1 ∧ a1 < 8) ∧ ((inR (((h9 61 7) + (h9 ((h9 61 5) + 7) a1)) - (3 * (h9 62 a1)))) ∧ (K (max 0 (((h9 61 7) + (h9 ((h9 61 5) + 7) a1)) - (3 * (h9 62 a1)))) h9))))))))))))))))) : C_X11_flow w a1 a2 h K := by
  refine CGm_of2 (by decide) (by decide) trivial (Nat.le_of_ble_eq_true rfl) ?_
  refine J_aload_n 1 rfl 0 0 rfl ⟨by decide, by decide⟩ (D_X11_flow_0.at 0 rfl) ?_
  obtain ⟨s1, T⟩ := T
  refine J_getR (z := (h 0 4)) 4 rfl fl_11_35 rfl ob_0 (Ob.lt ob_0) (D_X11_flow_0.at 1 rfl) rfl ?_
  refine J_iload_n 5 rfl 1 1 rfl (D_X11_flow_0.at 2 rfl) ?_
  refine J_callV (d' := 1) (sr := fun z => [vI z]) (as := [vI a1]) (st := []) (o := (h 0 4)) 8 rfl ok_X7_hasReach im_X7_hasReach se_X7_hasReach ml_11_220 isC_7 s1 (Ob.lt s1) rfl (by decide) ⟨Nat.le_refl _, Nat.le_refl _⟩ (Nat.le_of_ble_eq_true rfl) (D_X11_flow_0.at 3 rfl) (fun _ => rfl) T (fun r2 h3 T b4 => ?_)
  replace T := T b4
  refine J_if_eq 11 rfl 18 (inR_b b4) (D_X11_flow_0.at 4 rfl) (by decide) (fun c17 => ?_) (fun c17 => ?_)
  · replace T := T.1 c17
    refine J_iconst 19 rfl (D_X11_flow_0.at 8 rfl) ?_
    exact J_iret rfl (D_X11_flow_0.at 9 rfl) T
  replace T := T.2 c17
  refine J_iload_n 12 rfl 2 2 rfl (D_X11_flow_0.at 5 rfl) ?_
  refine J_callS (d' := 1) (K1 := fun z h0 => rok (some .boolean) z → JG w true m_X11_flow 2 NT NT 15 [(0, vR 0), (1, vI a1), (2, vI a2)] [vI z] h0 _) (sr := fun z => [vI z]) (as := [vI a2]) (st := []) 15 rfl ok_X11_isLevel sm_X11_isLevel ml_11_263 rfl (by decide) ⟨Nat.le_refl _, Nat.le_refl _⟩ (Nat.le_of_ble_eq_true rfl) (D_X11_flow_0.at 6 rfl) (fun _ => rfl) (CGm_of2 (by decide) (by decide) trivial (Nat.le_of_ble_eq_true rfl) ?_) (fun _ _ kq hb => kq hb)
  refine J_iload_n 1 rfl 0 0 rfl (D_X11_isLevel_0.at 0 rfl) ?_
  obtain ⟨s5, T⟩ := T
  refine J_if_lt 4 rfl 14 s5 (D_X11_isLevel_0.at 1 rfl) (by decide) (fun c16 => ?_) (fun c16 => ?_)
  · replace T := T.1 c16
    refine J_iconst 15 rfl (D_X11_isLevel_0.at 7 rfl) ?_
    refine J_zret rfl (Or.inl rfl) (D_X11_isLevel_0.at 8 rfl) (fun _ => ?_)
    refine J_if_ne 18 rfl 20 ⟨by decide, by decide⟩ (D_X11_flow_0.at 7 rfl) (by decide) (fun c => absurd c (by decide)) (fun _ => ?_)
    refine J_iconst 19 rfl (D_X11_flow_0.at 8 rfl) ?_
    exact J_iret rfl (D_X11_flow_0.at 9 rfl) T
  replace T := T.2 c16
  refine J_iload_n 5 rfl 0 0 rfl (D_X11_isLevel_0.at 2 rfl) ?_
  refine J_bipush 7 rfl ⟨by decide, by decide⟩ (D_X11_isLevel_0.at 3 rfl) ?_
  obtain ⟨s6, T⟩ := T
  refine J_icmp_ge 10 rfl 14 s6 ⟨by decide, by decide⟩ (D_X11_isLevel_0.at 4 rfl) (by decide) (fun c15 => ?_) (fun c15 => ?_)
  · replace T := T.1 c15
    refine J_iconst 15 rfl (D_X11_isLevel_0.at 7 rfl) ?_
    refine J_zret rfl (Or.inl rfl) (D_X11_isLevel_0.at 8 rfl) (fun _ => ?_)
    refine J_if_ne 18 rfl 20 ⟨by decide, by decide⟩ (D_X11_flow_0.at 7 rfl) (by decide) (fun c => absurd c (by decide)) (fun _ => ?_)
    refine J_iconst 19 rfl (D_X11_flow_0.at 8 rfl) ?_
    exact J_iret rfl (D_X11_flow_0.at 9 rfl) T
  replace T := T.2 c15
  refine J_iconst 11 rfl (D_X11_isLevel_0.at 5 rfl) ?_
  refine J_goto 15 (D_X11_isLevel_0.at 6 rfl) (by decide) ?_
  refine J_zret rfl (Or.inr rfl) (D_X11_isLevel_0.at 8 rfl) (fun _ => ?_)
  refine J_if_ne 18 rfl 20 ⟨by decide, by decide⟩ (D_X11_flow_0.at 7 rfl) (by decide) (fun _ => ?_) (fun c => absurd (by decide) c)
  refine J_aload_n 21 rfl 0 0 rfl ⟨by decide, by decide⟩ (D_X11_flow_0.at 10 rfl) ?_
  refine J_getF (ov := 61) (dd := 1061) 24 rfl fl_11_97 rfl (by decide) rfl ob_0 (Ob.lt ob_0) (D_X11_flow_0.at 11 rfl) ?_
  refine J_aload_n 25 rfl 0 0 rfl ⟨by decide, by decide⟩ (D_X11_flow_0.at 12 rfl) ?_
  obtain ⟨s7, T⟩ := T
  refine J_getR (z := (h3 0 4)) 28 rfl fl_11_35 rfl ob_0 (Ob.lt ob_0) (D_X11_flow_0.at 13 rfl) rfl ?_
  refine J_aload_n 29 rfl 0 0 rfl ⟨by decide, by decide⟩ (D_X11_flow_0.at 14 rfl) ?_
  refine J_getF (ov := 40) (dd := 1040) 32 rfl fl_11_45 rfl (by decide) rfl ob_0 (Ob.lt ob_0) (D_X11_flow_0.at 15 rfl) ?_
  refine J_iload_n 33 rfl 2 2 rfl (D_X11_flow_0.at 16 rfl) ?_
  refine J_callV (d' := 1) (sr := fun z => []) (as := [vR (h3 0 4), vR 40, vI a2]) (st := []) (o := 61) 36 rfl ok_X0_aim im_X0_aim se_X0_aim ml_11_266 isC_0 ob_61 (Ob.lt ob_61) rfl (by decide) ⟨Nat.le_refl _, Nat.le_refl _⟩ (Nat.le_of_ble_eq_true rfl) (D_X11_flow_0.at 17 rfl) (fun _ => rfl) T (fun r8 h9 T b10 => ?_)
  refine J_aload_n 37 rfl 0 0 rfl ⟨by decide, by decide⟩ (D_X11_flow_0.at 18 rfl) ?_
  refine J_getF (ov := 61) (dd := 1061) 40 rfl fl_11_97 rfl (by decide) rfl ob_0 (Ob.lt ob_0) (D_X11_flow_0.at 19 rfl) ?_
  refine J_iload_n 41 rfl 1 1 rfl (D_X11_flow_0.at 20 rfl) ?_
  refine J_callV (d' := 1) (K1 := fun z h0 => rok (some .int) z → JG w true m_X11_flow 2 NT NT 44 [(0, vR 0), (1, vI a1), (2, vI a2)] [vI z] h0 _) (sr := fun z => [vI z]) (as := [vI a1]) (st := []) (o := 61) 44 rfl ok_X0_flowIn im_X0_flowIn se_X0_flowIn ml_11_270 isC_0 ob_61 (Ob.lt ob_61) rfl (by decide) ⟨Nat.le_refl _, Nat.le_refl _⟩ (Nat.le_of_ble_eq_true rfl) (D_X11_flow_0.at 21 rfl) (fun _ => rfl) (CGm_of2 (by decide) (by decide) trivial (Nat.le_of_ble_eq_true rfl) ?_) (fun _ _ kq hb => kq hb)
  refine J_iconst 1 rfl (D_X0_flowIn_0.at 0 rfl) ?_
  refine J_aload_n 2 rfl 0 0 rfl ⟨by decide, by decide⟩ (D_X0_flowIn_0.at 1 rfl) ?_
  refine J_getI (z := (h9 61 7)) 5 rfl fl_0_36 rfl ob_61 (Ob.lt ob_61) (D_X0_flowIn_0.at 2 rfl) rfl ?_
  refine J_aload_n 6 rfl 0 0 rfl ⟨by decide, by decide⟩ (D_X0_flowIn_0.at 3 rfl) ?_
  obtain ⟨s11, T⟩ := T
  refine J_getR (z := (h9 61 5)) 9 rfl fl_0_28 rfl ob_61 (Ob.lt ob_61) (D_X0_flowIn_0.at 4 rfl) rfl ?_
  refine J_getF (ov := ((h9 61 5) + 7)) (dd := 1007) 12 rfl fl_0_80 rfl (by decide) rfl s11 (Ob.lt s11) (D_X0_flowIn_0.at 5 rfl) ?_
  refine J_iload_n 13 rfl 1 1 rfl (D_X0_flowIn_0.at 6 rfl) ?_
  obtain ⟨s12, T⟩ := T
  refine J_iald 14 rfl (of_7_3 s11) (Ar.lt (of_7_3 s11)) s12 (D_X0_flowIn_0.at 7 rfl) ?_
  refine J_iadd 15 rfl (D_X0_flowIn_0.at 8 rfl) ?_
  refine J_iconst 16 rfl (D_X0_flowIn_0.at 9 rfl) ?_
  refine J_aload_n 17 rfl 0 0 rfl ⟨by decide, by decide⟩ (D_X0_flowIn_0.at 10 rfl) ?_
  refine J_getF (ov := 62) (dd := 1001) 20 rfl fl_0_9 rfl (by decide) rfl ob_61 (Ob.lt ob_61) (D_X0_flowIn_0.at 11 rfl) ?_
  refine J_iload_n 21 rfl 1 1 rfl (D_X0_flowIn_0.at 12 rfl) ?_
  obtain ⟨s13, T⟩ := T
  refine J_iald 22 rfl ar_62 (Ar.lt ar_62) s13 (D_X0_flowIn_0.at 13 rfl) ?_
  refine J_imul 23 rfl (D_X0_flowIn_0.at 14 rfl) ?_
  refine J_isub 24 rfl (D_X0_flowIn_0.at 15 rfl) ?_
  obtain ⟨s14, T⟩ := T
  refine J_maxE 27 rfl ml_0_49 ⟨by decide, by decide⟩ s14 (Nat.le_of_ble_eq_true rfl) (by decide) (D_X0_flowIn_0.at 16 rfl) ?_
  refine J_iret rfl (D_X0_flowIn_0.at 17 rfl) (fun _ => ?_)
  exact J_iret rfl (D_X11_flow_0.at 22 rfl) T
theorem c_X11_isStoneQuestion {w : Wd} {a1 : Int} {h : Hp} {K : Int → Hp → Prop} (T : (inR a1) ∧ (((a1 = (-1)) → (K 1 h)) ∧ (¬ (a1 = (-1)) → ((Ob 7 (h 0 4)) ∧ (C_X7_hasReach w (h 0 4) a1 h (fun r3 h4 => (r3 = 0 ∨ r3 = 1) → ((r3 = 0) → (K 0 h4)) ∧ (¬ (r3 = 0) → (K 1 h4)))))))) : C_X11_isStoneQuestion w a1 h K := by
  refine CGm_of2 (by decide) (by decide) trivial (Nat.le_of_ble_eq_true rfl) ?_
  refine J_iload_n 1 rfl 1 1 rfl (D_X11_isStoneQuestion_0.at 0 rfl) ?_
  refine J_iconst 2 rfl (D_X11_isStoneQuestion_0.at 1 rfl) ?_
  obtain ⟨s1, T⟩ := T
  refine J_icmp_eq 5 rfl 16 s1 ⟨by decide, by decide⟩ (D_X11_isStoneQuestion_0.at 2 rfl) (by decide) (fun c7 => ?_) (fun c7 => ?_)
  · replace T := T.1 c7
    refine J_iconst 17 rfl (D_X11_isStoneQuestion_0.at 8 rfl) ?_
    refine J_goto 21 (D_X11_isStoneQuestion_0.at 9 rfl) (by decide) ?_
    exact J_zret rfl (Or.inr rfl) (D_X11_isStoneQuestion_0.at 11 rfl) T
  replace T := T.2 c7
  refine J_aload_n 6 rfl 0 0 rfl ⟨by decide, by decide⟩ (D_X11_isStoneQuestion_0.at 3 rfl) ?_
  obtain ⟨s2, T⟩ := T
  refine J_getR (z := (h 0 4)) 9 rfl fl_11_35 rfl ob_0 (Ob.lt ob_0) (D_X11_isStoneQuestion_0.at 4 rfl) rfl ?_
  refine J_iload_n 10 rfl 1 1 rfl (D_X11_isStoneQuestion_0.at 5 rfl) ?_
  refine J_callV (d' := 1) (sr := fun z => [vI z]) (as := [vI a1]) (st := []) (o := (h 0 4)) 13 rfl ok_X7_hasReach im_X7_hasReach se_X7_hasReach ml_11_220 isC_7 s2 (Ob.lt s2) rfl (by decide) ⟨Nat.le_refl _, Nat.le_refl _⟩ (Nat.le_of_ble_eq_true rfl) (D_X11_isStoneQuestion_0.at 6 rfl) (fun _ => rfl) T (fun r3 h4 T b5 => ?_)
  replace T := T b5
  refine J_if_eq 16 rfl 20 (inR_b b5) (D_X11_isStoneQuestion_0.at 7 rfl) (by decide) (fun c6 => ?_) (fun c6 => ?_)
  · replace T := T.1 c6
    refine J_iconst 21 rfl (D_X11_isStoneQuestion_0.at 10 rfl) ?_
    exact J_zret rfl (Or.inl rfl) (D_X11_isStoneQuestion_0.at 11 rfl) T
  replace T := T.2 c6
  refine J_iconst 17 rfl (D_X11_isStoneQuestion_0.at 8 rfl) ?_
  refine J_goto 21 (D_X11_isStoneQuestion_0.at 9 rfl) (by decide) ?_
  exact J_zret rfl (Or.inr rfl) (D_X11_isStoneQuestion_0.at 11 rfl) T
theorem c_X11_writeTwo {w : Wd} {a1 : Int} {h : Hp} {K : Int → Hp → Prop} (T : (inR a1) ∧ (C_X11_write w (a1 / 256) h (fun _ h3 => C_X11_write w a1 h3 (fun _ h6 => K 0 h6)))) : C_X11_writeTwo w a1 h K := by
  refine CGm_of2 (by decide) (by decide) trivial (Nat.le_of_ble_eq_true rfl) ?_
  refine J_aload_n 1 rfl 0 0 rfl ⟨by decide, by decide⟩ (D_X11_writeTwo_0.at 0 rfl) ?_
  refine J_iload_n 2 rfl 1 1 rfl (D_X11_writeTwo_0.at 1 rfl) ?_
  refine J_bipush 4 rfl ⟨by decide, by decide⟩ (D_X11_writeTwo_0.at 2 rfl) ?_
  obtain ⟨s1, T⟩ := T
  refine J_ishrE (v := (a1 / 256)) 5 rfl s1 ⟨by decide, by decide⟩ rfl (D_X11_writeTwo_0.at 3 rfl) ?_
  refine J_callV (d' := 1) (sr := fun z => []) (as := [vI (a1 / 256)]) (st := []) (o := 0) 8 rfl ok_X11_write im_X11_write se_X11_write ml_11_357 isC_11 ob_0 (Ob.lt ob_0) rfl (by decide) ⟨Nat.le_refl _, Nat.le_refl _⟩ (Nat.le_of_ble_eq_true rfl) (D_X11_writeTwo_0.at 4 rfl) (fun _ => rfl) T (fun r2 h3 T b4 => ?_)
  refine J_aload_n 9 rfl 0 0 rfl ⟨by decide, by decide⟩ (D_X11_writeTwo_0.at 5 rfl) ?_
  refine J_iload_n 10 rfl 1 1 rfl (D_X11_writeTwo_0.at 6 rfl) ?_
  refine J_callV (d' := 1) (sr := fun z => []) (as := [vI a1]) (st := []) (o := 0) 13 rfl ok_X11_write im_X11_write se_X11_write ml_11_357 isC_11 ob_0 (Ob.lt ob_0) rfl (by decide) ⟨Nat.le_refl _, Nat.le_refl _⟩ (Nat.le_of_ble_eq_true rfl) (D_X11_writeTwo_0.at 7 rfl) (fun _ => rfl) T (fun r5 h6 T b7 => ?_)
  exact J_vret rfl (D_X11_writeTwo_0.at 8 rfl) T
theorem c_X11_isChecked {w : Wd} {h : Hp} {K : Int → Hp → Prop} (T : L_X11_isChecked_6 w 173 0 h K) : C_X11_isChecked w h K := by
  refine CGm_of2 (by decide) (by decide) trivial (Nat.le_of_ble_eq_true rfl) ?_
  refine J_sipush 3 rfl ⟨by decide, by decide⟩ (D_X11_isChecked_0.at 0 rfl) ?_
  refine J_istore_n (lv' := [(1, vI 173), (0, vR 0)]) 4 rfl 1 (by decide) rfl (D_X11_isChecked_0.at 1 rfl) ?_
  refine J_iconst 5 rfl (D_X11_isChecked_0.at 2 rfl) ?_
  refine J_istore_n (lv' := [(2, vI 0), (1, vI 173), (0, vR 0)]) 6 rfl 2 (by decide) rfl (D_X11_isChecked_0.at 3 rfl) ?_
  exact J_sub (lv' := [(0, vR 0), (1, vI 173), (2, vI 0)]) [2, 1, 0] rfl T
theorem l_X11_isChecked_6 {w : Wd} {v1 v2 : Int} {h : Hp} {K : Int → Hp → Prop} (T : (inR v2) ∧ ((inR ((h 1 1) - 1)) ∧ (((v2 ≥ ((h 1 1) - 1)) → (C_X10_byteAt w ((h 1 1) - 1) h (fun r3 h4 => (inR v1) ∧ ((inR r3) ∧ (((v1 ≠ r3) → (K 0 h4)) ∧ (¬ (v1 ≠ r3) → (K 1 h4))))))) ∧ (¬ (v2 ≥ ((h 1 1) - 1)) → (C_X10_byteAt w v2 h (fun r9 h10 => (0 ≤ ((3 * v1) + r9) ∧ ((3 * v1) + r9) < 2147483648) ∧ (L_X11_isChecked_6 w (((3 * v1) + r9) % 251) (v2 + 1) h10 K))))))) : L_X11_isChecked_6 w v1 v2 h K := by
  unfold L_X11_isChecked_6
  refine J_iload_n 7 rfl 2 2 rfl (D_X11_isChecked_0.at 4 rfl) ?_
  refine J_aload_n 8 rfl 0 0 rfl ⟨by decide, by decide⟩ (D_X11_isChecked_0.at 5 rfl) ?_
  refine J_getF (ov := 1) (dd := 1001) 11 rfl fl_11_12 rfl (by decide) rfl ob_0 (Ob.lt ob_0) (D_X11_isChecked_0.at 6 rfl) ?_
  refine J_getI (z := (h 1 1)) 14 rfl fl_11_110 rfl ob_1 (Ob.lt ob_1) (D_X11_isChecked_0.at 7 rfl) rfl ?_
  refine J_iconst 15 rfl (D_X11_isChecked_0.at 8 rfl) ?_
  refine J_isub 16 rfl (D_X11_isChecked_0.at 9 rfl) ?_
  obtain ⟨s1, T⟩ := T
  obtain ⟨s2, T⟩ := T
  refine J_icmp_ge 19 rfl 38 s1 s2 (D_X11_isChecked_0.at 10 rfl) (by decide) (fun c13 => ?_) (fun c13 => ?_)
  · replace T := T.1 c13
    refine J_iload_n 39 rfl 1 1 rfl (D_X11_isChecked_0.at 20 rfl) ?_
    refine J_aload_n 40 rfl 0 0 rfl ⟨by decide, by decide⟩ (D_X11_isChecked_0.at 21 rfl) ?_
    refine J_getF (ov := 1) (dd := 1001) 43 rfl fl_11_12 rfl (by decide) rfl ob_0 (Ob.lt ob_0) (D_X11_isChecked_0.at 22 rfl) ?_
    refine J_aload_n 44 rfl 0 0 rfl ⟨by decide, by decide⟩ (D_X11_isChecked_0.at 23 rfl) ?_
    refine J_getF (ov := 1) (dd := 1001) 47 rfl fl_11_12 rfl (by decide) rfl ob_0 (Ob.lt ob_0) (D_X11_isChecked_0.at 24 rfl) ?_
    refine J_getI (z := (h 1 1)) 50 rfl fl_11_110 rfl ob_1 (Ob.lt ob_1) (D_X11_isChecked_0.at 25 rfl) rfl ?_
    refine J_iconst 51 rfl (D_X11_isChecked_0.at 26 rfl) ?_
    refine J_isub 52 rfl (D_X11_isChecked_0.at 27 rfl) ?_
    refine J_callV (d' := 1) (sr := fun z => [vI z, vI v1]) (as := [vI ((h 1 1) - 1)]) (st := [vI v1]) (o := 1) 55 rfl ok_X10_byteAt im_X10_byteAt se_X10_byteAt ml_11_414 isC_10 ob_1 (Ob.lt ob_1) rfl (by decide) ⟨Nat.le_refl _, Nat.le_refl _⟩ (Nat.le_of_ble_eq_true rfl) (D_X11_isChecked_0.at 28 rfl) (fun _ => rfl) T (fun r3 h4 T b5 => ?_)
    obtain ⟨s6, T⟩ := T
    obtain ⟨s7, T⟩ := T
    refine J_icmp_ne 58 rfl 62 s6 s7 (D_X11_isChecked_0.at 29 rfl) (by decide) (fun c8 => ?_) (fun c8 => ?_)
    · replace T := T.1 c8
      refine J_iconst 63 rfl (D_X11_isChecked_0.at 32 rfl) ?_
      exact J_zret rfl (Or.inl rfl) (D_X11_isChecked_0.at 33 rfl) T
    replace T := T.2 c8
    refine J_iconst 59 rfl (D_X11_isChecked_0.at 30 rfl) ?_
    refine J_goto 63 (D_X11_isChecked_0.at 31 rfl) (by decide) ?_
    exact J_zret rfl (Or.inr rfl) (D_X11_isChecked_0.at 33 rfl) T
  replace T := T.2 c13
  refine J_iload_n 20 rfl 1 1 rfl (D_X11_isChecked_0.at 11 rfl) ?_
  refine J_aload_n 21 rfl 0 0 rfl ⟨by decide, by decide⟩ (D_X11_isChecked_0.at 12 rfl) ?_
  refine J_getF (ov := 1) (dd := 1001) 24 rfl fl_11_12 rfl (by decide) rfl ob_0 (Ob.lt ob_0) (D_X11_isChecked_0.at 13 rfl) ?_
  refine J_iload_n 25 rfl 2 2 rfl (D_X11_isChecked_0.at 14 rfl) ?_
  refine J_callV (d' := 1) (sr := fun z => [vI z, vI v1]) (as := [vI v2]) (st := [vI v1]) (o := 1) 28 rfl ok_X10_byteAt im_X10_byteAt se_X10_byteAt ml_11_414 isC_10 ob_1 (Ob.lt ob_1) rfl (by decide) ⟨Nat.le_refl _, Nat.le_refl _⟩ (Nat.le_of_ble_eq_true rfl) (D_X11_isChecked_0.at 15 rfl) (fun _ => rfl) T (fun r9 h10 T b11 => ?_)
  refine J_callS (d' := 1) (K1 := fun z h0 => rok (some .int) z → JG w true m_X11_isChecked 2 NT NT 31 [(0, vR 0), (1, vI v1), (2, vI v2)] [vI z] h0 _) (sr := fun z => [vI z]) (as := [vI v1, vI r9]) (st := []) 31 rfl ok_X11_checkBehind sm_X11_checkBehind ml_11_360 rfl (by decide) ⟨Nat.le_refl _, Nat.le_refl _⟩ (Nat.le_of_ble_eq_true rfl) (D_X11_isChecked_0.at 16 rfl) (fun _ => rfl) (CGm_of2 (by decide) (by decide) trivial (Nat.le_of_ble_eq_true rfl) ?_) (fun _ _ kq hb => kq hb)
  refine J_iconst 1 rfl (D_X11_checkBehind_0.at 0 rfl) ?_
  refine J_iload_n 2 rfl 0 0 rfl (D_X11_checkBehind_0.at 1 rfl) ?_
  refine J_imul 3 rfl (D_X11_checkBehind_0.at 2 rfl) ?_
  refine J_iload_n 4 rfl 1 1 rfl (D_X11_checkBehind_0.at 3 rfl) ?_
  refine J_iadd 5 rfl (D_X11_checkBehind_0.at 4 rfl) ?_
  refine J_sipush 8 rfl ⟨by decide, by decide⟩ (D_X11_checkBehind_0.at 5 rfl) ?_
  obtain ⟨s12, T⟩ := T
  refine J_irem 9 rfl s12 ⟨by decide, by decide⟩ (D_X11_checkBehind_0.at 6 rfl) ?_
  refine J_iret rfl (D_X11_checkBehind_0.at 7 rfl) (fun _ => ?_)
  refine J_istore_n (lv' := [(1, vI (((3 * v1) + r9) % 251)), (0, vR 0), (2, vI v2)]) 32 rfl 1 (by decide) rfl (D_X11_isChecked_0.at 17 rfl) ?_
  refine J_iinc (v := (v2 + 1)) (lv' := [(2, vI (v2 + 1)), (1, vI (((3 * v1) + r9) % 251)), (0, vR 0)]) 35 rfl 2 2 1 rfl rfl (by decide) rfl (D_X11_isChecked_0.at 18 rfl) ?_
  refine J_goto 6 (D_X11_isChecked_0.at 19 rfl) (by decide) ?_
  exact J_sub (lv' := [(0, vR 0), (1, vI (((3 * v1) + r9) % 251)), (2, vI (v2 + 1))]) [2, 1, 0] rfl T
theorem c_X11_end {w : Wd} {a1 : Int} {h : Hp} {K : Int → Hp → Prop} (T : (inR a1) ∧ (((a1 < 0) → (C_X11_refuseAct w 0 h (fun r2 h3 => (r2 = 0 ∨ r2 = 1) → K r2 h3))) ∧ (¬ (a1 < 0) → ((inR a1) ∧ ((inR (h 1 1)) ∧ (((a1 ≤ (h 1 1)) → (∀ h7 : Hp, h7 = hu h 1 1 a1 → K 1 h7)) ∧ (¬ (a1 ≤ (h 1 1)) → (C_X11_refuseAct w 0 h (fun r9 h10 => (r9 = 0 ∨ r9 = 1) → K r9 h10))))))))) : C_X11_end w a1 h K := by
  refine CGm_of2 (by decide) (by decide) trivial (Nat.le_of_ble_eq_true rfl) ?_
  refine J_iload_n 1 rfl 1 1 rfl (D_X11_end_0.at 0 rfl) ?_
  obtain ⟨s1, T⟩ := T
  refine J_if_lt 4 rfl 15 s1 (D_X11_end_0.at 1 rfl) (by decide) (fun c13 => ?_) (fun c13 => ?_)
  · replace T := T.1 c13
    refine J_aload_n 16 rfl 0 0 rfl ⟨by decide, by decide⟩ (D_X11_end_0.at 7 rfl) ?_
    refine J_iconst 17 rfl (D_X11_end_0.at 8 rfl) ?_
    refine J_callV (d' := 2) (sr := fun z => [vI z]) (as := [vI 0]) (st := []) (o := 0) 20 rfl ok_X11_refuseAct im_X11_refuseAct se_X11_refuseAct ml_11_121 isC_11 ob_0 (Ob.lt ob_0) rfl (by decide) ⟨Nat.le_refl _, Nat.le_refl _⟩ (Nat.le_of_ble_eq_true rfl) (D_X11_end_0.at 9 rfl) (fun _ => rfl) T (fun r2 h3 T b4 => ?_)
    replace T := T b4
    exact J_zret rfl b4 (D_X11_end_0.at 10 rfl) T
  replace T := T.2 c13
  refine J_iload_n 5 rfl 1 1 rfl (D_X11_end_0.at 2 rfl) ?_
  refine J_aload_n 6 rfl 0 0 rfl ⟨by decide, by decide⟩ (D_X11_end_0.at 3 rfl) ?_
  refine J_getF (ov := 1) (dd := 1001) 9 rfl fl_11_12 rfl (by decide) rfl ob_0 (Ob.lt ob_0) (D_X11_end_0.at 4 rfl) ?_
  refine J_getI (z := (h 1 1)) 12 rfl fl_11_110 rfl ob_1 (Ob.lt ob_1) (D_X11_end_0.at 5 rfl) rfl ?_
  obtain ⟨s5, T⟩ := T
  obtain ⟨s6, T⟩ := T
  refine J_icmp_le 15 rfl 21 s5 s6 (D_X11_end_0.at 6 rfl) (by decide) (fun c12 => ?_) (fun c12 => ?_)
  · replace T := T.1 c12
    refine J_aload_n 22 rfl 0 0 rfl ⟨by decide, by decide⟩ (D_X11_end_0.at 11 rfl) ?_
    refine J_getF (ov := 1) (dd := 1001) 25 rfl fl_11_12 rfl (by decide) rfl ob_0 (Ob.lt ob_0) (D_X11_end_0.at 12 rfl) ?_
    refine J_iload_n 26 rfl 1 1 rfl (D_X11_end_0.at 13 rfl) ?_
    refine J_putI 29 rfl fl_11_110 rfl rfl ob_1 (Ob.lt ob_1) (D_X11_end_0.at 14 rfl) (fun h7 e8 => ?_)
    replace T := T h7 e8
    refine J_iconst 30 rfl (D_X11_end_0.at 15 rfl) ?_
    exact J_zret rfl (Or.inr rfl) (D_X11_end_0.at 16 rfl) T
  replace T := T.2 c12
  refine J_aload_n 16 rfl 0 0 rfl ⟨by decide, by decide⟩ (D_X11_end_0.at 7 rfl) ?_
  refine J_iconst 17 rfl (D_X11_end_0.at 8 rfl) ?_
  refine J_callV (d' := 2) (sr := fun z => [vI z]) (as := [vI 0]) (st := []) (o := 0) 20 rfl ok_X11_refuseAct im_X11_refuseAct se_X11_refuseAct ml_11_121 isC_11 ob_0 (Ob.lt ob_0) rfl (by decide) ⟨Nat.le_refl _, Nat.le_refl _⟩ (Nat.le_of_ble_eq_true rfl) (D_X11_end_0.at 9 rfl) (fun _ => rfl) T (fun r9 h10 T b11 => ?_)
  replace T := T b11
  exact J_zret rfl b11 (D_X11_end_0.at 10 rfl) T
theorem c_X11_bank {w : Wd} {a1 a2 : Int} {h : Hp} {K : Int → Hp → Prop} (T : (Ob 7 (h 0 4)) ∧ (C_X7_hasBank w (h 0 4) a1 h (fun r2 h3 => (r2 = 0 ∨ r2 = 1) → ((r2 ≠ 0) → ((inR a2) ∧ ((a2 = 0 → (Ob 7 (h3 0 4)) ∧ ((0 ≤ a1 ∧ a1 < 10) ∧ (K (h3 ((h3 0 4) + 8) a1) h3))) ∧ (a2 = 1 → (Ob 7 (h3 0 4)) ∧ ((0 ≤ a1 ∧ a1 < 10) ∧ (K (h3 ((h3 0 4) + 9) a1) h3))) ∧ (a2 = 2 → (Ob 7 (h3 0 4)) ∧ ((0 ≤ a1 ∧ a1 < 10) ∧ (K (h3 ((h3 0 4) + 10) a1) h3))) ∧ (a2 = 3 → (Ob 7 (h3 0 4)) ∧ ((0 ≤ a1 ∧ a1 < 10) ∧ (K (h3 ((h3 0 4) + 12) a1) h3))) ∧ (a2 = 4 → (0 ≤ a1 ∧ a1 < 10) ∧ (K (h3 43 a1) h3)) ∧ (a2 = 5 → C_X9_lyingOf w 40 a1 h3 (fun r16 h17 => K r16 h17)) ∧ (a2 = 6 → (0 ≤ a1 ∧ a1 < 10) ∧ (K (h3 44 a1) h3)) ∧ ((a2 < 0 ∨ 6 < a2) → K (-1) h3)))) ∧ (¬ (r2 ≠ 0) → (K (-1) h3))))) : C_X11_bank w a1 a2 h K := by
  refine CGm_of2 (by decide) (by decide) trivial (Nat.le_of_ble_eq_true rfl) ?_
  refine J_aload_n 1 rfl 0 0 rfl ⟨by decide, by decide⟩ (D_X11_bank_0.at 0 rfl) ?_
  obtain ⟨s1, T⟩ := T
  refine J_getR (z := (h 0 4)) 4 rfl fl_11_35 rfl ob_0 (Ob.lt ob_0) (D_X11_bank_0.at 1 rfl) rfl ?_
  refine J_iload_n 5 rfl 1 1 rfl (D_X11_bank_0.at 2 rfl) ?_
  refine J_callV (d' := 1) (sr := fun z => [vI z]) (as := [vI a1]) (st := []) (o := (h 0 4)) 8 rfl ok_X7_hasBank im_X7_hasBank se_X7_hasBank ml_11_202 isC_7 s1 (Ob.lt s1) rfl (by decide) ⟨Nat.le_refl _, Nat.le_refl _⟩ (Nat.le_of_ble_eq_true rfl) (D_X11_bank_0.at 3 rfl) (fun _ => rfl) T (fun r2 h3 T b4 => ?_)
  replace T := T b4
  refine J_if_ne 11 rfl 13 (inR_b b4) (D_X11_bank_0.at 4 rfl) (by decide) (fun c20 => ?_) (fun c20 => ?_)
  · replace T := T.1 c20
    refine J_iload_n 14 rfl 2 2 rfl (D_X11_bank_0.at 7 rfl) ?_
    obtain ⟨s5, T⟩ := T
    have tg : a2 = 0 ∨ a2 = 1 ∨ a2 = 2 ∨ a2 = 3 ∨ a2 = 4 ∨ a2 = 5 ∨ a2 = 6 ∨ (a2 < 0 ∨ 6 < a2) := by omega
    rcases tg with g6 | g6 | g6 | g6 | g6 | g6 | g6 | g6
    · replace T := T.1 g6
      refine J_tab 42 56 s5 (D_X11_bank_0.at 8 rfl) ⟨by omega, by omega⟩ (by rw [g6]; rfl) (by decide) ?_
      refine J_aload_n 57 rfl 0 0 rfl ⟨by decide, by decide⟩ (D_X11_bank_0.at 9 rfl) ?_
      obtain ⟨s7, T⟩ := T
      refine J_getR (z := (h3 0 4)) 60 rfl fl_11_35 rfl ob_0 (Ob.lt ob_0) (D_X11_bank_0.at 10 rfl) rfl ?_
      refine J_getF (ov := ((h3 0 4) + 8)) (dd := 1008) 63 rfl fl_11_205 rfl (by decide) rfl s7 (Ob.lt s7) (D_X11_bank_0.at 11 rfl) ?_
      refine J_iload_n 64 rfl 1 1 rfl (D_X11_bank_0.at 12 rfl) ?_
      obtain ⟨s8, T⟩ := T
      refine J_iald 65 rfl (of_7_4 s7) (Ar.lt (of_7_4 s7)) s8 (D_X11_bank_0.at 13 rfl) ?_
      exact J_iret rfl (D_X11_bank_0.at 14 rfl) T
    · replace T := T.2.1 g6
      refine J_tab 52 66 s5 (D_X11_bank_0.at 8 rfl) ⟨by omega, by omega⟩ (by rw [g6]; rfl) (by decide) ?_
      refine J_aload_n 67 rfl 0 0 rfl ⟨by decide, by decide⟩ (D_X11_bank_0.at 15 rfl) ?_
      obtain ⟨s9, T⟩ := T
      refine J_getR (z := (h3 0 4)) 70 rfl fl_11_35 rfl ob_0 (Ob.lt ob_0) (D_X11_bank_0.at 16 rfl) rfl ?_
      refine J_getF (ov := ((h3 0 4) + 9)) (dd := 1009) 73 rfl fl_11_208 rfl (by decide) rfl s9 (Ob.lt s9) (D_X11_bank_0.at 17 rfl) ?_
      refine J_iload_n 74 rfl 1 1 rfl (D_X11_bank_0.at 18 rfl) ?_
      obtain ⟨s10, T⟩ := T
      refine J_iald 75 rfl (of_7_5 s9) (Ar.lt (of_7_5 s9)) s10 (D_X11_bank_0.at 19 rfl) ?_
      exact J_iret rfl (D_X11_bank_0.at 20 rfl) T
    · replace T := T.2.2.1 g6
      refine J_tab 62 76 s5 (D_X11_bank_0.at 8 rfl) ⟨by omega, by omega⟩ (by rw [g6]; rfl) (by decide) ?_
      refine J_aload_n 77 rfl 0 0 rfl ⟨by decide, by decide⟩ (D_X11_bank_0.at 21 rfl) ?_
      obtain ⟨s11, T⟩ := T
      refine J_getR (z := (h3 0 4)) 80 rfl fl_11_35 rfl ob_0 (Ob.lt ob_0) (D_X11_bank_0.at 22 rfl) rfl ?_
      refine J_getF (ov := ((h3 0 4) + 10)) (dd := 1010) 83 rfl fl_11_211 rfl (by decide) rfl s11 (Ob.lt s11) (D_X11_bank_0.at 23 rfl) ?_
      refine J_iload_n 84 rfl 1 1 rfl (D_X11_bank_0.at 24 rfl) ?_
      obtain ⟨s12, T⟩ := T
      refine J_iald 85 rfl (of_7_6 s11) (Ar.lt (of_7_6 s11)) s12 (D_X11_bank_0.at 25 rfl) ?_
      exact J_iret rfl (D_X11_bank_0.at 26 rfl) T
    · replace T := T.2.2.2.1 g6
      refine J_tab 72 86 s5 (D_X11_bank_0.at 8 rfl) ⟨by omega, by omega⟩ (by rw [g6]; rfl) (by decide) ?_
      refine J_aload_n 87 rfl 0 0 rfl ⟨by decide, by decide⟩ (D_X11_bank_0.at 27 rfl) ?_
      obtain ⟨s13, T⟩ := T
      refine J_getR (z := (h3 0 4)) 90 rfl fl_11_35 rfl ob_0 (Ob.lt ob_0) (D_X11_bank_0.at 28 rfl) rfl ?_
      refine J_getF (ov := ((h3 0 4) + 12)) (dd := 1012) 93 rfl fl_11_214 rfl (by decide) rfl s13 (Ob.lt s13) (D_X11_bank_0.at 29 rfl) ?_
      refine J_iload_n 94 rfl 1 1 rfl (D_X11_bank_0.at 30 rfl) ?_
      obtain ⟨s14, T⟩ := T
      refine J_iald 95 rfl (of_7_8 s13) (Ar.lt (of_7_8 s13)) s14 (D_X11_bank_0.at 31 rfl) ?_
      exact J_iret rfl (D_X11_bank_0.at 32 rfl) T
    · replace T := T.2.2.2.2.1 g6
      refine J_tab 82 96 s5 (D_X11_bank_0.at 8 rfl) ⟨by omega, by omega⟩ (by rw [g6]; rfl) (by decide) ?_
      refine J_aload_n 97 rfl 0 0 rfl ⟨by decide, by decide⟩ (D_X11_bank_0.at 33 rfl) ?_
      refine J_getF (ov := 40) (dd := 1040) 100 rfl fl_11_45 rfl (by decide) rfl ob_0 (Ob.lt ob_0) (D_X11_bank_0.at 34 rfl) ?_
      refine J_getF (ov := 43) (dd := 1003) 103 rfl fl_11_188 rfl (by decide) rfl ob_40 (Ob.lt ob_40) (D_X11_bank_0.at 35 rfl) ?_
      refine J_iload_n 104 rfl 1 1 rfl (D_X11_bank_0.at 36 rfl) ?_
      obtain ⟨s15, T⟩ := T
      refine J_iald 105 rfl ar_43 (Ar.lt ar_43) s15 (D_X11_bank_0.at 37 rfl) ?_
      exact J_iret rfl (D_X11_bank_0.at 38 rfl) T
    · replace T := T.2.2.2.2.2.1 g6
      refine J_tab 92 106 s5 (D_X11_bank_0.at 8 rfl) ⟨by omega, by omega⟩ (by rw [g6]; rfl) (by decide) ?_
      refine J_aload_n 107 rfl 0 0 rfl ⟨by decide, by decide⟩ (D_X11_bank_0.at 39 rfl) ?_
      refine J_getF (ov := 40) (dd := 1040) 110 rfl fl_11_45 rfl (by decide) rfl ob_0 (Ob.lt ob_0) (D_X11_bank_0.at 40 rfl) ?_
      refine J_iload_n 111 rfl 1 1 rfl (D_X11_bank_0.at 41 rfl) ?_
      refine J_callV (d' := 2) (sr := fun z => [vI z]) (as := [vI a1]) (st := []) (o := 40) 114 rfl ok_X9_lyingOf im_X9_lyingOf se_X9_lyingOf ml_11_217 isC_9 ob_40 (Ob.lt ob_40) rfl (by decide) ⟨Nat.le_refl _, Nat.le_refl _⟩ (Nat.le_of_ble_eq_true rfl) (D_X11_bank_0.at 42 rfl) (fun _ => rfl) T (fun r16 h17 T b18 => ?_)
      exact J_iret rfl (D_X11_bank_0.at 43 rfl) T
    · replace T := T.2.2.2.2.2.2.1 g6
      refine J_tab 101 115 s5 (D_X11_bank_0.at 8 rfl) ⟨by omega, by omega⟩ (by rw [g6]; rfl) (by decide) ?_
      refine J_aload_n 116 rfl 0 0 rfl ⟨by decide, by decide⟩ (D_X11_bank_0.at 44 rfl) ?_
      refine J_getF (ov := 40) (dd := 1040) 119 rfl fl_11_45 rfl (by decide) rfl ob_0 (Ob.lt ob_0) (D_X11_bank_0.at 45 rfl) ?_
      refine J_getF (ov := 44) (dd := 1004) 122 rfl fl_11_194 rfl (by decide) rfl ob_40 (Ob.lt ob_40) (D_X11_bank_0.at 46 rfl) ?_
      refine J_iload_n 123 rfl 1 1 rfl (D_X11_bank_0.at 47 rfl) ?_
      obtain ⟨s19, T⟩ := T
      refine J_iald 124 rfl ar_44 (Ar.lt ar_44) s19 (D_X11_bank_1.at 0 rfl) ?_
      exact J_iret rfl (D_X11_bank_1.at 1 rfl) T
    · replace T := T.2.2.2.2.2.2.2 g6
      refine J_tabO 125 s5 (D_X11_bank_0.at 8 rfl) g6 (by decide) ?_
      refine J_iconst 126 rfl (D_X11_bank_1.at 2 rfl) ?_
      exact J_iret rfl (D_X11_bank_1.at 3 rfl) T
  replace T := T.2 c20
  refine J_iconst 12 rfl (D_X11_bank_0.at 5 rfl) ?_
  exact J_iret rfl (D_X11_bank_0.at 6 rfl) T
theorem c_X11_isIsland {w : Wd} {a1 : Int} {h : Hp} {K : Int → Hp → Prop} (T : (Ob 7 (h 0 4)) ∧ (C_X7_hasReach w (h 0 4) a1 h (fun r2 h3 => (r2 = 0 ∨ r2 = 1) → ((r2 = 0) → (K 0 h3)) ∧ (¬ (r2 = 0) → (C_X9_lyingIn w 40 a1 h3 (fun r5 h6 => (Ob 7 (h6 0 4)) ∧ ((inR r5) ∧ ((inR (h6 (h6 0 4) 13)) ∧ (((r5 < (h6 (h6 0 4) 13)) → (K 0 h6)) ∧ (¬ (r5 < (h6 (h6 0 4) 13)) → (K 1 h6))))))))))) : C_X11_isIsland w a1 h K := by
  refine CGm_of2 (by decide) (by decide) trivial (Nat.le_of_ble_eq_true rfl) ?_
  refine J_aload_n 1 rfl 0 0 rfl ⟨by decide, by decide⟩ (D_X11_isIsland_0.at 0 rfl) ?_
  obtain ⟨s1, T⟩ := T
  refine J_getR (z := (h 0 4)) 4 rfl fl_11_35 rfl ob_0 (Ob.lt ob_0) (D_X11_isIsland_0.at 1 rfl) rfl ?_
  refine J_iload_n 5 rfl 1 1 rfl (D_X11_isIsland_0.at 2 rfl) ?_
  refine J_callV (d' := 1) (sr := fun z => [vI z]) (as := [vI a1]) (st := []) (o := (h 0 4)) 8 rfl ok_X7_hasReach im_X7_hasReach se_X7_hasReach ml_11_220 isC_7 s1 (Ob.lt s1) rfl (by decide) ⟨Nat.le_refl _, Nat.le_refl _⟩ (Nat.le_of_ble_eq_true rfl) (D_X11_isIsland_0.at 3 rfl) (fun _ => rfl) T (fun r2 h3 T b4 => ?_)
  replace T := T b4
  refine J_if_eq 11 rfl 33 (inR_b b4) (D_X11_isIsland_0.at 4 rfl) (by decide) (fun c12 => ?_) (fun c12 => ?_)
  · replace T := T.1 c12
    refine J_iconst 34 rfl (D_X11_isIsland_0.at 15 rfl) ?_
    exact J_zret rfl (Or.inl rfl) (D_X11_isIsland_0.at 16 rfl) T
  replace T := T.2 c12
  refine J_aload_n 12 rfl 0 0 rfl ⟨by decide, by decide⟩ (D_X11_isIsland_0.at 5 rfl) ?_
  refine J_getF (ov := 40) (dd := 1040) 15 rfl fl_11_45 rfl (by decide) rfl ob_0 (Ob.lt ob_0) (D_X11_isIsland_0.at 6 rfl) ?_
  refine J_iload_n 16 rfl 1 1 rfl (D_X11_isIsland_0.at 7 rfl) ?_
  refine J_callV (d' := 2) (sr := fun z => [vI z]) (as := [vI a1]) (st := []) (o := 40) 19 rfl ok_X9_lyingIn im_X9_lyingIn se_X9_lyingIn ml_11_226 isC_9 ob_40 (Ob.lt ob_40) rfl (by decide) ⟨Nat.le_refl _, Nat.le_refl _⟩ (Nat.le_of_ble_eq_true rfl) (D_X11_isIsland_0.at 8 rfl) (fun _ => rfl) T (fun r5 h6 T b7 => ?_)
  refine J_aload_n 20 rfl 0 0 rfl ⟨by decide, by decide⟩ (D_X11_isIsland_0.at 9 rfl) ?_
  obtain ⟨s8, T⟩ := T
  refine J_getR (z := (h6 0 4)) 23 rfl fl_11_35 rfl ob_0 (Ob.lt ob_0) (D_X11_isIsland_0.at 10 rfl) rfl ?_
  refine J_getI (z := (h6 (h6 0 4) 13)) 26 rfl fl_11_169 rfl s8 (Ob.lt s8) (D_X11_isIsland_0.at 11 rfl) rfl ?_
  obtain ⟨s9, T⟩ := T
  obtain ⟨s10, T⟩ := T
  refine J_icmp_lt 29 rfl 33 s9 s10 (D_X11_isIsland_0.at 12 rfl) (by decide) (fun c11 => ?_) (fun c11 => ?_)
  · replace T := T.1 c11
    refine J_iconst 34 rfl (D_X11_isIsland_0.at 15 rfl) ?_
    exact J_zret rfl (Or.inl rfl) (D_X11_isIsland_0.at 16 rfl) T
  replace T := T.2 c11
  refine J_iconst 30 rfl (D_X11_isIsland_0.at 13 rfl) ?_
  refine J_goto 34 (D_X11_isIsland_0.at 14 rfl) (by decide) ?_
  exact J_zret rfl (Or.inr rfl) (D_X11_isIsland_0.at 16 rfl) T
theorem c_X11_hasMajority {w : Wd} {a1 a2 a3 : Int} (ha1 : Ob 9 a1) {h : Hp} {K : Int → Hp → Prop} (T : (Ob 7 (h 0 4)) ∧ (C_X9_owned w a1 (h 0 4) a2 a3 h (fun r2 h3 => C_X9_lyingIn w a1 a2 h3 (fun r5 h6 => (inR (2 * r2)) ∧ ((inR r5) ∧ ((((2 * r2) ≤ r5) → (K 0 h6)) ∧ (¬ ((2 * r2) ≤ r5) → (K 1 h6)))))))) : C_X11_hasMajority w a1 a2 a3 h K := by
  refine CGm_of2 (by decide) (by decide) trivial (Nat.le_of_ble_eq_true rfl) ?_
  refine J_iconst 1 rfl (D_X11_hasMajority_0.at 0 rfl) ?_
  refine J_aload_n 2 rfl 1 1 rfl (Ob.rng ha1) (D_X11_hasMajority_0.at 1 rfl) ?_
  refine J_aload_n 3 rfl 0 0 rfl ⟨by decide, by decide⟩ (D_X11_hasMajority_0.at 2 rfl) ?_
  obtain ⟨s1, T⟩ := T
  refine J_getR (z := (h 0 4)) 6 rfl fl_11_35 rfl ob_0 (Ob.lt ob_0) (D_X11_hasMajority_0.at 3 rfl) rfl ?_
  refine J_iload_n 7 rfl 2 2 rfl (D_X11_hasMajority_0.at 4 rfl) ?_
  refine J_iload_n 8 rfl 3 3 rfl (D_X11_hasMajority_0.at 5 rfl) ?_
  refine J_callV (d' := 2) (sr := fun z => [vI z, vI 2]) (as := [vR (h 0 4), vI a2, vI a3]) (st := [vI 2]) (o := a1) 11 rfl ok_X9_owned im_X9_owned se_X9_owned ml_11_250 isC_9 ha1 (Ob.lt ha1) rfl (by decide) ⟨Nat.le_refl _, Nat.le_refl _⟩ (Nat.le_of_ble_eq_true rfl) (D_X11_hasMajority_0.at 6 rfl) (fun _ => rfl) T (fun r2 h3 T b4 => ?_)
  refine J_imul 12 rfl (D_X11_hasMajority_0.at 7 rfl) ?_
  refine J_aload_n 13 rfl 1 1 rfl (Ob.rng ha1) (D_X11_hasMajority_0.at 8 rfl) ?_
  refine J_iload_n 14 rfl 2 2 rfl (D_X11_hasMajority_0.at 9 rfl) ?_
  refine J_callV (d' := 2) (sr := fun z => [vI z, vI (2 * r2)]) (as := [vI a2]) (st := [vI (2 * r2)]) (o := a1) 17 rfl ok_X9_lyingIn im_X9_lyingIn se_X9_lyingIn ml_11_226 isC_9 ha1 (Ob.lt ha1) rfl (by decide) ⟨Nat.le_refl _, Nat.le_refl _⟩ (Nat.le_of_ble_eq_true rfl) (D_X11_hasMajority_0.at 10 rfl) (fun _ => rfl) T (fun r5 h6 T b7 => ?_)
  obtain ⟨s8, T⟩ := T
  obtain ⟨s9, T⟩ := T
  refine J_icmp_le 20 rfl 24 s8 s9 (D_X11_hasMajority_0.at 11 rfl) (by decide) (fun c10 => ?_) (fun c10 => ?_)
  · replace T := T.1 c10
    refine J_iconst 25 rfl (D_X11_hasMajority_0.at 14 rfl) ?_
    exact J_zret rfl (Or.inl rfl) (D_X11_hasMajority_0.at 15 rfl) T
  replace T := T.2 c10
  refine J_iconst 21 rfl (D_X11_hasMajority_0.at 12 rfl) ?_
  refine J_goto 25 (D_X11_hasMajority_0.at 13 rfl) (by decide) ?_
  exact J_zret rfl (Or.inr rfl) (D_X11_hasMajority_0.at 15 rfl) T
theorem c_X11_vote {w : Wd} {a1 a2 : Int} {h : Hp} {K : Int → Hp → Prop} (T : L_X11_vote_8 w a1 a2 (-1) (-1) 0 h K) : C_X11_vote w a1 a2 h K := by
  refine CGm_of2 (by decide) (by decide) trivial (Nat.le_of_ble_eq_true rfl) ?_
  refine J_iconst 1 rfl (D_X11_vote_0.at 0 rfl) ?_
  refine J_istore_n (lv' := [(3, vI (-1)), (0, vR 0), (1, vI a1), (2, vI a2)]) 2 rfl 3 (by decide) rfl (D_X11_vote_0.at 1 rfl) ?_
  refine J_iconst 3 rfl (D_X11_vote_0.at 2 rfl) ?_
  refine J_istore (lv' := [(4, vI (-1)), (3, vI (-1)), (0, vR 0), (1, vI a1), (2, vI a2)]) 5 rfl 4 (by decide) rfl (D_X11_vote_0.at 3 rfl) ?_
  refine J_iconst 6 rfl (D_X11_vote_0.at 4 rfl) ?_
  refine J_istore (lv' := [(5, vI 0), (4, vI (-1)), (3, vI (-1)), (0, vR 0), (1, vI a1), (2, vI a2)]) 8 rfl 5 (by decide) rfl (D_X11_vote_0.at 5 rfl) ?_
  exact J_sub (lv' := [(0, vR 0), (1, vI a1), (2, vI a2), (3, vI (-1)), (4, vI (-1)), (5, vI 0)]) [3, 4, 5, 2, 1, 0] rfl T
theorem l_X11_vote_8 {w : Wd} {v1 v2 v3 v4 v5 : Int} {h : Hp} {K : Int → Hp → Prop} (T : (Ob 7 (h 0 4)) ∧ ((inR v5) ∧ ((inR (h ((h 0 4) + 1) 1)) ∧ (((v5 ≥ (h ((h 0 4) + 1) 1)) → (K v3 h)) ∧ (¬ (v5 ≥ (h ((h 0 4) + 1) 1)) → (L_X11_vote_29 w v1 v2 v3 v4 v5 0 v1 h K)))))) : L_X11_vote_8 w v1 v2 v3 v4 v5 h K := by
  unfold L_X11_vote_8
  refine J_iload 10 rfl 5 5 rfl (D_X11_vote_0.at 6 rfl) ?_
  refine J_aload_n 11 rfl 0 0 rfl ⟨by decide, by decide⟩ (D_X11_vote_0.at 7 rfl) ?_
  obtain ⟨s1, T⟩ := T
  refine J_getR (z := (h 0 4)) 14 rfl fl_11_35 rfl ob_0 (Ob.lt ob_0) (D_X11_vote_0.at 8 rfl) rfl ?_
  refine J_getF (ov := ((h 0 4) + 1)) (dd := 1001) 17 rfl fl_11_154 rfl (by decide) rfl s1 (Ob.lt s1) (D_X11_vote_0.at 9 rfl) ?_
  refine J_getI (z := (h ((h 0 4) + 1) 1)) 20 rfl fl_11_158 rfl (of_7_0 s1) (Ob.lt (of_7_0 s1)) (D_X11_vote_0.at 10 rfl) rfl ?_
  obtain ⟨s2, T⟩ := T
  obtain ⟨s3, T⟩ := T
  refine J_icmp_ge 23 rfl 93 s2 s3 (D_X11_vote_0.at 11 rfl) (by decide) (fun c4 => ?_) (fun c4 => ?_)
  · replace T := T.1 c4
    refine J_iload_n 94 rfl 3 3 rfl (D_X11_vote_0.at 45 rfl) ?_
    exact J_iret rfl (D_X11_vote_0.at 46 rfl) T
  replace T := T.2 c4
  refine J_iconst 24 rfl (D_X11_vote_0.at 12 rfl) ?_
  refine J_istore (lv' := [(6, vI 0), (0, vR 0), (1, vI v1), (2, vI v2), (3, vI v3), (4, vI v4), (5, vI v5)]) 26 rfl 6 (by decide) rfl (D_X11_vote_0.at 13 rfl) ?_
  refine J_iload_n 27 rfl 1 2 rfl (D_X11_vote_0.at 14 rfl) ?_
  refine J_istore (lv' := [(7, vI v1), (6, vI 0), (0, vR 0), (1, vI v1), (2, vI v2), (3, vI v3), (4, vI v4), (5, vI v5)]) 29 rfl 7 (by decide) rfl (D_X11_vote_0.at 15 rfl) ?_
  exact J_sub (lv' := [(0, vR 0), (1, vI v1), (2, vI v2), (3, vI v3), (4, vI v4), (5, vI v5), (6, vI 0), (7, vI v1)]) [2, 3, 4, 5, 6, 7, 1, 0] rfl T
theorem l_X11_vote_29 {w : Wd} {v1 v2 v3 v4 v5 v6 v7 : Int} {h : Hp} {K : Int → Hp → Prop} (T : (inR v7) ∧ ((inR v2) ∧ (((v7 > v2) → ((inR v6) ∧ ((inR v4) ∧ (((v6 ≤ v4) → (L_X11_vote_8 w v1 v2 v3 v4 (v5 + 1) h K)) ∧ (¬ (v6 ≤ v4) → (L_X11_vote_8 w v1 v2 v5 v6 (v5 + 1) h K)))))) ∧ (¬ (v7 > v2) → ((Ob 7 (h 0 4)) ∧ ((inR v7) ∧ ((inR (h (h 0 4) 12)) ∧ (((v7 ≥ (h (h 0 4) 12)) → ((inR v6) ∧ ((inR v4) ∧ (((v6 ≤ v4) → (L_X11_vote_8 w v1 v2 v3 v4 (v5 + 1) h K)) ∧ (¬ (v6 ≤ v4) → (L_X11_vote_8 w v1 v2 v5 v6 (v5 + 1) h K)))))) ∧ (¬ (v7 ≥ (h (h 0 4) 12)) → ((Ob 7 (h 0 4)) ∧ (C_X9_owned w 40 (h 0 4) v7 v5 h (fun r17 h18 => L_X11_vote_29 w v1 v2 v3 v4 v5 (v6 + r17) (v7 + 1) h18 K)))))))))))) : L_X11_vote_29 w v1 v2 v3 v4 v5 v6 v7 h K := by
  unfold L_X11_vote_29
  refine J_iload 31 rfl 7 7 rfl (D_X11_vote_0.at 16 rfl) ?_
  refine J_iload_n 32 rfl 2 2 rfl (D_X11_vote_0.at 17 rfl) ?_
  obtain ⟨s5, T⟩ := T
  obtain ⟨s6, T⟩ := T
  refine J_icmp_gt 35 rfl 73 s5 s6 (D_X11_vote_0.at 18 rfl) (by decide) (fun c21 => ?_) (fun c21 => ?_)
  · replace T := T.1 c21
    refine J_iload 75 rfl 6 6 rfl (D_X11_vote_0.at 36 rfl) ?_
    refine J_iload 77 rfl 4 4 rfl (D_X11_vote_0.at 37 rfl) ?_
    obtain ⟨s7, T⟩ := T
    obtain ⟨s8, T⟩ := T
    refine J_icmp_le 80 rfl 87 s7 s8 (D_X11_vote_0.at 38 rfl) (by decide) (fun c9 => ?_) (fun c9 => ?_)
    · replace T := T.1 c9
      refine J_iinc (v := (v5 + 1)) (lv' := [(5, vI (v5 + 1)), (0, vR 0), (1, vI v1), (2, vI v2), (3, vI v3), (4, vI v4), (6, vI v6), (7, vI v7)]) 90 rfl 5 5 1 rfl rfl (by decide) rfl (D_X11_vote_0.at 43 rfl) ?_
      refine J_goto 8 (D_X11_vote_0.at 44 rfl) (by decide) ?_
      exact J_sub (lv' := [(0, vR 0), (1, vI v1), (2, vI v2), (3, vI v3), (4, vI v4), (5, vI (v5 + 1))]) [1, 2, 3, 4, 5, 0] rfl T
    replace T := T.2 c9
    refine J_iload 82 rfl 6 6 rfl (D_X11_vote_0.at 39 rfl) ?_
    refine J_istore (lv' := [(4, vI v6), (0, vR 0), (1, vI v1), (2, vI v2), (3, vI v3), (5, vI v5), (6, vI v6), (7, vI v7)]) 84 rfl 4 (by decide) rfl (D_X11_vote_0.at 40 rfl) ?_
    refine J_iload 86 rfl 5 5 rfl (D_X11_vote_0.at 41 rfl) ?_
    refine J_istore_n (lv' := [(3, vI v5), (4, vI v6), (0, vR 0), (1, vI v1), (2, vI v2), (5, vI v5), (6, vI v6), (7, vI v7)]) 87 rfl 3 (by decide) rfl (D_X11_vote_0.at 42 rfl) ?_
    refine J_iinc (v := (v5 + 1)) (lv' := [(5, vI (v5 + 1)), (3, vI v5), (4, vI v6), (0, vR 0), (1, vI v1), (2, vI v2), (6, vI v6), (7, vI v7)]) 90 rfl 5 5 1 rfl rfl (by decide) rfl (D_X11_vote_0.at 43 rfl) ?_
    refine J_goto 8 (D_X11_vote_0.at 44 rfl) (by decide) ?_
    exact J_sub (lv' := [(0, vR 0), (1, vI v1), (2, vI v2), (3, vI v5), (4, vI v6), (5, vI (v5 + 1))]) [3, 4, 5, 1, 2, 0] rfl T
  replace T := T.2 c21
  refine J_iload 37 rfl 7 7 rfl (D_X11_vote_0.at 19 rfl) ?_
  refine J_aload_n 38 rfl 0 0 rfl ⟨by decide, by decide⟩ (D_X11_vote_0.at 20 rfl) ?_
  obtain ⟨s10, T⟩ := T
  refine J_getR (z := (h 0 4)) 41 rfl fl_11_35 rfl ob_0 (Ob.lt ob_0) (D_X11_vote_0.at 21 rfl) rfl ?_
  refine J_getI (z := (h (h 0 4) 12)) 44 rfl fl_11_151 rfl s10 (Ob.lt s10) (D_X11_vote_0.at 22 rfl) rfl ?_
  obtain ⟨s11, T⟩ := T
  obtain ⟨s12, T⟩ := T
  refine J_icmp_ge 47 rfl 73 s11 s12 (D_X11_vote_0.at 23 rfl) (by decide) (fun c20 => ?_) (fun c20 => ?_)
  · replace T := T.1 c20
    refine J_iload 75 rfl 6 6 rfl (D_X11_vote_0.at 36 rfl) ?_
    refine J_iload 77 rfl 4 4 rfl (D_X11_vote_0.at 37 rfl) ?_
    obtain ⟨s13, T⟩ := T
    obtain ⟨s14, T⟩ := T
    refine J_icmp_le 80 rfl 87 s13 s14 (D_X11_vote_0.at 38 rfl) (by decide) (fun c15 => ?_) (fun c15 => ?_)
    · replace T := T.1 c15
      refine J_iinc (v := (v5 + 1)) (lv' := [(5, vI (v5 + 1)), (0, vR 0), (1, vI v1), (2, vI v2), (3, vI v3), (4, vI v4), (6, vI v6), (7, vI v7)]) 90 rfl 5 5 1 rfl rfl (by decide) rfl (D_X11_vote_0.at 43 rfl) ?_
      refine J_goto 8 (D_X11_vote_0.at 44 rfl) (by decide) ?_
      exact J_sub (lv' := [(0, vR 0), (1, vI v1), (2, vI v2), (3, vI v3), (4, vI v4), (5, vI (v5 + 1))]) [1, 2, 3, 4, 5, 0] rfl T
    replace T := T.2 c15
    refine J_iload 82 rfl 6 6 rfl (D_X11_vote_0.at 39 rfl) ?_
    refine J_istore (lv' := [(4, vI v6), (0, vR 0), (1, vI v1), (2, vI v2), (3, vI v3), (5, vI v5), (6, vI v6), (7, vI v7)]) 84 rfl 4 (by decide) rfl (D_X11_vote_0.at 40 rfl) ?_
    refine J_iload 86 rfl 5 5 rfl (D_X11_vote_0.at 41 rfl) ?_
    refine J_istore_n (lv' := [(3, vI v5), (4, vI v6), (0, vR 0), (1, vI v1), (2, vI v2), (5, vI v5), (6, vI v6), (7, vI v7)]) 87 rfl 3 (by decide) rfl (D_X11_vote_0.at 42 rfl) ?_
    refine J_iinc (v := (v5 + 1)) (lv' := [(5, vI (v5 + 1)), (3, vI v5), (4, vI v6), (0, vR 0), (1, vI v1), (2, vI v2), (6, vI v6), (7, vI v7)]) 90 rfl 5 5 1 rfl rfl (by decide) rfl (D_X11_vote_0.at 43 rfl) ?_
    refine J_goto 8 (D_X11_vote_0.at 44 rfl) (by decide) ?_
    exact J_sub (lv' := [(0, vR 0), (1, vI v1), (2, vI v2), (3, vI v5), (4, vI v6), (5, vI (v5 + 1))]) [3, 4, 5, 1, 2, 0] rfl T
  replace T := T.2 c20
  refine J_iload 49 rfl 6 6 rfl (D_X11_vote_0.at 24 rfl) ?_
  refine J_aload_n 50 rfl 0 0 rfl ⟨by decide, by decide⟩ (D_X11_vote_0.at 25 rfl) ?_
  refine J_getF (ov := 40) (dd := 1040) 53 rfl fl_11_45 rfl (by decide) rfl ob_0 (Ob.lt ob_0) (D_X11_vote_0.at 26 rfl) ?_
  refine J_aload_n 54 rfl 0 0 rfl ⟨by decide, by decide⟩ (D_X11_vote_0.at 27 rfl) ?_
  obtain ⟨s16, T⟩ := T
  refine J_getR (z := (h 0 4)) 57 rfl fl_11_35 rfl ob_0 (Ob.lt ob_0) (D_X11_vote_0.at 28 rfl) rfl ?_
  refine J_iload 59 rfl 7 7 rfl (D_X11_vote_0.at 29 rfl) ?_
  refine J_iload 61 rfl 5 5 rfl (D_X11_vote_0.at 30 rfl) ?_
  refine J_callV (d' := 2) (sr := fun z => [vI z, vI v6]) (as := [vR (h 0 4), vI v7, vI v5]) (st := [vI v6]) (o := 40) 64 rfl ok_X9_owned im_X9_owned se_X9_owned ml_11_250 isC_9 ob_40 (Ob.lt ob_40) rfl (by decide) ⟨Nat.le_refl _, Nat.le_refl _⟩ (Nat.le_of_ble_eq_true rfl) (D_X11_vote_0.at 31 rfl) (fun _ => rfl) T (fun r17 h18 T b19 => ?_)
  refine J_iadd 65 rfl (D_X11_vote_0.at 32 rfl) ?_
  refine J_istore (lv' := [(6, vI (v6 + r17)), (0, vR 0), (1, vI v1), (2, vI v2), (3, vI v3), (4, vI v4), (5, vI v5), (7, vI v7)]) 67 rfl 6 (by decide) rfl (D_X11_vote_0.at 33 rfl) ?_
  refine J_iinc (v := (v7 + 1)) (lv' := [(7, vI (v7 + 1)), (6, vI (v6 + r17)), (0, vR 0), (1, vI v1), (2, vI v2), (3, vI v3), (4, vI v4), (5, vI v5)]) 70 rfl 7 7 1 rfl rfl (by decide) rfl (D_X11_vote_0.at 34 rfl) ?_
  refine J_goto 29 (D_X11_vote_0.at 35 rfl) (by decide) ?_
  exact J_sub (lv' := [(0, vR 0), (1, vI v1), (2, vI v2), (3, vI v3), (4, vI v4), (5, vI v5), (6, vI (v6 + r17)), (7, vI (v7 + 1))]) [2, 3, 4, 5, 6, 7, 1, 0] rfl T
theorem c_X11_share {w : Wd} {a1 a2 : Int} {h : Hp} {K : Int → Hp → Prop} (T : (Ob 7 (h 0 4)) ∧ (C_X7_hasReach w (h 0 4) a1 h (fun r2 h3 => (r2 = 0 ∨ r2 = 1) → ((r2 = 0) → (K (-1) h3)) ∧ (¬ (r2 = 0) → ((Ob 7 (h3 0 4)) ∧ ((inR a2) ∧ (((a2 < 0) → (K (-1) h3)) ∧ (¬ (a2 < 0) → ((inR a2) ∧ ((inR (h3 ((h3 0 4) + 1) 1)) ∧ (((a2 ≥ (h3 ((h3 0 4) + 1) 1)) → (K (-1) h3)) ∧ (¬ (a2 ≥ (h3 ((h3 0 4) + 1) 1)) → ((Ob 7 (h3 0 4)) ∧ (C_X9_owned w 40 (h3 0 4) a1 a2 h3 (fun r10 h11 => C_X9_lyingIn w 40 a1 h11 (fun r13 h14 => (inR r13) ∧ (((r13 ≥ 1) → ((0 ≤ (1000 * r10) ∧ (1000 * r10) < 2147483648) ∧ ((0 < r13 ∧ r13 < 2147483648) ∧ (K ((1000 * r10) / r13) h14)))) ∧ (¬ (r13 ≥ 1) → (K 0 h14))))))))))))))))))) : C_X11_share w a1 a2 h K := by
  refine CGm_of2 (by decide) (by decide) trivial (Nat.le_of_ble_eq_true rfl) ?_
  refine J_aload_n 1 rfl 0 0 rfl ⟨by decide, by decide⟩ (D_X11_share_0.at 0 rfl) ?_
  obtain ⟨s1, T⟩ := T
  refine J_getR (z := (h 0 4)) 4 rfl fl_11_35 rfl ob_0 (Ob.lt ob_0) (D_X11_share_0.at 1 rfl) rfl ?_
  refine J_iload_n 5 rfl 1 1 rfl (D_X11_share_0.at 2 rfl) ?_
  refine J_callV (d' := 1) (sr := fun z => [vI z]) (as := [vI a1]) (st := []) (o := (h 0 4)) 8 rfl ok_X7_hasReach im_X7_hasReach se_X7_hasReach ml_11_220 isC_7 s1 (Ob.lt s1) rfl (by decide) ⟨Nat.le_refl _, Nat.le_refl _⟩ (Nat.le_of_ble_eq_true rfl) (D_X11_share_0.at 3 rfl) (fun _ => rfl) T (fun r2 h3 T b4 => ?_)
  replace T := T b4
  refine J_if_eq 11 rfl 22 (inR_b b4) (D_X11_share_0.at 4 rfl) (by decide) (fun c22 => ?_) (fun c22 => ?_)
  · replace T := T.1 c22
    refine J_iconst 23 rfl (D_X11_share_0.at 10 rfl) ?_
    exact J_iret rfl (D_X11_share_0.at 11 rfl) T
  replace T := T.2 c22
  refine J_aload_n 12 rfl 0 0 rfl ⟨by decide, by decide⟩ (D_X11_share_0.at 5 rfl) ?_
  obtain ⟨s5, T⟩ := T
  refine J_getR (z := (h3 0 4)) 15 rfl fl_11_35 rfl ob_0 (Ob.lt ob_0) (D_X11_share_0.at 6 rfl) rfl ?_
  refine J_iload_n 16 rfl 2 2 rfl (D_X11_share_0.at 7 rfl) ?_
  refine J_callV (d' := 1) (K1 := fun z h0 => rok (some .boolean) z → JG w true m_X11_share 3 NT NT 19 [(0, vR 0), (1, vI a1), (2, vI a2)] [vI z] h0 _) (sr := fun z => [vI z]) (as := [vI a2]) (st := []) (o := (h3 0 4)) 19 rfl ok_X7_hasOwner im_X7_hasOwner se_X7_hasOwner ml_11_247 isC_7 s5 (Ob.lt s5) rfl (by decide) ⟨Nat.le_refl _, Nat.le_refl _⟩ (Nat.le_of_ble_eq_true rfl) (D_X11_share_0.at 8 rfl) (fun _ => rfl) (CGm_of2 (by decide) (by decide) trivial (Nat.le_of_ble_eq_true rfl) ?_) (fun _ _ kq hb => kq hb)
  refine J_iload_n 1 rfl 1 1 rfl (D_X7_hasOwner_0.at 0 rfl) ?_
  obtain ⟨s6, T⟩ := T
  refine J_if_lt 4 rfl 19 s6 (D_X7_hasOwner_0.at 1 rfl) (by decide) (fun c21 => ?_) (fun c21 => ?_)
  · replace T := T.1 c21
    refine J_iconst 20 rfl (D_X7_hasOwner_0.at 9 rfl) ?_
    refine J_zret rfl (Or.inl rfl) (D_X7_hasOwner_0.at 10 rfl) (fun _ => ?_)
    refine J_if_ne 22 rfl 24 ⟨by decide, by decide⟩ (D_X11_share_0.at 9 rfl) (by decide) (fun c => absurd c (by decide)) (fun _ => ?_)
    refine J_iconst 23 rfl (D_X11_share_0.at 10 rfl) ?_
    exact J_iret rfl (D_X11_share_0.at 11 rfl) T
  replace T := T.2 c21
  refine J_iload_n 5 rfl 1 1 rfl (D_X7_hasOwner_0.at 2 rfl) ?_
  refine J_aload_n 6 rfl 0 0 rfl (Ob.rng s5) (D_X7_hasOwner_0.at 3 rfl) ?_
  refine J_getF (ov := ((h3 0 4) + 1)) (dd := 1001) 9 rfl fl_7_14 rfl (by decide) rfl s5 (Ob.lt s5) (D_X7_hasOwner_0.at 4 rfl) ?_
  refine J_getI (z := (h3 ((h3 0 4) + 1) 1)) 12 rfl fl_7_58 rfl (of_7_0 s5) (Ob.lt (of_7_0 s5)) (D_X7_hasOwner_0.at 5 rfl) rfl ?_
  obtain ⟨s7, T⟩ := T
  obtain ⟨s8, T⟩ := T
  refine J_icmp_ge 15 rfl 19 s7 s8 (D_X7_hasOwner_0.at 6 rfl) (by decide) (fun c20 => ?_) (fun c20 => ?_)
  · replace T := T.1 c20
    refine J_iconst 20 rfl (D_X7_hasOwner_0.at 9 rfl) ?_
    refine J_zret rfl (Or.inl rfl) (D_X7_hasOwner_0.at 10 rfl) (fun _ => ?_)
    refine J_if_ne 22 rfl 24 ⟨by decide, by decide⟩ (D_X11_share_0.at 9 rfl) (by decide) (fun c => absurd c (by decide)) (fun _ => ?_)
    refine J_iconst 23 rfl (D_X11_share_0.at 10 rfl) ?_
    exact J_iret rfl (D_X11_share_0.at 11 rfl) T
  replace T := T.2 c20
  refine J_iconst 16 rfl (D_X7_hasOwner_0.at 7 rfl) ?_
  refine J_goto 20 (D_X7_hasOwner_0.at 8 rfl) (by decide) ?_
  refine J_zret rfl (Or.inr rfl) (D_X7_hasOwner_0.at 10 rfl) (fun _ => ?_)
  refine J_if_ne 22 rfl 24 ⟨by decide, by decide⟩ (D_X11_share_0.at 9 rfl) (by decide) (fun _ => ?_) (fun c => absurd (by decide) c)
  refine J_aload_n 25 rfl 0 0 rfl ⟨by decide, by decide⟩ (D_X11_share_0.at 12 rfl) ?_
  refine J_getF (ov := 40) (dd := 1040) 28 rfl fl_11_45 rfl (by decide) rfl ob_0 (Ob.lt ob_0) (D_X11_share_0.at 13 rfl) ?_
  refine J_aload_n 29 rfl 0 0 rfl ⟨by decide, by decide⟩ (D_X11_share_0.at 14 rfl) ?_
  obtain ⟨s9, T⟩ := T
  refine J_getR (z := (h3 0 4)) 32 rfl fl_11_35 rfl ob_0 (Ob.lt ob_0) (D_X11_share_0.at 15 rfl) rfl ?_
  refine J_iload_n 33 rfl 1 1 rfl (D_X11_share_0.at 16 rfl) ?_
  refine J_iload_n 34 rfl 2 2 rfl (D_X11_share_0.at 17 rfl) ?_
  refine J_callV (d' := 2) (sr := fun z => [vI z]) (as := [vR (h3 0 4), vI a1, vI a2]) (st := []) (o := 40) 37 rfl ok_X9_owned im_X9_owned se_X9_owned ml_11_250 isC_9 ob_40 (Ob.lt ob_40) rfl (by decide) ⟨Nat.le_refl _, Nat.le_refl _⟩ (Nat.le_of_ble_eq_true rfl) (D_X11_share_0.at 18 rfl) (fun _ => rfl) T (fun r10 h11 T b12 => ?_)
  refine J_aload_n 38 rfl 0 0 rfl ⟨by decide, by decide⟩ (D_X11_share_0.at 19 rfl) ?_
  refine J_getF (ov := 40) (dd := 1040) 41 rfl fl_11_45 rfl (by decide) rfl ob_0 (Ob.lt ob_0) (D_X11_share_0.at 20 rfl) ?_
  refine J_iload_n 42 rfl 1 1 rfl (D_X11_share_0.at 21 rfl) ?_
  refine J_callV (d' := 2) (sr := fun z => [vI z, vI r10]) (as := [vI a1]) (st := [vI r10]) (o := 40) 45 rfl ok_X9_lyingIn im_X9_lyingIn se_X9_lyingIn ml_11_226 isC_9 ob_40 (Ob.lt ob_40) rfl (by decide) ⟨Nat.le_refl _, Nat.le_refl _⟩ (Nat.le_of_ble_eq_true rfl) (D_X11_share_0.at 22 rfl) (fun _ => rfl) T (fun r13 h14 T b15 => ?_)
  refine J_callS (d' := 1) (K1 := fun z h0 => rok (some .int) z → JG w true m_X11_share 3 NT NT 48 [(0, vR 0), (1, vI a1), (2, vI a2)] [vI z] h0 _) (sr := fun z => [vI z]) (as := [vI r10, vI r13]) (st := []) 48 rfl ok_X11_thousandths sm_X11_thousandths ml_11_254 rfl (by decide) ⟨Nat.le_refl _, Nat.le_refl _⟩ (Nat.le_of_ble_eq_true rfl) (D_X11_share_0.at 23 rfl) (fun _ => rfl) (CGm_of2 (by decide) (by decide) trivial (Nat.le_of_ble_eq_true rfl) ?_) (fun _ _ kq hb => kq hb)
  refine J_iload_n 1 rfl 1 1 rfl (D_X11_thousandths_0.at 0 rfl) ?_
  refine J_iconst 2 rfl (D_X11_thousandths_0.at 1 rfl) ?_
  obtain ⟨s16, T⟩ := T
  refine J_icmp_ge 5 rfl 9 s16 ⟨by decide, by decide⟩ (D_X11_thousandths_0.at 2 rfl) (by decide) (fun c19 => ?_) (fun c19 => ?_)
  · replace T := T.1 c19
    refine J_sipush 12 rfl ⟨by decide, by decide⟩ (D_X11_thousandths_0.at 5 rfl) ?_
    refine J_iload_n 13 rfl 0 0 rfl (D_X11_thousandths_0.at 6 rfl) ?_
    refine J_imul 14 rfl (D_X11_thousandths_0.at 7 rfl) ?_
    refine J_iload_n 15 rfl 1 1 rfl (D_X11_thousandths_0.at 8 rfl) ?_
    obtain ⟨s17, T⟩ := T
    obtain ⟨s18, T⟩ := T
    refine J_idiv 16 rfl s17 s18 (D_X11_thousandths_0.at 9 rfl) ?_
    refine J_iret rfl (D_X11_thousandths_0.at 10 rfl) (fun _ => ?_)
    exact J_iret rfl (D_X11_share_0.at 24 rfl) T
  replace T := T.2 c19
  refine J_iconst 6 rfl (D_X11_thousandths_0.at 3 rfl) ?_
  refine J_goto 16 (D_X11_thousandths_0.at 4 rfl) (by decide) ?_
  refine J_iret rfl (D_X11_thousandths_0.at 10 rfl) (fun _ => ?_)
  exact J_iret rfl (D_X11_share_0.at 24 rfl) T
theorem c_X11_tint {w : Wd} {a1 a2 : Int} {h : Hp} {K : Int → Hp → Prop} (T : (Ob 7 (h 0 4)) ∧ (C_X7_hasReach w (h 0 4) a1 h (fun r2 h3 => (r2 = 0 ∨ r2 = 1) → ((r2 = 0) → (K (-1) h3)) ∧ (¬ (r2 = 0) → ((Ob 7 (h3 0 4)) ∧ ((inR a2) ∧ (((a2 < 0) → (K (-1) h3)) ∧ (¬ (a2 < 0) → ((inR a2) ∧ ((inR (h3 ((h3 0 4) + 3) 1)) ∧ (((a2 ≥ (h3 ((h3 0 4) + 3) 1)) → (K (-1) h3)) ∧ (¬ (a2 ≥ (h3 ((h3 0 4) + 3) 1)) → ((Ob 7 (h3 0 4)) ∧ (C_X9_coloured w 40 (h3 0 4) a1 a2 h3 (fun r10 h11 => K r10 h11))))))))))))))) : C_X11_tint w a1 a2 h K := by
  refine CGm_of2 (by decide) (by decide) trivial (Nat.le_of_ble_eq_true rfl) ?_
  refine J_aload_n 1 rfl 0 0 rfl ⟨by decide, by decide⟩ (D_X11_tint_0.at 0 rfl) ?_
  obtain ⟨s1, T⟩ := T
  refine J_getR (z := (h 0 4)) 4 rfl fl_11_35 rfl ob_0 (Ob.lt ob_0) (D_X11_tint_0.at 1 rfl) rfl ?_
  refine J_iload_n 5 rfl 1 1 rfl (D_X11_tint_0.at 2 rfl) ?_
  refine J_callV (d' := 1) (sr := fun z => [vI z]) (as := [vI a1]) (st := []) (o := (h 0 4)) 8 rfl ok_X7_hasReach im_X7_hasReach se_X7_hasReach ml_11_220 isC_7 s1 (Ob.lt s1) rfl (by decide) ⟨Nat.le_refl _, Nat.le_refl _⟩ (Nat.le_of_ble_eq_true rfl) (D_X11_tint_0.at 3 rfl) (fun _ => rfl) T (fun r2 h3 T b4 => ?_)
  replace T := T b4
  refine J_if_eq 11 rfl 22 (inR_b b4) (D_X11_tint_0.at 4 rfl) (by decide) (fun c15 => ?_) (fun c15 => ?_)
  · replace T := T.1 c15
    refine J_iconst 23 rfl (D_X11_tint_0.at 10 rfl) ?_
    exact J_iret rfl (D_X11_tint_0.at 11 rfl) T
  replace T := T.2 c15
  refine J_aload_n 12 rfl 0 0 rfl ⟨by decide, by decide⟩ (D_X11_tint_0.at 5 rfl) ?_
  obtain ⟨s5, T⟩ := T
  refine J_getR (z := (h3 0 4)) 15 rfl fl_11_35 rfl ob_0 (Ob.lt ob_0) (D_X11_tint_0.at 6 rfl) rfl ?_
  refine J_iload_n 16 rfl 2 2 rfl (D_X11_tint_0.at 7 rfl) ?_
  refine J_callV (d' := 1) (K1 := fun z h0 => rok (some .boolean) z → JG w true m_X11_tint 3 NT NT 19 [(0, vR 0), (1, vI a1), (2, vI a2)] [vI z] h0 _) (sr := fun z => [vI z]) (as := [vI a2]) (st := []) (o := (h3 0 4)) 19 rfl ok_X7_hasColour im_X7_hasColour se_X7_hasColour ml_11_257 isC_7 s5 (Ob.lt s5) rfl (by decide) ⟨Nat.le_refl _, Nat.le_refl _⟩ (Nat.le_of_ble_eq_true rfl) (D_X11_tint_0.at 8 rfl) (fun _ => rfl) (CGm_of2 (by decide) (by decide) trivial (Nat.le_of_ble_eq_true rfl) ?_) (fun _ _ kq hb => kq hb)
  refine J_iload_n 1 rfl 1 1 rfl (D_X7_hasColour_0.at 0 rfl) ?_
  obtain ⟨s6, T⟩ := T
  refine J_if_lt 4 rfl 19 s6 (D_X7_hasColour_0.at 1 rfl) (by decide) (fun c14 => ?_) (fun c14 => ?_)
  · replace T := T.1 c14
    refine J_iconst 20 rfl (D_X7_hasColour_0.at 9 rfl) ?_
    refine J_zret rfl (Or.inl rfl) (D_X7_hasColour_0.at 10 rfl) (fun _ => ?_)
    refine J_if_ne 22 rfl 24 ⟨by decide, by decide⟩ (D_X11_tint_0.at 9 rfl) (by decide) (fun c => absurd c (by decide)) (fun _ => ?_)
    refine J_iconst 23 rfl (D_X11_tint_0.at 10 rfl) ?_
    exact J_iret rfl (D_X11_tint_0.at 11 rfl) T
  replace T := T.2 c14
  refine J_iload_n 5 rfl 1 1 rfl (D_X7_hasColour_0.at 2 rfl) ?_
  refine J_aload_n 6 rfl 0 0 rfl (Ob.rng s5) (D_X7_hasColour_0.at 3 rfl) ?_
  refine J_getF (ov := ((h3 0 4) + 3)) (dd := 1003) 9 rfl fl_7_20 rfl (by decide) rfl s5 (Ob.lt s5) (D_X7_hasColour_0.at 4 rfl) ?_
  refine J_getI (z := (h3 ((h3 0 4) + 3) 1)) 12 rfl fl_7_58 rfl (of_7_1 s5) (Ob.lt (of_7_1 s5)) (D_X7_hasColour_0.at 5 rfl) rfl ?_
  obtain ⟨s7, T⟩ := T
  obtain ⟨s8, T⟩ := T
  refine J_icmp_ge 15 rfl 19 s7 s8 (D_X7_hasColour_0.at 6 rfl) (by decide) (fun c13 => ?_) (fun c13 => ?_)
  · replace T := T.1 c13
    refine J_iconst 20 rfl (D_X7_hasColour_0.at 9 rfl) ?_
    refine J_zret rfl (Or.inl rfl) (D_X7_hasColour_0.at 10 rfl) (fun _ => ?_)
    refine J_if_ne 22 rfl 24 ⟨by decide, by decide⟩ (D_X11_tint_0.at 9 rfl) (by decide) (fun c => absurd c (by decide)) (fun _ => ?_)
    refine J_iconst 23 rfl (D_X11_tint_0.at 10 rfl) ?_
    exact J_iret rfl (D_X11_tint_0.at 11 rfl) T
  replace T := T.2 c13
  refine J_iconst 16 rfl (D_X7_hasColour_0.at 7 rfl) ?_
  refine J_goto 20 (D_X7_hasColour_0.at 8 rfl) (by decide) ?_
  refine J_zret rfl (Or.inr rfl) (D_X7_hasColour_0.at 10 rfl) (fun _ => ?_)
  refine J_if_ne 22 rfl 24 ⟨by decide, by decide⟩ (D_X11_tint_0.at 9 rfl) (by decide) (fun _ => ?_) (fun c => absurd (by decide) c)
  refine J_aload_n 25 rfl 0 0 rfl ⟨by decide, by decide⟩ (D_X11_tint_0.at 12 rfl) ?_
  refine J_getF (ov := 40) (dd := 1040) 28 rfl fl_11_45 rfl (by decide) rfl ob_0 (Ob.lt ob_0) (D_X11_tint_0.at 13 rfl) ?_
  refine J_aload_n 29 rfl 0 0 rfl ⟨by decide, by decide⟩ (D_X11_tint_0.at 14 rfl) ?_
  obtain ⟨s9, T⟩ := T
  refine J_getR (z := (h3 0 4)) 32 rfl fl_11_35 rfl ob_0 (Ob.lt ob_0) (D_X11_tint_0.at 15 rfl) rfl ?_
  refine J_iload_n 33 rfl 1 1 rfl (D_X11_tint_0.at 16 rfl) ?_
  refine J_iload_n 34 rfl 2 2 rfl (D_X11_tint_0.at 17 rfl) ?_
  refine J_callV (d' := 2) (sr := fun z => [vI z]) (as := [vR (h3 0 4), vI a1, vI a2]) (st := []) (o := 40) 37 rfl ok_X9_coloured im_X9_coloured se_X9_coloured ml_11_260 isC_9 ob_40 (Ob.lt ob_40) rfl (by decide) ⟨Nat.le_refl _, Nat.le_refl _⟩ (Nat.le_of_ble_eq_true rfl) (D_X11_tint_0.at 18 rfl) (fun _ => rfl) T (fun r10 h11 T b12 => ?_)
  exact J_iret rfl (D_X11_tint_0.at 19 rfl) T
theorem c_X11_stone {w : Wd} {a1 a2 : Int} (ha2 : a2 = 0 ∨ a2 = 1) {h : Hp} {K : Int → Hp → Prop} (T : (Ob 7 (h 0 4)) ∧ (C_X7_hasReach w (h 0 4) a1 h (fun r2 h3 => (r2 = 0 ∨ r2 = 1) → ((r2 ≠ 0) → ((0 ≤ a1 ∧ a1 < 8) ∧ (((a2 = 0) → ((inR ((h3 41 a1) + (-1))) ∧ (((((h3 41 a1) + (-1)) < 0) → (C_X11_refuseAct w 3 h3 (fun r7 h8 => (r7 = 0 ∨ r7 = 1) → K r7 h8))) ∧ (¬ (((h3 41 a1) + (-1)) < 0) → ((inR ((h3 41 a1) + (-1))) ∧ (((((h3 41 a1) + (-1)) ≤ 3) → (C_X5_store w 40 h3 (fun _ h12 => (0 ≤ a1 ∧ a1 < 8) ∧ (∀ h15 : Hp, h15 = hu h12 41 a1 ((h3 41 a1) + (-1)) → K 1 h15)))) ∧ (¬ (((h3 41 a1) + (-1)) ≤ 3) → (C_X11_refuseAct w 3 h3 (fun r17 h18 => (r17 = 0 ∨ r17 = 1) → K r17 h18))))))))) ∧ (¬ (a2 = 0) → ((inR ((h3 41 a1) + 1)) ∧ (((((h3 41 a1) + 1) < 0) → (C_X11_refuseAct w 3 h3 (fun r23 h24 => (r23 = 0 ∨ r23 = 1) → K r23 h24))) ∧ (¬ (((h3 41 a1) + 1) < 0) → ((inR ((h3 41 a1) + 1)) ∧ (((((h3 41 a1) + 1) ≤ 3) → (C_X5_store w 40 h3 (fun _ h28 => (0 ≤ a1 ∧ a1 < 8) ∧ (∀ h31 : Hp, h31 = hu h28 41 a1 ((h3 41 a1) + 1) → K 1 h31)))) ∧ (¬ (((h3 41 a1) + 1) ≤ 3) → (C_X11_refuseAct w 3 h3 (fun r33 h34 => (r33 = 0 ∨ r33 = 1) → K r33 h34)))))))))))) ∧ (¬ (r2 ≠ 0) → (C_X11_refuseAct w 3 h3 (fun r39 h40 => (r39 = 0 ∨ r39 = 1) → K r39 h40)))))) : C_X11_stone w a1 a2 h K := by
  refine CGm_of2 (by decide) (by decide) trivial (Nat.le_of_ble_eq_true rfl) ?_
  refine J_aload_n 1 rfl 0 0 rfl ⟨by decide, by decide⟩ (D_X11_stone_0.at 0 rfl) ?_
  obtain ⟨s1, T⟩ := T
  refine J_getR (z := (h 0 4)) 4 rfl fl_11_35 rfl ob_0 (Ob.lt ob_0) (D_X11_stone_0.at 1 rfl) rfl ?_
  refine J_iload_n 5 rfl 1 1 rfl (D_X11_stone_0.at 2 rfl) ?_
  refine J_callV (d' := 1) (sr := fun z => [vI z]) (as := [vI a1]) (st := []) (o := (h 0 4)) 8 rfl ok_X7_hasReach im_X7_hasReach se_X7_hasReach ml_11_220 isC_7 s1 (Ob.lt s1) rfl (by decide) ⟨Nat.le_refl _, Nat.le_refl _⟩ (Nat.le_of_ble_eq_true rfl) (D_X11_stone_0.at 3 rfl) (fun _ => rfl) T (fun r2 h3 T b4 => ?_)
  replace T := T b4
  refine J_if_ne 11 rfl 17 (inR_b b4) (D_X11_stone_0.at 4 rfl) (by decide) (fun c42 => ?_) (fun c42 => ?_)
  · replace T := T.1 c42
    refine J_aload_n 18 rfl 0 0 rfl ⟨by decide, by decide⟩ (D_X11_stone_0.at 9 rfl) ?_
    refine J_getF (ov := 40) (dd := 1040) 21 rfl fl_11_45 rfl (by decide) rfl ob_0 (Ob.lt ob_0) (D_X11_stone_0.at 10 rfl) ?_
    refine J_getF (ov := 41) (dd := 1001) 24 rfl fl_11_181 rfl (by decide) rfl ob_40 (Ob.lt ob_40) (D_X11_stone_0.at 11 rfl) ?_
    refine J_iload_n 25 rfl 1 1 rfl (D_X11_stone_0.at 12 rfl) ?_
    obtain ⟨s5, T⟩ := T
    refine J_iald 26 rfl ar_41 (Ar.lt ar_41) s5 (D_X11_stone_0.at 13 rfl) ?_
    refine J_iload_n 27 rfl 2 2 rfl (D_X11_stone_0.at 14 rfl) ?_
    refine J_if_eq 30 rfl 34 (inR_b ha2) (D_X11_stone_0.at 15 rfl) (by decide) (fun c38 => ?_) (fun c38 => ?_)
    · replace T := T.1 c38
      refine J_iconst 35 rfl (D_X11_stone_0.at 18 rfl) ?_
      refine J_iadd 36 rfl (D_X11_stone_0.at 19 rfl) ?_
      refine J_istore_n (lv' := [(3, vI ((h3 41 a1) + (-1))), (0, vR 0), (1, vI a1), (2, vI a2)]) 37 rfl 3 (by decide) rfl (D_X11_stone_0.at 20 rfl) ?_
      refine J_iload_n 38 rfl 3 0 rfl (D_X11_stone_0.at 21 rfl) ?_
      obtain ⟨s6, T⟩ := T
      refine J_if_lt 41 rfl 46 s6 (D_X11_stone_0.at 22 rfl) (by decide) (fun c21 => ?_) (fun c21 => ?_)
      · replace T := T.1 c21
        refine J_aload_n 47 rfl 0 1 rfl ⟨by decide, by decide⟩ (D_X11_stone_0.at 26 rfl) ?_
        refine J_iconst 48 rfl (D_X11_stone_0.at 27 rfl) ?_
        refine J_callV (d' := 2) (sr := fun z => [vI z]) (as := [vI 3]) (st := []) (o := 0) 51 rfl ok_X11_refuseAct im_X11_refuseAct se_X11_refuseAct ml_11_121 isC_11 ob_0 (Ob.lt ob_0) rfl (by decide) ⟨Nat.le_refl _, Nat.le_refl _⟩ (Nat.le_of_ble_eq_true rfl) (D_X11_stone_0.at 28 rfl) (fun _ => rfl) T (fun r7 h8 T b9 => ?_)
        replace T := T b9
        exact J_zret rfl b9 (D_X11_stone_0.at 29 rfl) T
      replace T := T.2 c21
      refine J_iload_n 42 rfl 3 0 rfl (D_X11_stone_0.at 23 rfl) ?_
      refine J_iconst 43 rfl (D_X11_stone_0.at 24 rfl) ?_
      obtain ⟨s10, T⟩ := T
      refine J_icmp_le 46 rfl 52 s10 ⟨by decide, by decide⟩ (D_X11_stone_0.at 25 rfl) (by decide) (fun c20 => ?_) (fun c20 => ?_)
      · replace T := T.1 c20
        refine J_aload_n 53 rfl 0 1 rfl ⟨by decide, by decide⟩ (D_X11_stone_0.at 30 rfl) ?_
        refine J_getF (ov := 50) (dd := 1050) 56 rfl fl_11_55 rfl (by decide) rfl ob_0 (Ob.lt ob_0) (D_X11_stone_0.at 31 rfl) ?_
        refine J_aload_n 57 rfl 0 1 rfl ⟨by decide, by decide⟩ (D_X11_stone_0.at 32 rfl) ?_
        refine J_getF (ov := 40) (dd := 1040) 60 rfl fl_11_45 rfl (by decide) rfl ob_0 (Ob.lt ob_0) (D_X11_stone_0.at 33 rfl) ?_
        refine J_callV (d' := 1) (sr := fun z => []) (as := [vR 40]) (st := []) (o := 50) 63 rfl ok_X5_store im_X5_store se_X5_store ml_11_298 isC_5 ob_50 (Ob.lt ob_50) rfl (by decide) ⟨Nat.le_refl _, Nat.le_refl _⟩ (Nat.le_of_ble_eq_true rfl) (D_X11_stone_0.at 34 rfl) (fun _ => rfl) T (fun r11 h12 T b13 => ?_)
        refine J_aload_n 64 rfl 0 1 rfl ⟨by decide, by decide⟩ (D_X11_stone_0.at 35 rfl) ?_
        refine J_getF (ov := 40) (dd := 1040) 67 rfl fl_11_45 rfl (by decide) rfl ob_0 (Ob.lt ob_0) (D_X11_stone_0.at 36 rfl) ?_
        refine J_getF (ov := 41) (dd := 1001) 70 rfl fl_11_181 rfl (by decide) rfl ob_40 (Ob.lt ob_40) (D_X11_stone_0.at 37 rfl) ?_
        refine J_iload_n 71 rfl 1 2 rfl (D_X11_stone_0.at 38 rfl) ?_
        refine J_iload_n 72 rfl 3 0 rfl (D_X11_stone_0.at 39 rfl) ?_
        obtain ⟨s14, T⟩ := T
        refine J_iastH 73 rfl ar_41 (Ar.lt ar_41) s14 trivial (D_X11_stone_0.at 40 rfl) (fun h15 e16 => ?_)
        replace T := T h15 e16
        refine J_iconst 74 rfl (D_X11_stone_0.at 41 rfl) ?_
        exact J_zret rfl (Or.inr rfl) (D_X11_stone_0.at 42 rfl) T
      replace T := T.2 c20
      refine J_aload_n 47 rfl 0 1 rfl ⟨by decide, by decide⟩ (D_X11_stone_0.at 26 rfl) ?_
      refine J_iconst 48 rfl (D_X11_stone_0.at 27 rfl) ?_
      refine J_callV (d' := 2) (sr := fun z => [vI z]) (as := [vI 3]) (st := []) (o := 0) 51 rfl ok_X11_refuseAct im_X11_refuseAct se_X11_refuseAct ml_11_121 isC_11 ob_0 (Ob.lt ob_0) rfl (by decide) ⟨Nat.le_refl _, Nat.le_refl _⟩ (Nat.le_of_ble_eq_true rfl) (D_X11_stone_0.at 28 rfl) (fun _ => rfl) T (fun r17 h18 T b19 => ?_)
      replace T := T b19
      exact J_zret rfl b19 (D_X11_stone_0.at 29 rfl) T
    replace T := T.2 c38
    refine J_iconst 31 rfl (D_X11_stone_0.at 16 rfl) ?_
    refine J_goto 35 (D_X11_stone_0.at 17 rfl) (by decide) ?_
    refine J_iadd 36 rfl (D_X11_stone_0.at 19 rfl) ?_
    refine J_istore_n (lv' := [(3, vI ((h3 41 a1) + 1)), (0, vR 0), (1, vI a1), (2, vI a2)]) 37 rfl 3 (by decide) rfl (D_X11_stone_0.at 20 rfl) ?_
    refine J_iload_n 38 rfl 3 0 rfl (D_X11_stone_0.at 21 rfl) ?_
    obtain ⟨s22, T⟩ := T
    refine J_if_lt 41 rfl 46 s22 (D_X11_stone_0.at 22 rfl) (by decide) (fun c37 => ?_) (fun c37 => ?_)
    · replace T := T.1 c37
      refine J_aload_n 47 rfl 0 1 rfl ⟨by decide, by decide⟩ (D_X11_stone_0.at 26 rfl) ?_
      refine J_iconst 48 rfl (D_X11_stone_0.at 27 rfl) ?_
      refine J_callV (d' := 2) (sr := fun z => [vI z]) (as := [vI 3]) (st := []) (o := 0) 51 rfl ok_X11_refuseAct im_X11_refuseAct se_X11_refuseAct ml_11_121 isC_11 ob_0 (Ob.lt ob_0) rfl (by decide) ⟨Nat.le_refl _, Nat.le_refl _⟩ (Nat.le_of_ble_eq_true rfl) (D_X11_stone_0.at 28 rfl) (fun _ => rfl) T (fun r23 h24 T b25 => ?_)
      replace T := T b25
      exact J_zret rfl b25 (D_X11_stone_0.at 29 rfl) T
    replace T := T.2 c37
    refine J_iload_n 42 rfl 3 0 rfl (D_X11_stone_0.at 23 rfl) ?_
    refine J_iconst 43 rfl (D_X11_stone_0.at 24 rfl) ?_
    obtain ⟨s26, T⟩ := T
    refine J_icmp_le 46 rfl 52 s26 ⟨by decide, by decide⟩ (D_X11_stone_0.at 25 rfl) (by decide) (fun c36 => ?_) (fun c36 => ?_)
    · replace T := T.1 c36
      refine J_aload_n 53 rfl 0 1 rfl ⟨by decide, by decide⟩ (D_X11_stone_0.at 30 rfl) ?_
      refine J_getF (ov := 50) (dd := 1050) 56 rfl fl_11_55 rfl (by decide) rfl ob_0 (Ob.lt ob_0) (D_X11_stone_0.at 31 rfl) ?_
      refine J_aload_n 57 rfl 0 1 rfl ⟨by decide, by decide⟩ (D_X11_stone_0.at 32 rfl) ?_
      refine J_getF (ov := 40) (dd := 1040) 60 rfl fl_11_45 rfl (by decide) rfl ob_0 (Ob.lt ob_0) (D_X11_stone_0.at 33 rfl) ?_
      refine J_callV (d' := 1) (sr := fun z => []) (as := [vR 40]) (st := []) (o := 50) 63 rfl ok_X5_store im_X5_store se_X5_store ml_11_298 isC_5 ob_50 (Ob.lt ob_50) rfl (by decide) ⟨Nat.le_refl _, Nat.le_refl _⟩ (Nat.le_of_ble_eq_true rfl) (D_X11_stone_0.at 34 rfl) (fun _ => rfl) T (fun r27 h28 T b29 => ?_)
      refine J_aload_n 64 rfl 0 1 rfl ⟨by decide, by decide⟩ (D_X11_stone_0.at 35 rfl) ?_
      refine J_getF (ov := 40) (dd := 1040) 67 rfl fl_11_45 rfl (by decide) rfl ob_0 (Ob.lt ob_0) (D_X11_stone_0.at 36 rfl) ?_
      refine J_getF (ov := 41) (dd := 1001) 70 rfl fl_11_181 rfl (by decide) rfl ob_40 (Ob.lt ob_40) (D_X11_stone_0.at 37 rfl) ?_
      refine J_iload_n 71 rfl 1 2 rfl (D_X11_stone_0.at 38 rfl) ?_
      refine J_iload_n 72 rfl 3 0 rfl (D_X11_stone_0.at 39 rfl) ?_
      obtain ⟨s30, T⟩ := T
      refine J_iastH 73 rfl ar_41 (Ar.lt ar_41) s30 trivial (D_X11_stone_0.at 40 rfl) (fun h31 e32 => ?_)
      replace T := T h31 e32
      refine J_iconst 74 rfl (D_X11_stone_0.at 41 rfl) ?_
      exact J_zret rfl (Or.inr rfl) (D_X11_stone_0.at 42 rfl) T
    replace T := T.2 c36
    refine J_aload_n 47 rfl 0 1 rfl ⟨by decide, by decide⟩ (D_X11_stone_0.at 26 rfl) ?_
    refine J_iconst 48 rfl (D_X11_stone_0.at 27 rfl) ?_
    refine J_callV (d' := 2) (sr := fun z => [vI z]) (as := [vI 3]) (st := []) (o := 0) 51 rfl ok_X11_refuseAct im_X11_refuseAct se_X11_refuseAct ml_11_121 isC_11 ob_0 (Ob.lt ob_0) rfl (by decide) ⟨Nat.le_refl _, Nat.le_refl _⟩ (Nat.le_of_ble_eq_true rfl) (D_X11_stone_0.at 28 rfl) (fun _ => rfl) T (fun r33 h34 T b35 => ?_)
    replace T := T b35
    exact J_zret rfl b35 (D_X11_stone_0.at 29 rfl) T
  replace T := T.2 c42
  refine J_aload_n 12 rfl 0 0 rfl ⟨by decide, by decide⟩ (D_X11_stone_0.at 5 rfl) ?_
  refine J_iconst 13 rfl (D_X11_stone_0.at 6 rfl) ?_
  refine J_callV (d' := 2) (sr := fun z => [vI z]) (as := [vI 3]) (st := []) (o := 0) 16 rfl ok_X11_refuseAct im_X11_refuseAct se_X11_refuseAct ml_11_121 isC_11 ob_0 (Ob.lt ob_0) rfl (by decide) ⟨Nat.le_refl _, Nat.le_refl _⟩ (Nat.le_of_ble_eq_true rfl) (D_X11_stone_0.at 7 rfl) (fun _ => rfl) T (fun r39 h40 T b41 => ?_)
  replace T := T b41
  exact J_zret rfl b41 (D_X11_stone_0.at 8 rfl) T
theorem c_X11_rake {w : Wd} {a1 a2 a3 a4 : Int} {h : Hp} {K : Int → Hp → Prop} (T : (Ob 7 (h 0 4)) ∧ (C_X7_hasReach w (h 0 4) a1 h (fun r2 h3 => (r2 = 0 ∨ r2 = 1) → ((r2 = 0) → (C_X11_refuseAct w 3 h3 (fun r5 h6 => (r5 = 0 ∨ r5 = 1) → K r5 h6))) ∧ (¬ (r2 = 0) → ((Ob 7 (h3 0 4)) ∧ (C_X7_hasBank w (h3 0 4) a2 h3 (fun r9 h10 => (r9 = 0 ∨ r9 = 1) → ((r9 = 0) → (C_X11_refuseAct w 3 h10 (fun r12 h13 => (r12 = 0 ∨ r12 = 1) → K r12 h13))) ∧ (¬ (r9 = 0) → ((Ob 7 (h10 0 4)) ∧ (C_X7_hasBank w (h10 0 4) a3 h10 (fun r16 h17 => (r16 = 0 ∨ r16 = 1) → ((r16 = 0) → (C_X11_refuseAct w 3 h17 (fun r19 h20 => (r19 = 0 ∨ r19 = 1) → K r19 h20))) ∧ (¬ (r16 = 0) → ((inR a2) ∧ ((inR a3) ∧ (((a2 ≠ a3) → ((inR a4) ∧ (((a4 < 1) → (C_X11_refuseAct w 3 h17 (fun r25 h26 => (r25 = 0 ∨ r25 = 1) → K r25 h26))) ∧ (¬ (a4 < 1) → ((0 ≤ ((a1 * 10) + a2) ∧ ((a1 * 10) + a2) < 80) ∧ ((inR a4) ∧ ((inR (h17 42 ((a1 * 10) + a2))) ∧ (((a4 ≤ (h17 42 ((a1 * 10) + a2))) → (C_X5_store w 40 h17 (fun _ h32 => (0 ≤ ((a1 * 10) + a2) ∧ ((a1 * 10) + a2) < 80) ∧ ((0 ≤ ((a1 * 10) + a2) ∧ ((a1 * 10) + a2) < 80) ∧ (∀ h36 : Hp, h36 = hu h32 42 ((a1 * 10) + a2) ((h32 42 ((a1 * 10) + a2)) - a4) → (0 ≤ ((a1 * 10) + a3) ∧ ((a1 * 10) + a3) < 80) ∧ ((0 ≤ ((a1 * 10) + a3) ∧ ((a1 * 10) + a3) < 80) ∧ (∀ h40 : Hp, h40 = hu h36 42 ((a1 * 10) + a3) ((h36 42 ((a1 * 10) + a3)) + a4) → K 1 h40))))))) ∧ (¬ (a4 ≤ (h17 42 ((a1 * 10) + a2))) → (C_X11_refuseAct w 3 h17 (fun r42 h43 => (r42 = 0 ∨ r42 = 1) → K r42 h43))))))))))) ∧ (¬ (a2 ≠ a3) → (C_X11_refuseAct w 3 h17 (fun r47 h48 => (r47 = 0 ∨ r47 = 1) → K r47 h48)))))))))))))))))) : C_X11_rake w a1 a2 a3 a4 h K := by
  refine CGm_of2 (by decide) (by decide) trivial (Nat.le_of_ble_eq_true rfl) ?_
  refine J_aload_n 1 rfl 0 0 rfl ⟨by decide, by decide⟩ (D_X11_rake_0.at 0 rfl) ?_
  obtain ⟨s1, T⟩ := T
  refine J_getR (z := (h 0 4)) 4 rfl fl_11_35 rfl ob_0 (Ob.lt ob_0) (D_X11_rake_0.at 1 rfl) rfl ?_
  refine J_iload_n 5 rfl 1 1 rfl (D_X11_rake_0.at 2 rfl) ?_
  refine J_callV (d' := 1) (sr := fun z => [vI z]) (as := [vI a1]) (st := []) (o := (h 0 4)) 8 rfl ok_X7_hasReach im_X7_hasReach se_X7_hasReach ml_11_220 isC_7 s1 (Ob.lt s1) rfl (by decide) ⟨Nat.le_refl _, Nat.le_refl _⟩ (Nat.le_of_ble_eq_true rfl) (D_X11_rake_0.at 3 rfl) (fun _ => rfl) T (fun r2 h3 T b4 => ?_)
  replace T := T b4
  refine J_if_eq 11 rfl 38 (inR_b b4) (D_X11_rake_0.at 4 rfl) (by decide) (fun c53 => ?_) (fun c53 => ?_)
  · replace T := T.1 c53
    refine J_aload_n 39 rfl 0 0 rfl ⟨by decide, by decide⟩ (D_X11_rake_0.at 18 rfl) ?_
    refine J_iconst 40 rfl (D_X11_rake_0.at 19 rfl) ?_
    refine J_callV (d' := 2) (sr := fun z => [vI z]) (as := [vI 3]) (st := []) (o := 0) 43 rfl ok_X11_refuseAct im_X11_refuseAct se_X11_refuseAct ml_11_121 isC_11 ob_0 (Ob.lt ob_0) rfl (by decide) ⟨Nat.le_refl _, Nat.le_refl _⟩ (Nat.le_of_ble_eq_true rfl) (D_X11_rake_0.at 20 rfl) (fun _ => rfl) T (fun r5 h6 T b7 => ?_)
    replace T := T b7
    exact J_zret rfl b7 (D_X11_rake_0.at 21 rfl) T
  replace T := T.2 c53
  refine J_aload_n 12 rfl 0 0 rfl ⟨by decide, by decide⟩ (D_X11_rake_0.at 5 rfl) ?_
  obtain ⟨s8, T⟩ := T
  refine J_getR (z := (h3 0 4)) 15 rfl fl_11_35 rfl ob_0 (Ob.lt ob_0) (D_X11_rake_0.at 6 rfl) rfl ?_
  refine J_iload_n 16 rfl 2 2 rfl (D_X11_rake_0.at 7 rfl) ?_
  refine J_callV (d' := 1) (sr := fun z => [vI z]) (as := [vI a2]) (st := []) (o := (h3 0 4)) 19 rfl ok_X7_hasBank im_X7_hasBank se_X7_hasBank ml_11_202 isC_7 s8 (Ob.lt s8) rfl (by decide) ⟨Nat.le_refl _, Nat.le_refl _⟩ (Nat.le_of_ble_eq_true rfl) (D_X11_rake_0.at 8 rfl) (fun _ => rfl) T (fun r9 h10 T b11 => ?_)
  replace T := T b11
  refine J_if_eq 22 rfl 38 (inR_b b11) (D_X11_rake_0.at 9 rfl) (by decide) (fun c52 => ?_) (fun c52 => ?_)
  · replace T := T.1 c52
    refine J_aload_n 39 rfl 0 0 rfl ⟨by decide, by decide⟩ (D_X11_rake_0.at 18 rfl) ?_
    refine J_iconst 40 rfl (D_X11_rake_0.at 19 rfl) ?_
    refine J_callV (d' := 2) (sr := fun z => [vI z]) (as := [vI 3]) (st := []) (o := 0) 43 rfl ok_X11_refuseAct im_X11_refuseAct se_X11_refuseAct ml_11_121 isC_11 ob_0 (Ob.lt ob_0) rfl (by decide) ⟨Nat.le_refl _, Nat.le_refl _⟩ (Nat.le_of_ble_eq_true rfl) (D_X11_rake_0.at 20 rfl) (fun _ => rfl) T (fun r12 h13 T b14 => ?_)
    replace T := T b14
    exact J_zret rfl b14 (D_X11_rake_0.at 21 rfl) T
  replace T := T.2 c52
  refine J_aload_n 23 rfl 0 0 rfl ⟨by decide, by decide⟩ (D_X11_rake_0.at 10 rfl) ?_
  obtain ⟨s15, T⟩ := T
  refine J_getR (z := (h10 0 4)) 26 rfl fl_11_35 rfl ob_0 (Ob.lt ob_0) (D_X11_rake_0.at 11 rfl) rfl ?_
  refine J_iload_n 27 rfl 3 3 rfl (D_X11_rake_0.at 12 rfl) ?_
  refine J_callV (d' := 1) (sr := fun z => [vI z]) (as := [vI a3]) (st := []) (o := (h10 0 4)) 30 rfl ok_X7_hasBank im_X7_hasBank se_X7_hasBank ml_11_202 isC_7 s15 (Ob.lt s15) rfl (by decide) ⟨Nat.le_refl _, Nat.le_refl _⟩ (Nat.le_of_ble_eq_true rfl) (D_X11_rake_0.at 13 rfl) (fun _ => rfl) T (fun r16 h17 T b18 => ?_)
  replace T := T b18
  refine J_if_eq 33 rfl 38 (inR_b b18) (D_X11_rake_0.at 14 rfl) (by decide) (fun c51 => ?_) (fun c51 => ?_)
  · replace T := T.1 c51
    refine J_aload_n 39 rfl 0 0 rfl ⟨by decide, by decide⟩ (D_X11_rake_0.at 18 rfl) ?_
    refine J_iconst 40 rfl (D_X11_rake_0.at 19 rfl) ?_
    refine J_callV (d' := 2) (sr := fun z => [vI z]) (as := [vI 3]) (st := []) (o := 0) 43 rfl ok_X11_refuseAct im_X11_refuseAct se_X11_refuseAct ml_11_121 isC_11 ob_0 (Ob.lt ob_0) rfl (by decide) ⟨Nat.le_refl _, Nat.le_refl _⟩ (Nat.le_of_ble_eq_true rfl) (D_X11_rake_0.at 20 rfl) (fun _ => rfl) T (fun r19 h20 T b21 => ?_)
    replace T := T b21
    exact J_zret rfl b21 (D_X11_rake_0.at 21 rfl) T
  replace T := T.2 c51
  refine J_iload_n 34 rfl 2 2 rfl (D_X11_rake_0.at 15 rfl) ?_
  refine J_iload_n 35 rfl 3 3 rfl (D_X11_rake_0.at 16 rfl) ?_
  obtain ⟨s22, T⟩ := T
  obtain ⟨s23, T⟩ := T
  refine J_icmp_ne 38 rfl 44 s22 s23 (D_X11_rake_0.at 17 rfl) (by decide) (fun c50 => ?_) (fun c50 => ?_)
  · replace T := T.1 c50
    refine J_iload 46 rfl 4 4 rfl (D_X11_rake_0.at 22 rfl) ?_
    refine J_iconst 47 rfl (D_X11_rake_0.at 23 rfl) ?_
    obtain ⟨s24, T⟩ := T
    refine J_icmp_lt 50 rfl 68 s24 ⟨by decide, by decide⟩ (D_X11_rake_0.at 24 rfl) (by decide) (fun c46 => ?_) (fun c46 => ?_)
    · replace T := T.1 c46
      refine J_aload_n 69 rfl 0 0 rfl ⟨by decide, by decide⟩ (D_X11_rake_0.at 34 rfl) ?_
      refine J_iconst 70 rfl (D_X11_rake_0.at 35 rfl) ?_
      refine J_callV (d' := 2) (sr := fun z => [vI z]) (as := [vI 3]) (st := []) (o := 0) 73 rfl ok_X11_refuseAct im_X11_refuseAct se_X11_refuseAct ml_11_121 isC_11 ob_0 (Ob.lt ob_0) rfl (by decide) ⟨Nat.le_refl _, Nat.le_refl _⟩ (Nat.le_of_ble_eq_true rfl) (D_X11_rake_0.at 36 rfl) (fun _ => rfl) T (fun r25 h26 T b27 => ?_)
      replace T := T b27
      exact J_zret rfl b27 (D_X11_rake_0.at 37 rfl) T
    replace T := T.2 c46
    refine J_iload 52 rfl 4 4 rfl (D_X11_rake_0.at 25 rfl) ?_
    refine J_aload_n 53 rfl 0 0 rfl ⟨by decide, by decide⟩ (D_X11_rake_0.at 26 rfl) ?_
    refine J_getF (ov := 40) (dd := 1040) 56 rfl fl_11_45 rfl (by decide) rfl ob_0 (Ob.lt ob_0) (D_X11_rake_0.at 27 rfl) ?_
    refine J_getF (ov := 42) (dd := 1002) 59 rfl fl_11_191 rfl (by decide) rfl ob_40 (Ob.lt ob_40) (D_X11_rake_0.at 28 rfl) ?_
    refine J_iload_n 60 rfl 1 1 rfl (D_X11_rake_0.at 29 rfl) ?_
    refine J_iload_n 61 rfl 2 2 rfl (D_X11_rake_0.at 30 rfl) ?_
    refine J_callS (d' := 1) (K1 := fun z h0 => rok (some .int) z → JG w true m_X11_rake 3 NT NT 64 [(0, vR 0), (1, vI a1), (2, vI a2), (3, vI a3), (4, vI a4)] [vI z, vR 42, vI a4] h0 _) (sr := fun z => [vI z, vR 42, vI a4]) (as := [vI a1, vI a2]) (st := [vR 42, vI a4]) 64 rfl ok_X11_cell sm_X11_cell ml_11_244 rfl (by decide) ⟨Nat.le_refl _, Nat.le_refl _⟩ (Nat.le_of_ble_eq_true rfl) (D_X11_rake_0.at 31 rfl) (fun _ => rfl) (CGm_of2 (by decide) (by decide) trivial (Nat.le_of_ble_eq_true rfl) ?_) (fun _ _ kq hb => kq hb)
    refine J_iload_n 1 rfl 0 0 rfl (D_X11_cell_0.at 0 rfl) ?_
    refine J_bipush 3 rfl ⟨by decide, by decide⟩ (D_X11_cell_0.at 1 rfl) ?_
    refine J_imul 4 rfl (D_X11_cell_0.at 2 rfl) ?_
    refine J_iload_n 5 rfl 1 1 rfl (D_X11_cell_0.at 3 rfl) ?_
    refine J_iadd 6 rfl (D_X11_cell_0.at 4 rfl) ?_
    refine J_iret rfl (D_X11_cell_0.at 5 rfl) (fun _ => ?_)
    obtain ⟨s28, T⟩ := T
    refine J_iald 65 rfl ar_42 (Ar.lt ar_42) s28 (D_X11_rake_0.at 32 rfl) ?_
    obtain ⟨s29, T⟩ := T
    obtain ⟨s30, T⟩ := T
    refine J_icmp_le 68 rfl 74 s29 s30 (D_X11_rake_0.at 33 rfl) (by decide) (fun c45 => ?_) (fun c45 => ?_)
    · replace T := T.1 c45
      refine J_aload_n 75 rfl 0 0 rfl ⟨by decide, by decide⟩ (D_X11_rake_0.at 38 rfl) ?_
      refine J_getF (ov := 50) (dd := 1050) 78 rfl fl_11_55 rfl (by decide) rfl ob_0 (Ob.lt ob_0) (D_X11_rake_0.at 39 rfl) ?_
      refine J_aload_n 79 rfl 0 0 rfl ⟨by decide, by decide⟩ (D_X11_rake_0.at 40 rfl) ?_
      refine J_getF (ov := 40) (dd := 1040) 82 rfl fl_11_45 rfl (by decide) rfl ob_0 (Ob.lt ob_0) (D_X11_rake_0.at 41 rfl) ?_
      refine J_callV (d' := 1) (sr := fun z => []) (as := [vR 40]) (st := []) (o := 50) 85 rfl ok_X5_store im_X5_store se_X5_store ml_11_298 isC_5 ob_50 (Ob.lt ob_50) rfl (by decide) ⟨Nat.le_refl _, Nat.le_refl _⟩ (Nat.le_of_ble_eq_true rfl) (D_X11_rake_0.at 42 rfl) (fun _ => rfl) T (fun r31 h32 T b33 => ?_)
      refine J_aload_n 86 rfl 0 0 rfl ⟨by decide, by decide⟩ (D_X11_rake_0.at 43 rfl) ?_
      refine J_getF (ov := 40) (dd := 1040) 89 rfl fl_11_45 rfl (by decide) rfl ob_0 (Ob.lt ob_0) (D_X11_rake_0.at 44 rfl) ?_
      refine J_getF (ov := 42) (dd := 1002) 92 rfl fl_11_191 rfl (by decide) rfl ob_40 (Ob.lt ob_40) (D_X11_rake_0.at 45 rfl) ?_
      refine J_iload_n 93 rfl 1 1 rfl (D_X11_rake_0.at 46 rfl) ?_
      refine J_iload_n 94 rfl 2 2 rfl (D_X11_rake_0.at 47 rfl) ?_
      refine J_callS (d' := 1) (K1 := fun z h0 => rok (some .int) z → JG w true m_X11_rake 3 NT NT 97 [(0, vR 0), (1, vI a1), (2, vI a2), (3, vI a3), (4, vI a4)] [vI z, vR 42] h0 _) (sr := fun z => [vI z, vR 42]) (as := [vI a1, vI a2]) (st := [vR 42]) 97 rfl ok_X11_cell sm_X11_cell ml_11_244 rfl (by decide) ⟨Nat.le_refl _, Nat.le_refl _⟩ (Nat.le_of_ble_eq_true rfl) (D_X11_rake_1.at 0 rfl) (fun _ => rfl) (CGm_of2 (by decide) (by decide) trivial (Nat.le_of_ble_eq_true rfl) ?_) (fun _ _ kq hb => kq hb)
      refine J_iload_n 1 rfl 0 0 rfl (D_X11_cell_0.at 0 rfl) ?_
      refine J_bipush 3 rfl ⟨by decide, by decide⟩ (D_X11_cell_0.at 1 rfl) ?_
      refine J_imul 4 rfl (D_X11_cell_0.at 2 rfl) ?_
      refine J_iload_n 5 rfl 1 1 rfl (D_X11_cell_0.at 3 rfl) ?_
      refine J_iadd 6 rfl (D_X11_cell_0.at 4 rfl) ?_
      refine J_iret rfl (D_X11_cell_0.at 5 rfl) (fun _ => ?_)
      refine J_dup2 98 rfl rfl rfl (D_X11_rake_1.at 1 rfl) ?_
      obtain ⟨s34, T⟩ := T
      refine J_iald 99 rfl ar_42 (Ar.lt ar_42) s34 (D_X11_rake_1.at 2 rfl) ?_
      refine J_iload 101 rfl 4 4 rfl (D_X11_rake_1.at 3 rfl) ?_
      refine J_isub 102 rfl (D_X11_rake_1.at 4 rfl) ?_
      obtain ⟨s35, T⟩ := T
      refine J_iastH 103 rfl ar_42 (Ar.lt ar_42) s35 trivial (D_X11_rake_1.at 5 rfl) (fun h36 e37 => ?_)
      replace T := T h36 e37
      refine J_aload_n 104 rfl 0 0 rfl ⟨by decide, by decide⟩ (D_X11_rake_1.at 6 rfl) ?_
      refine J_getF (ov := 40) (dd := 1040) 107 rfl fl_11_45 rfl (by decide) rfl ob_0 (Ob.lt ob_0) (D_X11_rake_1.at 7 rfl) ?_
      refine J_getF (ov := 42) (dd := 1002) 110 rfl fl_11_191 rfl (by decide) rfl ob_40 (Ob.lt ob_40) (D_X11_rake_1.at 8 rfl) ?_
      refine J_iload_n 111 rfl 1 1 rfl (D_X11_rake_1.at 9 rfl) ?_
      refine J_iload_n 112 rfl 3 3 rfl (D_X11_rake_1.at 10 rfl) ?_
      refine J_callS (d' := 1) (K1 := fun z h0 => rok (some .int) z → JG w true m_X11_rake 3 NT NT 115 [(0, vR 0), (1, vI a1), (2, vI a2), (3, vI a3), (4, vI a4)] [vI z, vR 42] h0 _) (sr := fun z => [vI z, vR 42]) (as := [vI a1, vI a3]) (st := [vR 42]) 115 rfl ok_X11_cell sm_X11_cell ml_11_244 rfl (by decide) ⟨Nat.le_refl _, Nat.le_refl _⟩ (Nat.le_of_ble_eq_true rfl) (D_X11_rake_1.at 11 rfl) (fun _ => rfl) (CGm_of2 (by decide) (by decide) trivial (Nat.le_of_ble_eq_true rfl) ?_) (fun _ _ kq hb => kq hb)
      refine J_iload_n 1 rfl 0 0 rfl (D_X11_cell_0.at 0 rfl) ?_
      refine J_bipush 3 rfl ⟨by decide, by decide⟩ (D_X11_cell_0.at 1 rfl) ?_
      refine J_imul 4 rfl (D_X11_cell_0.at 2 rfl) ?_
      refine J_iload_n 5 rfl 1 1 rfl (D_X11_cell_0.at 3 rfl) ?_
      refine J_iadd 6 rfl (D_X11_cell_0.at 4 rfl) ?_
      refine J_iret rfl (D_X11_cell_0.at 5 rfl) (fun _ => ?_)
      refine J_dup2 116 rfl rfl rfl (D_X11_rake_1.at 12 rfl) ?_
      obtain ⟨s38, T⟩ := T
      refine J_iald 117 rfl ar_42 (Ar.lt ar_42) s38 (D_X11_rake_1.at 13 rfl) ?_
      refine J_iload 119 rfl 4 4 rfl (D_X11_rake_1.at 14 rfl) ?_
      refine J_iadd 120 rfl (D_X11_rake_1.at 15 rfl) ?_
      obtain ⟨s39, T⟩ := T
      refine J_iastH 121 rfl ar_42 (Ar.lt ar_42) s39 trivial (D_X11_rake_1.at 16 rfl) (fun h40 e41 => ?_)
      replace T := T h40 e41
      refine J_iconst 122 rfl (D_X11_rake_1.at 17 rfl) ?_
      exact J_zret rfl (Or.inr rfl) (D_X11_rake_1.at 18 rfl) T
    replace T := T.2 c45
    refine J_aload_n 69 rfl 0 0 rfl ⟨by decide, by decide⟩ (D_X11_rake_0.at 34 rfl) ?_
    refine J_iconst 70 rfl (D_X11_rake_0.at 35 rfl) ?_
    refine J_callV (d' := 2) (sr := fun z => [vI z]) (as := [vI 3]) (st := []) (o := 0) 73 rfl ok_X11_refuseAct im_X11_refuseAct se_X11_refuseAct ml_11_121 isC_11 ob_0 (Ob.lt ob_0) rfl (by decide) ⟨Nat.le_refl _, Nat.le_refl _⟩ (Nat.le_of_ble_eq_true rfl) (D_X11_rake_0.at 36 rfl) (fun _ => rfl) T (fun r42 h43 T b44 => ?_)
    replace T := T b44
    exact J_zret rfl b44 (D_X11_rake_0.at 37 rfl) T
  replace T := T.2 c50
  refine J_aload_n 39 rfl 0 0 rfl ⟨by decide, by decide⟩ (D_X11_rake_0.at 18 rfl) ?_
  refine J_iconst 40 rfl (D_X11_rake_0.at 19 rfl) ?_
  refine J_callV (d' := 2) (sr := fun z => [vI z]) (as := [vI 3]) (st := []) (o := 0) 43 rfl ok_X11_refuseAct im_X11_refuseAct se_X11_refuseAct ml_11_121 isC_11 ob_0 (Ob.lt ob_0) rfl (by decide) ⟨Nat.le_refl _, Nat.le_refl _⟩ (Nat.le_of_ble_eq_true rfl) (D_X11_rake_0.at 20 rfl) (fun _ => rfl) T (fun r47 h48 T b49 => ?_)
  replace T := T b49
  exact J_zret rfl b49 (D_X11_rake_0.at 21 rfl) T
theorem c_X11_undo {w : Wd} {h : Hp} {K : Int → Hp → Prop} (T : C_X5_giveBack w 40 h (fun r1 h2 => (r1 = 0 ∨ r1 = 1) → ((r1 ≠ 0) → (K 1 h2)) ∧ (¬ (r1 ≠ 0) → (C_X11_refuseAct w 4 h2 (fun r4 h5 => (r4 = 0 ∨ r4 = 1) → ((r4 = 0) → (K 0 h5)) ∧ (¬ (r4 = 0) → (K 1 h5))))))) : C_X11_undo w h K := by
  refine CGm_of2 (by decide) (by decide) trivial (Nat.le_of_ble_eq_true rfl) ?_
  refine J_aload_n 1 rfl 0 0 rfl ⟨by decide, by decide⟩ (D_X11_undo_0.at 0 rfl) ?_
  refine J_getF (ov := 50) (dd := 1050) 4 rfl fl_11_55 rfl (by decide) rfl ob_0 (Ob.lt ob_0) (D_X11_undo_0.at 1 rfl) ?_
  refine J_aload_n 5 rfl 0 0 rfl ⟨by decide, by decide⟩ (D_X11_undo_0.at 2 rfl) ?_
  refine J_getF (ov := 40) (dd := 1040) 8 rfl fl_11_45 rfl (by decide) rfl ob_0 (Ob.lt ob_0) (D_X11_undo_0.at 3 rfl) ?_
  refine J_callV (d' := 1) (sr := fun z => [vI z]) (as := [vR 40]) (st := []) (o := 50) 11 rfl ok_X5_giveBack im_X5_giveBack se_X5_giveBack ml_11_309 isC_5 ob_50 (Ob.lt ob_50) rfl (by decide) ⟨Nat.le_refl _, Nat.le_refl _⟩ (Nat.le_of_ble_eq_true rfl) (D_X11_undo_0.at 4 rfl) (fun _ => rfl) T (fun r1 h2 T b3 => ?_)
  replace T := T b3
  refine J_if_ne 14 rfl 22 (inR_b b3) (D_X11_undo_0.at 5 rfl) (by decide) (fun c8 => ?_) (fun c8 => ?_)
  · replace T := T.1 c8
    refine J_iconst 23 rfl (D_X11_undo_0.at 10 rfl) ?_
    refine J_goto 27 (D_X11_undo_0.at 11 rfl) (by decide) ?_
    exact J_zret rfl (Or.inr rfl) (D_X11_undo_0.at 13 rfl) T
  replace T := T.2 c8
  refine J_aload_n 15 rfl 0 0 rfl ⟨by decide, by decide⟩ (D_X11_undo_0.at 6 rfl) ?_
  refine J_iconst 16 rfl (D_X11_undo_0.at 7 rfl) ?_
  refine J_callV (d' := 2) (sr := fun z => [vI z]) (as := [vI 4]) (st := []) (o := 0) 19 rfl ok_X11_refuseAct im_X11_refuseAct se_X11_refuseAct ml_11_121 isC_11 ob_0 (Ob.lt ob_0) rfl (by decide) ⟨Nat.le_refl _, Nat.le_refl _⟩ (Nat.le_of_ble_eq_true rfl) (D_X11_undo_0.at 8 rfl) (fun _ => rfl) T (fun r4 h5 T b6 => ?_)
  replace T := T b6
  refine J_if_eq 22 rfl 26 (inR_b b6) (D_X11_undo_0.at 9 rfl) (by decide) (fun c7 => ?_) (fun c7 => ?_)
  · replace T := T.1 c7
    refine J_iconst 27 rfl (D_X11_undo_0.at 12 rfl) ?_
    exact J_zret rfl (Or.inl rfl) (D_X11_undo_0.at 13 rfl) T
  replace T := T.2 c7
  refine J_iconst 23 rfl (D_X11_undo_0.at 10 rfl) ?_
  refine J_goto 27 (D_X11_undo_0.at 11 rfl) (by decide) ?_
  exact J_zret rfl (Or.inr rfl) (D_X11_undo_0.at 13 rfl) T
theorem c_X11_seed {w : Wd} {a1 : Int} {h : Hp} {K : Int → Hp → Prop} (T : (inR a1) ∧ (((a1 ≥ 0) → (∀ h2 : Hp, h2 = hu h 0 17 a1 → K 1 h2)) ∧ (¬ (a1 ≥ 0) → (C_X11_refuseAct w 5 h (fun r4 h5 => (r4 = 0 ∨ r4 = 1) → K r4 h5))))) : C_X11_seed w a1 h K := by
  refine CGm_of2 (by decide) (by decide) trivial (Nat.le_of_ble_eq_true rfl) ?_
  refine J_iload_n 1 rfl 1 1 rfl (D_X11_seed_0.at 0 rfl) ?_
  obtain ⟨s1, T⟩ := T
  refine J_if_ge 4 rfl 10 s1 (D_X11_seed_0.at 1 rfl) (by decide) (fun c7 => ?_) (fun c7 => ?_)
  · replace T := T.1 c7
    refine J_aload_n 11 rfl 0 0 rfl ⟨by decide, by decide⟩ (D_X11_seed_0.at 6 rfl) ?_
    refine J_iload_n 12 rfl 1 1 rfl (D_X11_seed_0.at 7 rfl) ?_
    refine J_putI 15 rfl fl_11_76 rfl rfl ob_0 (Ob.lt ob_0) (D_X11_seed_0.at 8 rfl) (fun h2 e3 => ?_)
    replace T := T h2 e3
    refine J_iconst 16 rfl (D_X11_seed_0.at 9 rfl) ?_
    exact J_zret rfl (Or.inr rfl) (D_X11_seed_0.at 10 rfl) T
  replace T := T.2 c7
  refine J_aload_n 5 rfl 0 0 rfl ⟨by decide, by decide⟩ (D_X11_seed_0.at 2 rfl) ?_
  refine J_iconst 6 rfl (D_X11_seed_0.at 3 rfl) ?_
  refine J_callV (d' := 2) (sr := fun z => [vI z]) (as := [vI 5]) (st := []) (o := 0) 9 rfl ok_X11_refuseAct im_X11_refuseAct se_X11_refuseAct ml_11_121 isC_11 ob_0 (Ob.lt ob_0) rfl (by decide) ⟨Nat.le_refl _, Nat.le_refl _⟩ (Nat.le_of_ble_eq_true rfl) (D_X11_seed_0.at 4 rfl) (fun _ => rfl) T (fun r4 h5 T b6 => ?_)
  replace T := T b6
  exact J_zret rfl b6 (D_X11_seed_0.at 5 rfl) T
theorem c_X11_find {w : Wd} {h : Hp} {K : Int → Hp → Prop} (T : (Ob 7 (h 0 4)) ∧ ((inR (h (h 0 4) 12)) ∧ ((((h (h 0 4) 12) ≤ 0) → (L_X11_find_37 w 0 0 h K)) ∧ (¬ ((h (h 0 4) 12) ≤ 0) → ((Ob 7 (h 0 4)) ∧ ((inR (h 1 1)) ∧ ((inR (2 * (h (h 0 4) 12))) ∧ ((((h 1 1) ≠ (2 * (h (h 0 4) 12))) → (L_X11_find_37 w 0 0 h K)) ∧ (¬ ((h 1 1) ≠ (2 * (h (h 0 4) 12))) → (L_X11_find_37 w 1 0 h K)))))))))) : C_X11_find w h K := by
  refine CGm_of2 (by decide) (by decide) trivial (Nat.le_of_ble_eq_true rfl) ?_
  refine J_aload_n 1 rfl 0 0 rfl ⟨by decide, by decide⟩ (D_X11_find_0.at 0 rfl) ?_
  obtain ⟨s1, T⟩ := T
  refine J_getR (z := (h 0 4)) 4 rfl fl_11_35 rfl ob_0 (Ob.lt ob_0) (D_X11_find_0.at 1 rfl) rfl ?_
  refine J_getI (z := (h (h 0 4) 12)) 7 rfl fl_11_151 rfl s1 (Ob.lt s1) (D_X11_find_0.at 2 rfl) rfl ?_
  obtain ⟨s2, T⟩ := T
  refine J_if_le 10 rfl 33 s2 (D_X11_find_0.at 3 rfl) (by decide) (fun c7 => ?_) (fun c7 => ?_)
  · replace T := T.1 c7
    refine J_iconst 34 rfl (D_X11_find_0.at 15 rfl) ?_
    refine J_istore_n (lv' := [(1, vI 0), (0, vR 0)]) 35 rfl 1 (by decide) rfl (D_X11_find_0.at 16 rfl) ?_
    refine J_iconst 36 rfl (D_X11_find_0.at 17 rfl) ?_
    refine J_istore_n (lv' := [(2, vI 0), (1, vI 0), (0, vR 0)]) 37 rfl 2 (by decide) rfl (D_X11_find_0.at 18 rfl) ?_
    exact J_sub (lv' := [(0, vR 0), (1, vI 0), (2, vI 0)]) [2, 1, 0] rfl T
  replace T := T.2 c7
  refine J_aload_n 11 rfl 0 0 rfl ⟨by decide, by decide⟩ (D_X11_find_0.at 4 rfl) ?_
  refine J_getF (ov := 1) (dd := 1001) 14 rfl fl_11_12 rfl (by decide) rfl ob_0 (Ob.lt ob_0) (D_X11_find_0.at 5 rfl) ?_
  refine J_getI (z := (h 1 1)) 17 rfl fl_11_110 rfl ob_1 (Ob.lt ob_1) (D_X11_find_0.at 6 rfl) rfl ?_
  refine J_iconst 18 rfl (D_X11_find_0.at 7 rfl) ?_
  refine J_aload_n 19 rfl 0 0 rfl ⟨by decide, by decide⟩ (D_X11_find_0.at 8 rfl) ?_
  obtain ⟨s3, T⟩ := T
  refine J_getR (z := (h 0 4)) 22 rfl fl_11_35 rfl ob_0 (Ob.lt ob_0) (D_X11_find_0.at 9 rfl) rfl ?_
  refine J_getI (z := (h (h 0 4) 12)) 25 rfl fl_11_151 rfl s3 (Ob.lt s3) (D_X11_find_0.at 10 rfl) rfl ?_
  refine J_imul 26 rfl (D_X11_find_0.at 11 rfl) ?_
  obtain ⟨s4, T⟩ := T
  obtain ⟨s5, T⟩ := T
  refine J_icmp_ne 29 rfl 33 s4 s5 (D_X11_find_0.at 12 rfl) (by decide) (fun c6 => ?_) (fun c6 => ?_)
  · replace T := T.1 c6
    refine J_iconst 34 rfl (D_X11_find_0.at 15 rfl) ?_
    refine J_istore_n (lv' := [(1, vI 0), (0, vR 0)]) 35 rfl 1 (by decide) rfl (D_X11_find_0.at 16 rfl) ?_
    refine J_iconst 36 rfl (D_X11_find_0.at 17 rfl) ?_
    refine J_istore_n (lv' := [(2, vI 0), (1, vI 0), (0, vR 0)]) 37 rfl 2 (by decide) rfl (D_X11_find_0.at 18 rfl) ?_
    exact J_sub (lv' := [(0, vR 0), (1, vI 0), (2, vI 0)]) [2, 1, 0] rfl T
  replace T := T.2 c6
  refine J_iconst 30 rfl (D_X11_find_0.at 13 rfl) ?_
  refine J_goto 34 (D_X11_find_0.at 14 rfl) (by decide) ?_
  refine J_istore_n (lv' := [(1, vI 1), (0, vR 0)]) 35 rfl 1 (by decide) rfl (D_X11_find_0.at 16 rfl) ?_
  refine J_iconst 36 rfl (D_X11_find_0.at 17 rfl) ?_
  refine J_istore_n (lv' := [(2, vI 0), (1, vI 1), (0, vR 0)]) 37 rfl 2 (by decide) rfl (D_X11_find_0.at 18 rfl) ?_
  exact J_sub (lv' := [(0, vR 0), (1, vI 1), (2, vI 0)]) [2, 1, 0] rfl T
theorem l_X11_find_37 {w : Wd} {v1 v2 : Int} {h : Hp} {K : Int → Hp → Prop} (T : (inR v1) ∧ (((v1 = 0) → ((inR (h 0 15)) ∧ ((((h 0 15) ≠ 0) → (∀ h10 : Hp, h10 = hu h 0 15 1 → ∀ h12 : Hp, h12 = hu h10 1 1 0 → (v1 = 0 ∨ v1 = 1) ∧ (K v1 h12))) ∧ (¬ ((h 0 15) ≠ 0) → ((inR v1) ∧ (((v1 = 0) → (∀ h16 : Hp, h16 = hu h 0 15 0 → ∀ h18 : Hp, h18 = hu h16 1 1 0 → (v1 = 0 ∨ v1 = 1) ∧ (K v1 h18))) ∧ (¬ (v1 = 0) → (∀ h21 : Hp, h21 = hu h 0 15 1 → ∀ h23 : Hp, h23 = hu h21 1 1 0 → (v1 = 0 ∨ v1 = 1) ∧ (K v1 h23))))))))) ∧ (¬ (v1 = 0) → ((Ob 7 (h 0 4)) ∧ ((inR v2) ∧ ((inR (h (h 0 4) 12)) ∧ (((v2 ≥ (h (h 0 4) 12)) → ((inR (h 0 15)) ∧ ((((h 0 15) ≠ 0) → (∀ h32 : Hp, h32 = hu h 0 15 1 → ∀ h34 : Hp, h34 = hu h32 1 1 0 → (v1 = 0 ∨ v1 = 1) ∧ (K v1 h34))) ∧ (¬ ((h 0 15) ≠ 0) → ((inR v1) ∧ (((v1 = 0) → (∀ h38 : Hp, h38 = hu h 0 15 0 → ∀ h40 : Hp, h40 = hu h38 1 1 0 → (v1 = 0 ∨ v1 = 1) ∧ (K v1 h40))) ∧ (¬ (v1 = 0) → (∀ h43 : Hp, h43 = hu h 0 15 1 → ∀ h45 : Hp, h45 = hu h43 1 1 0 → (v1 = 0 ∨ v1 = 1) ∧ (K v1 h45))))))))) ∧ (¬ (v2 ≥ (h (h 0 4) 12)) → (C_X10_twoAt w (2 * v2) h (fun r50 h51 => (0 ≤ v2 ∧ v2 < 8) ∧ (∀ h54 : Hp, h54 = hu h51 57 v2 r50 → L_X11_find_37 w v1 (v2 + 1) h54 K))))))))))) : L_X11_find_37 w v1 v2 h K := by
  unfold L_X11_find_37
  refine J_iload_n 38 rfl 1 1 rfl (D_X11_find_0.at 19 rfl) ?_
  obtain ⟨s8, T⟩ := T
  refine J_if_eq 41 rfl 74 s8 (D_X11_find_0.at 20 rfl) (by decide) (fun c57 => ?_) (fun c57 => ?_)
  · replace T := T.1 c57
    refine J_aload_n 75 rfl 0 0 rfl ⟨by decide, by decide⟩ (D_X11_find_0.at 38 rfl) ?_
    refine J_aload_n 76 rfl 0 0 rfl ⟨by decide, by decide⟩ (D_X11_find_0.at 39 rfl) ?_
    refine J_getI (z := (h 0 15)) 79 rfl fl_11_141 rfl ob_0 (Ob.lt ob_0) (D_X11_find_0.at 40 rfl) rfl ?_
    obtain ⟨s9, T⟩ := T
    refine J_if_ne 82 rfl 86 s9 (D_X11_find_0.at 41 rfl) (by decide) (fun c27 => ?_) (fun c27 => ?_)
    · replace T := T.1 c27
      refine J_iconst 87 rfl (D_X11_find_0.at 44 rfl) ?_
      refine J_goto 91 (D_X11_find_0.at 45 rfl) (by decide) ?_
      refine J_putZ 94 rfl fl_11_141 rfl rfl (Or.inr rfl) ob_0 (Ob.lt ob_0) (D_X11_find_0.at 47 rfl) (fun h10 e11 => ?_)
      replace T := T h10 e11
      refine J_aload_n 95 rfl 0 0 rfl ⟨by decide, by decide⟩ (D_X11_find_1.at 0 rfl) ?_
      refine J_getF (ov := 1) (dd := 1001) 98 rfl fl_11_12 rfl (by decide) rfl ob_0 (Ob.lt ob_0) (D_X11_find_1.at 1 rfl) ?_
      refine J_iconst 99 rfl (D_X11_find_1.at 2 rfl) ?_
      refine J_putI 102 rfl fl_11_110 rfl rfl ob_1 (Ob.lt ob_1) (D_X11_find_1.at 3 rfl) (fun h12 e13 => ?_)
      replace T := T h12 e13
      refine J_iload_n 103 rfl 1 1 rfl (D_X11_find_1.at 4 rfl) ?_
      obtain ⟨s14, T⟩ := T
      exact J_zret rfl s14 (D_X11_find_1.at 5 rfl) T
    replace T := T.2 c27
    refine J_iload_n 83 rfl 1 1 rfl (D_X11_find_0.at 42 rfl) ?_
    obtain ⟨s15, T⟩ := T
    refine J_if_eq 86 rfl 90 s15 (D_X11_find_0.at 43 rfl) (by decide) (fun c26 => ?_) (fun c26 => ?_)
    · replace T := T.1 c26
      refine J_iconst 91 rfl (D_X11_find_0.at 46 rfl) ?_
      refine J_putZ 94 rfl fl_11_141 rfl rfl (Or.inl rfl) ob_0 (Ob.lt ob_0) (D_X11_find_0.at 47 rfl) (fun h16 e17 => ?_)
      replace T := T h16 e17
      refine J_aload_n 95 rfl 0 0 rfl ⟨by decide, by decide⟩ (D_X11_find_1.at 0 rfl) ?_
      refine J_getF (ov := 1) (dd := 1001) 98 rfl fl_11_12 rfl (by decide) rfl ob_0 (Ob.lt ob_0) (D_X11_find_1.at 1 rfl) ?_
      refine J_iconst 99 rfl (D_X11_find_1.at 2 rfl) ?_
      refine J_putI 102 rfl fl_11_110 rfl rfl ob_1 (Ob.lt ob_1) (D_X11_find_1.at 3 rfl) (fun h18 e19 => ?_)
      replace T := T h18 e19
      refine J_iload_n 103 rfl 1 1 rfl (D_X11_find_1.at 4 rfl) ?_
      obtain ⟨s20, T⟩ := T
      exact J_zret rfl s20 (D_X11_find_1.at 5 rfl) T
    replace T := T.2 c26
    refine J_iconst 87 rfl (D_X11_find_0.at 44 rfl) ?_
    refine J_goto 91 (D_X11_find_0.at 45 rfl) (by decide) ?_
    refine J_putZ 94 rfl fl_11_141 rfl rfl (Or.inr rfl) ob_0 (Ob.lt ob_0) (D_X11_find_0.at 47 rfl) (fun h21 e22 => ?_)
    replace T := T h21 e22
    refine J_aload_n 95 rfl 0 0 rfl ⟨by decide, by decide⟩ (D_X11_find_1.at 0 rfl) ?_
    refine J_getF (ov := 1) (dd := 1001) 98 rfl fl_11_12 rfl (by decide) rfl ob_0 (Ob.lt ob_0) (D_X11_find_1.at 1 rfl) ?_
    refine J_iconst 99 rfl (D_X11_find_1.at 2 rfl) ?_
    refine J_putI 102 rfl fl_11_110 rfl rfl ob_1 (Ob.lt ob_1) (D_X11_find_1.at 3 rfl) (fun h23 e24 => ?_)
    replace T := T h23 e24
    refine J_iload_n 103 rfl 1 1 rfl (D_X11_find_1.at 4 rfl) ?_
    obtain ⟨s25, T⟩ := T
    exact J_zret rfl s25 (D_X11_find_1.at 5 rfl) T
  replace T := T.2 c57
  refine J_iload_n 42 rfl 2 2 rfl (D_X11_find_0.at 21 rfl) ?_
  refine J_aload_n 43 rfl 0 0 rfl ⟨by decide, by decide⟩ (D_X11_find_0.at 22 rfl) ?_
  obtain ⟨s28, T⟩ := T
  refine J_getR (z := (h 0 4)) 46 rfl fl_11_35 rfl ob_0 (Ob.lt ob_0) (D_X11_find_0.at 23 rfl) rfl ?_
  refine J_getI (z := (h (h 0 4) 12)) 49 rfl fl_11_151 rfl s28 (Ob.lt s28) (D_X11_find_0.at 24 rfl) rfl ?_
  obtain ⟨s29, T⟩ := T
  obtain ⟨s30, T⟩ := T
  refine J_icmp_ge 52 rfl 74 s29 s30 (D_X11_find_0.at 25 rfl) (by decide) (fun c56 => ?_) (fun c56 => ?_)
  · replace T := T.1 c56
    refine J_aload_n 75 rfl 0 0 rfl ⟨by decide, by decide⟩ (D_X11_find_0.at 38 rfl) ?_
    refine J_aload_n 76 rfl 0 0 rfl ⟨by decide, by decide⟩ (D_X11_find_0.at 39 rfl) ?_
    refine J_getI (z := (h 0 15)) 79 rfl fl_11_141 rfl ob_0 (Ob.lt ob_0) (D_X11_find_0.at 40 rfl) rfl ?_
    obtain ⟨s31, T⟩ := T
    refine J_if_ne 82 rfl 86 s31 (D_X11_find_0.at 41 rfl) (by decide) (fun c49 => ?_) (fun c49 => ?_)
    · replace T := T.1 c49
      refine J_iconst 87 rfl (D_X11_find_0.at 44 rfl) ?_
      refine J_goto 91 (D_X11_find_0.at 45 rfl) (by decide) ?_
      refine J_putZ 94 rfl fl_11_141 rfl rfl (Or.inr rfl) ob_0 (Ob.lt ob_0) (D_X11_find_0.at 47 rfl) (fun h32 e33 => ?_)
      replace T := T h32 e33
      refine J_aload_n 95 rfl 0 0 rfl ⟨by decide, by decide⟩ (D_X11_find_1.at 0 rfl) ?_
      refine J_getF (ov := 1) (dd := 1001) 98 rfl fl_11_12 rfl (by decide) rfl ob_0 (Ob.lt ob_0) (D_X11_find_1.at 1 rfl) ?_
      refine J_iconst 99 rfl (D_X11_find_1.at 2 rfl) ?_
      refine J_putI 102 rfl fl_11_110 rfl rfl ob_1 (Ob.lt ob_1) (D_X11_find_1.at 3 rfl) (fun h34 e35 => ?_)
      replace T := T h34 e35
      refine J_iload_n 103 rfl 1 1 rfl (D_X11_find_1.at 4 rfl) ?_
      obtain ⟨s36, T⟩ := T
      exact J_zret rfl s36 (D_X11_find_1.at 5 rfl) T
    replace T := T.2 c49
    refine J_iload_n 83 rfl 1 1 rfl (D_X11_find_0.at 42 rfl) ?_
    obtain ⟨s37, T⟩ := T
    refine J_if_eq 86 rfl 90 s37 (D_X11_find_0.at 43 rfl) (by decide) (fun c48 => ?_) (fun c48 => ?_)
    · replace T := T.1 c48
      refine J_iconst 91 rfl (D_X11_find_0.at 46 rfl) ?_
      refine J_putZ 94 rfl fl_11_141 rfl rfl (Or.inl rfl) ob_0 (Ob.lt ob_0) (D_X11_find_0.at 47 rfl) (fun h38 e39 => ?_)
      replace T := T h38 e39
      refine J_aload_n 95 rfl 0 0 rfl ⟨by decide, by decide⟩ (D_X11_find_1.at 0 rfl) ?_
      refine J_getF (ov := 1) (dd := 1001) 98 rfl fl_11_12 rfl (by decide) rfl ob_0 (Ob.lt ob_0) (D_X11_find_1.at 1 rfl) ?_
      refine J_iconst 99 rfl (D_X11_find_1.at 2 rfl) ?_
      refine J_putI 102 rfl fl_11_110 rfl rfl ob_1 (Ob.lt ob_1) (D_X11_find_1.at 3 rfl) (fun h40 e41 => ?_)
      replace T := T h40 e41
      refine J_iload_n 103 rfl 1 1 rfl (D_X11_find_1.at 4 rfl) ?_
      obtain ⟨s42, T⟩ := T
      exact J_zret rfl s42 (D_X11_find_1.at 5 rfl) T
    replace T := T.2 c48
    refine J_iconst 87 rfl (D_X11_find_0.at 44 rfl) ?_
    refine J_goto 91 (D_X11_find_0.at 45 rfl) (by decide) ?_
    refine J_putZ 94 rfl fl_11_141 rfl rfl (Or.inr rfl) ob_0 (Ob.lt ob_0) (D_X11_find_0.at 47 rfl) (fun h43 e44 => ?_)
    replace T := T h43 e44
    refine J_aload_n 95 rfl 0 0 rfl ⟨by decide, by decide⟩ (D_X11_find_1.at 0 rfl) ?_
    refine J_getF (ov := 1) (dd := 1001) 98 rfl fl_11_12 rfl (by decide) rfl ob_0 (Ob.lt ob_0) (D_X11_find_1.at 1 rfl) ?_
    refine J_iconst 99 rfl (D_X11_find_1.at 2 rfl) ?_
    refine J_putI 102 rfl fl_11_110 rfl rfl ob_1 (Ob.lt ob_1) (D_X11_find_1.at 3 rfl) (fun h45 e46 => ?_)
    replace T := T h45 e46
    refine J_iload_n 103 rfl 1 1 rfl (D_X11_find_1.at 4 rfl) ?_
    obtain ⟨s47, T⟩ := T
    exact J_zret rfl s47 (D_X11_find_1.at 5 rfl) T
  replace T := T.2 c56
  refine J_aload_n 53 rfl 0 0 rfl ⟨by decide, by decide⟩ (D_X11_find_0.at 26 rfl) ?_
  refine J_getF (ov := 57) (dd := 1057) 56 rfl fl_11_66 rfl (by decide) rfl ob_0 (Ob.lt ob_0) (D_X11_find_0.at 27 rfl) ?_
  refine J_iload_n 57 rfl 2 2 rfl (D_X11_find_0.at 28 rfl) ?_
  refine J_aload_n 58 rfl 0 0 rfl ⟨by decide, by decide⟩ (D_X11_find_0.at 29 rfl) ?_
  refine J_getF (ov := 1) (dd := 1001) 61 rfl fl_11_12 rfl (by decide) rfl ob_0 (Ob.lt ob_0) (D_X11_find_0.at 30 rfl) ?_
  refine J_iconst 62 rfl (D_X11_find_0.at 31 rfl) ?_
  refine J_iload_n 63 rfl 2 2 rfl (D_X11_find_0.at 32 rfl) ?_
  refine J_imul 64 rfl (D_X11_find_0.at 33 rfl) ?_
  refine J_callV (d' := 2) (sr := fun z => [vI z, vI v2, vR 57]) (as := [vI (2 * v2)]) (st := [vI v2, vR 57]) (o := 1) 67 rfl ok_X10_twoAt im_X10_twoAt se_X10_twoAt ml_11_334 isC_10 ob_1 (Ob.lt ob_1) rfl (by decide) ⟨Nat.le_refl _, Nat.le_refl _⟩ (Nat.le_of_ble_eq_true rfl) (D_X11_find_0.at 34 rfl) (fun _ => rfl) T (fun r50 h51 T b52 => ?_)
  obtain ⟨s53, T⟩ := T
  refine J_iastH 68 rfl ar_57 (Ar.lt ar_57) s53 trivial (D_X11_find_0.at 35 rfl) (fun h54 e55 => ?_)
  replace T := T h54 e55
  refine J_iinc (v := (v2 + 1)) (lv' := [(2, vI (v2 + 1)), (0, vR 0), (1, vI v1)]) 71 rfl 2 2 1 rfl rfl (by decide) rfl (D_X11_find_0.at 36 rfl) ?_
  refine J_goto 37 (D_X11_find_0.at 37 rfl) (by decide) ?_
  exact J_sub (lv' := [(0, vR 0), (1, vI v1), (2, vI (v2 + 1))]) [1, 2, 0] rfl T
theorem c_X11_toldAbove {w : Wd} {a1 : Int} {h : Hp} {K : Int → Hp → Prop} (T : L_X11_toldAbove_4 w a1 0 0 h K) : C_X11_toldAbove w a1 h K := by
  refine CGm_of2 (by decide) (by decide) trivial (Nat.le_of_ble_eq_true rfl) ?_
  refine J_iconst 1 rfl (D_X11_toldAbove_0.at 0 rfl) ?_
  refine J_istore_n (lv' := [(2, vI 0), (0, vR 0), (1, vI a1)]) 2 rfl 2 (by decide) rfl (D_X11_toldAbove_0.at 1 rfl) ?_
  refine J_iconst 3 rfl (D_X11_toldAbove_0.at 2 rfl) ?_
  refine J_istore_n (lv' := [(3, vI 0), (2, vI 0), (0, vR 0), (1, vI a1)]) 4 rfl 3 (by decide) rfl (D_X11_toldAbove_0.at 3 rfl) ?_
  exact J_sub (lv' := [(0, vR 0), (1, vI a1), (2, vI 0), (3, vI 0)]) [2, 3, 1, 0] rfl T
theorem l_X11_toldAbove_4 {w : Wd} {v1 v2 v3 : Int} {h : Hp} {K : Int → Hp → Prop} (T : (Ob 7 (h 0 4)) ∧ ((inR v3) ∧ ((inR (h ((h 0 4) + 3) 1)) ∧ (((v3 ≥ (h ((h 0 4) + 3) 1)) → (K v2 h)) ∧ (¬ (v3 ≥ (h ((h 0 4) + 3) 1)) → (C_X10_twoAt w (2 * v3) h (fun r4 h5 => (Ob 7 (h5 0 4)) ∧ (C_X9_coloured w 40 (h5 0 4) v1 v3 h5 (fun r8 h9 => (inR (r4 - r8)) ∧ (L_X11_toldAbove_4 w v1 (v2 + (max 0 (r4 - r8))) (v3 + 1) h9 K)))))))))) : L_X11_toldAbove_4 w v1 v2 v3 h K := by
  unfold L_X11_toldAbove_4
  refine J_iload_n 5 rfl 3 3 rfl (D_X11_toldAbove_0.at 4 rfl) ?_
  refine J_aload_n 6 rfl 0 0 rfl ⟨by decide, by decide⟩ (D_X11_toldAbove_0.at 5 rfl) ?_
  obtain ⟨s1, T⟩ := T
  refine J_getR (z := (h 0 4)) 9 rfl fl_11_35 rfl ob_0 (Ob.lt ob_0) (D_X11_toldAbove_0.at 6 rfl) rfl ?_
  refine J_getF (ov := ((h 0 4) + 3)) (dd := 1003) 12 rfl fl_11_163 rfl (by decide) rfl s1 (Ob.lt s1) (D_X11_toldAbove_0.at 7 rfl) ?_
  refine J_getI (z := (h ((h 0 4) + 3) 1)) 15 rfl fl_11_158 rfl (of_7_1 s1) (Ob.lt (of_7_1 s1)) (D_X11_toldAbove_0.at 8 rfl) rfl ?_
  obtain ⟨s2, T⟩ := T
  obtain ⟨s3, T⟩ := T
  refine J_icmp_ge 18 rfl 55 s2 s3 (D_X11_toldAbove_0.at 9 rfl) (by decide) (fun c12 => ?_) (fun c12 => ?_)
  · replace T := T.1 c12
    refine J_iload_n 56 rfl 2 2 rfl (D_X11_toldAbove_0.at 31 rfl) ?_
    exact J_iret rfl (D_X11_toldAbove_0.at 32 rfl) T
  replace T := T.2 c12
  refine J_iload_n 19 rfl 2 2 rfl (D_X11_toldAbove_0.at 10 rfl) ?_
  refine J_iconst 20 rfl (D_X11_toldAbove_0.at 11 rfl) ?_
  refine J_aload_n 21 rfl 0 0 rfl ⟨by decide, by decide⟩ (D_X11_toldAbove_0.at 12 rfl) ?_
  refine J_getF (ov := 1) (dd := 1001) 24 rfl fl_11_12 rfl (by decide) rfl ob_0 (Ob.lt ob_0) (D_X11_toldAbove_0.at 13 rfl) ?_
  refine J_iconst 25 rfl (D_X11_toldAbove_0.at 14 rfl) ?_
  refine J_iload_n 26 rfl 3 3 rfl (D_X11_toldAbove_0.at 15 rfl) ?_
  refine J_imul 27 rfl (D_X11_toldAbove_0.at 16 rfl) ?_
  refine J_callV (d' := 2) (sr := fun z => [vI z, vI 0, vI v2]) (as := [vI (2 * v3)]) (st := [vI 0, vI v2]) (o := 1) 30 rfl ok_X10_twoAt im_X10_twoAt se_X10_twoAt ml_11_334 isC_10 ob_1 (Ob.lt ob_1) rfl (by decide) ⟨Nat.le_refl _, Nat.le_refl _⟩ (Nat.le_of_ble_eq_true rfl) (D_X11_toldAbove_0.at 17 rfl) (fun _ => rfl) T (fun r4 h5 T b6 => ?_)
  refine J_aload_n 31 rfl 0 0 rfl ⟨by decide, by decide⟩ (D_X11_toldAbove_0.at 18 rfl) ?_
  refine J_getF (ov := 40) (dd := 1040) 34 rfl fl_11_45 rfl (by decide) rfl ob_0 (Ob.lt ob_0) (D_X11_toldAbove_0.at 19 rfl) ?_
  refine J_aload_n 35 rfl 0 0 rfl ⟨by decide, by decide⟩ (D_X11_toldAbove_0.at 20 rfl) ?_
  obtain ⟨s7, T⟩ := T
  refine J_getR (z := (h5 0 4)) 38 rfl fl_11_35 rfl ob_0 (Ob.lt ob_0) (D_X11_toldAbove_0.at 21 rfl) rfl ?_
  refine J_iload_n 39 rfl 1 1 rfl (D_X11_toldAbove_0.at 22 rfl) ?_
  refine J_iload_n 40 rfl 3 3 rfl (D_X11_toldAbove_0.at 23 rfl) ?_
  refine J_callV (d' := 2) (sr := fun z => [vI z, vI r4, vI 0, vI v2]) (as := [vR (h5 0 4), vI v1, vI v3]) (st := [vI r4, vI 0, vI v2]) (o := 40) 43 rfl ok_X9_coloured im_X9_coloured se_X9_coloured ml_11_260 isC_9 ob_40 (Ob.lt ob_40) rfl (by decide) ⟨Nat.le_refl _, Nat.le_refl _⟩ (Nat.le_of_ble_eq_true rfl) (D_X11_toldAbove_0.at 24 rfl) (fun _ => rfl) T (fun r8 h9 T b10 => ?_)
  refine J_isub 44 rfl (D_X11_toldAbove_0.at 25 rfl) ?_
  obtain ⟨s11, T⟩ := T
  refine J_maxE 47 rfl ml_11_382 ⟨by decide, by decide⟩ s11 (Nat.le_of_ble_eq_true rfl) (by decide) (D_X11_toldAbove_0.at 26 rfl) ?_
  refine J_iadd 48 rfl (D_X11_toldAbove_0.at 27 rfl) ?_
  refine J_istore_n (lv' := [(2, vI (v2 + (max 0 (r4 - r8)))), (0, vR 0), (1, vI v1), (3, vI v3)]) 49 rfl 2 (by decide) rfl (D_X11_toldAbove_0.at 28 rfl) ?_
  refine J_iinc (v := (v3 + 1)) (lv' := [(3, vI (v3 + 1)), (2, vI (v2 + (max 0 (r4 - r8)))), (0, vR 0), (1, vI v1)]) 52 rfl 3 3 1 rfl rfl (by decide) rfl (D_X11_toldAbove_0.at 29 rfl) ?_
  refine J_goto 4 (D_X11_toldAbove_0.at 30 rfl) (by decide) ?_
  exact J_sub (lv' := [(0, vR 0), (1, vI v1), (2, vI (v2 + (max 0 (r4 - r8)))), (3, vI (v3 + 1))]) [2, 3, 1, 0] rfl T
theorem c_X11_image {w : Wd} {h : Hp} {K : Int → Hp → Prop} (T : ∀ h1 : Hp, h1 = hu h 0 16 0 → C_X11_writeTwo w (h1 40 4) h1 (fun _ h4 => L_X11_image_18 w 0 h4 K)) : C_X11_image w h K := by
  refine CGm_of2 (by decide) (by decide) trivial (Nat.le_of_ble_eq_true rfl) ?_
  refine J_aload_n 1 rfl 0 0 rfl ⟨by decide, by decide⟩ (D_X11_image_0.at 0 rfl) ?_
  refine J_iconst 2 rfl (D_X11_image_0.at 1 rfl) ?_
  refine J_putI 5 rfl fl_11_351 rfl rfl ob_0 (Ob.lt ob_0) (D_X11_image_0.at 2 rfl) (fun h1 e2 => ?_)
  replace T := T h1 e2
  refine J_aload_n 6 rfl 0 0 rfl ⟨by decide, by decide⟩ (D_X11_image_0.at 3 rfl) ?_
  refine J_aload_n 7 rfl 0 0 rfl ⟨by decide, by decide⟩ (D_X11_image_0.at 4 rfl) ?_
  refine J_getF (ov := 40) (dd := 1040) 10 rfl fl_11_45 rfl (by decide) rfl ob_0 (Ob.lt ob_0) (D_X11_image_0.at 5 rfl) ?_
  refine J_getI (z := (h1 40 4)) 13 rfl fl_11_178 rfl ob_40 (Ob.lt ob_40) (D_X11_image_0.at 6 rfl) rfl ?_
  refine J_callV (d' := 2) (sr := fun z => []) (as := [vI (h1 40 4)]) (st := []) (o := 0) 16 rfl ok_X11_writeTwo im_X11_writeTwo se_X11_writeTwo ml_11_354 isC_11 ob_0 (Ob.lt ob_0) rfl (by decide) ⟨Nat.le_refl _, Nat.le_refl _⟩ (Nat.le_of_ble_eq_true rfl) (D_X11_image_0.at 7 rfl) (fun _ => rfl) T (fun r3 h4 T b5 => ?_)
  refine J_iconst 17 rfl (D_X11_image_0.at 8 rfl) ?_
  refine J_istore_n (lv' := [(1, vI 0), (0, vR 0)]) 18 rfl 1 (by decide) rfl (D_X11_image_0.at 9 rfl) ?_
  exact J_sub (lv' := [(0, vR 0), (1, vI 0)]) [1, 0] rfl T
theorem l_X11_image_18 {w : Wd} {v1 : Int} {h : Hp} {K : Int → Hp → Prop} (T : (Ob 7 (h 0 4)) ∧ ((inR v1) ∧ ((inR (h (h 0 4) 12)) ∧ (((v1 ≥ (h (h 0 4) 12)) → (L_X11_image_89 w 0 h K)) ∧ (¬ (v1 ≥ (h (h 0 4) 12)) → ((0 ≤ v1 ∧ v1 < 8) ∧ (C_X11_write w (h 41 v1) h (fun _ h11 => L_X11_image_44 w v1 0 h11 K)))))))) : L_X11_image_18 w v1 h K := by
  unfold L_X11_image_18
  refine J_iload_n 19 rfl 1 1 rfl (D_X11_image_0.at 10 rfl) ?_
  refine J_aload_n 20 rfl 0 0 rfl ⟨by decide, by decide⟩ (D_X11_image_0.at 11 rfl) ?_
  obtain ⟨s6, T⟩ := T
  refine J_getR (z := (h 0 4)) 23 rfl fl_11_35 rfl ob_0 (Ob.lt ob_0) (D_X11_image_0.at 12 rfl) rfl ?_
  refine J_getI (z := (h (h 0 4) 12)) 26 rfl fl_11_151 rfl s6 (Ob.lt s6) (D_X11_image_0.at 13 rfl) rfl ?_
  obtain ⟨s7, T⟩ := T
  obtain ⟨s8, T⟩ := T
  refine J_icmp_ge 29 rfl 87 s7 s8 (D_X11_image_0.at 14 rfl) (by decide) (fun c13 => ?_) (fun c13 => ?_)
  · replace T := T.1 c13
    refine J_iconst 88 rfl (D_X11_image_0.at 43 rfl) ?_
    refine J_istore_n (lv' := [(1, vI 0), (0, vR 0)]) 89 rfl 1 (by decide) rfl (D_X11_image_0.at 44 rfl) ?_
    exact J_sub (lv' := [(0, vR 0), (1, vI 0)]) [1, 0] rfl T
  replace T := T.2 c13
  refine J_aload_n 30 rfl 0 0 rfl ⟨by decide, by decide⟩ (D_X11_image_0.at 15 rfl) ?_
  refine J_aload_n 31 rfl 0 0 rfl ⟨by decide, by decide⟩ (D_X11_image_0.at 16 rfl) ?_
  refine J_getF (ov := 40) (dd := 1040) 34 rfl fl_11_45 rfl (by decide) rfl ob_0 (Ob.lt ob_0) (D_X11_image_0.at 17 rfl) ?_
  refine J_getF (ov := 41) (dd := 1001) 37 rfl fl_11_181 rfl (by decide) rfl ob_40 (Ob.lt ob_40) (D_X11_image_0.at 18 rfl) ?_
  refine J_iload_n 38 rfl 1 1 rfl (D_X11_image_0.at 19 rfl) ?_
  obtain ⟨s9, T⟩ := T
  refine J_iald 39 rfl ar_41 (Ar.lt ar_41) s9 (D_X11_image_0.at 20 rfl) ?_
  refine J_callV (d' := 1) (sr := fun z => []) (as := [vI (h 41 v1)]) (st := []) (o := 0) 42 rfl ok_X11_write im_X11_write se_X11_write ml_11_357 isC_11 ob_0 (Ob.lt ob_0) rfl (by decide) ⟨Nat.le_refl _, Nat.le_refl _⟩ (Nat.le_of_ble_eq_true rfl) (D_X11_image_0.at 21 rfl) (fun _ => rfl) T (fun r10 h11 T b12 => ?_)
  refine J_iconst 43 rfl (D_X11_image_0.at 22 rfl) ?_
  refine J_istore_n (lv' := [(2, vI 0), (0, vR 0), (1, vI v1)]) 44 rfl 2 (by decide) rfl (D_X11_image_0.at 23 rfl) ?_
  exact J_sub (lv' := [(0, vR 0), (1, vI v1), (2, vI 0)]) [1, 2, 0] rfl T
theorem l_X11_image_44 {w : Wd} {v1 v2 : Int} {h : Hp} {K : Int → Hp → Prop} (T : (Ob 7 (h 0 4)) ∧ ((inR v2) ∧ ((inR (h ((h 0 4) + 5) 1)) ∧ (((v2 ≥ (h ((h 0 4) + 5) 1)) → (L_X11_image_18 w (v1 + 1) h K)) ∧ (¬ (v2 ≥ (h ((h 0 4) + 5) 1)) → ((0 ≤ ((v1 * 10) + v2) ∧ ((v1 * 10) + v2) < 80) ∧ (C_X11_writeTwo w (h 42 ((v1 * 10) + v2)) h (fun _ h19 => L_X11_image_44 w v1 (v2 + 1) h19 K)))))))) : L_X11_image_44 w v1 v2 h K := by
  unfold L_X11_image_44
  refine J_iload_n 45 rfl 2 2 rfl (D_X11_image_0.at 24 rfl) ?_
  refine J_aload_n 46 rfl 0 0 rfl ⟨by decide, by decide⟩ (D_X11_image_0.at 25 rfl) ?_
  obtain ⟨s14, T⟩ := T
  refine J_getR (z := (h 0 4)) 49 rfl fl_11_35 rfl ob_0 (Ob.lt ob_0) (D_X11_image_0.at 26 rfl) rfl ?_
  refine J_getF (ov := ((h 0 4) + 5)) (dd := 1005) 52 rfl fl_11_166 rfl (by decide) rfl s14 (Ob.lt s14) (D_X11_image_0.at 27 rfl) ?_
  refine J_getI (z := (h ((h 0 4) + 5) 1)) 55 rfl fl_11_158 rfl (of_7_2 s14) (Ob.lt (of_7_2 s14)) (D_X11_image_0.at 28 rfl) rfl ?_
  obtain ⟨s15, T⟩ := T
  obtain ⟨s16, T⟩ := T
  refine J_icmp_ge 58 rfl 81 s15 s16 (D_X11_image_0.at 29 rfl) (by decide) (fun c21 => ?_) (fun c21 => ?_)
  · replace T := T.1 c21
    refine J_iinc (v := (v1 + 1)) (lv' := [(1, vI (v1 + 1)), (0, vR 0), (2, vI v2)]) 84 rfl 1 1 1 rfl rfl (by decide) rfl (D_X11_image_0.at 41 rfl) ?_
    refine J_goto 18 (D_X11_image_0.at 42 rfl) (by decide) ?_
    exact J_sub (lv' := [(0, vR 0), (1, vI (v1 + 1))]) [1, 0] rfl T
  replace T := T.2 c21
  refine J_aload_n 59 rfl 0 0 rfl ⟨by decide, by decide⟩ (D_X11_image_0.at 30 rfl) ?_
  refine J_aload_n 60 rfl 0 0 rfl ⟨by decide, by decide⟩ (D_X11_image_0.at 31 rfl) ?_
  refine J_getF (ov := 40) (dd := 1040) 63 rfl fl_11_45 rfl (by decide) rfl ob_0 (Ob.lt ob_0) (D_X11_image_0.at 32 rfl) ?_
  refine J_getF (ov := 42) (dd := 1002) 66 rfl fl_11_191 rfl (by decide) rfl ob_40 (Ob.lt ob_40) (D_X11_image_0.at 33 rfl) ?_
  refine J_iload_n 67 rfl 1 1 rfl (D_X11_image_0.at 34 rfl) ?_
  refine J_iload_n 68 rfl 2 2 rfl (D_X11_image_0.at 35 rfl) ?_
  refine J_callS (d' := 1) (K1 := fun z h0 => rok (some .int) z → JG w true m_X11_image 3 NT NT 71 [(0, vR 0), (1, vI v1), (2, vI v2)] [vI z, vR 42, vR 0] h0 _) (sr := fun z => [vI z, vR 42, vR 0]) (as := [vI v1, vI v2]) (st := [vR 42, vR 0]) 71 rfl ok_X11_cell sm_X11_cell ml_11_244 rfl (by decide) ⟨Nat.le_refl _, Nat.le_refl _⟩ (Nat.le_of_ble_eq_true rfl) (D_X11_image_0.at 36 rfl) (fun _ => rfl) (CGm_of2 (by decide) (by decide) trivial (Nat.le_of_ble_eq_true rfl) ?_) (fun _ _ kq hb => kq hb)
  refine J_iload_n 1 rfl 0 0 rfl (D_X11_cell_0.at 0 rfl) ?_
  refine J_bipush 3 rfl ⟨by decide, by decide⟩ (D_X11_cell_0.at 1 rfl) ?_
  refine J_imul 4 rfl (D_X11_cell_0.at 2 rfl) ?_
  refine J_iload_n 5 rfl 1 1 rfl (D_X11_cell_0.at 3 rfl) ?_
  refine J_iadd 6 rfl (D_X11_cell_0.at 4 rfl) ?_
  refine J_iret rfl (D_X11_cell_0.at 5 rfl) (fun _ => ?_)
  obtain ⟨s17, T⟩ := T
  refine J_iald 72 rfl ar_42 (Ar.lt ar_42) s17 (D_X11_image_0.at 37 rfl) ?_
  refine J_callV (d' := 2) (sr := fun z => []) (as := [vI (h 42 ((v1 * 10) + v2))]) (st := []) (o := 0) 75 rfl ok_X11_writeTwo im_X11_writeTwo se_X11_writeTwo ml_11_354 isC_11 ob_0 (Ob.lt ob_0) rfl (by decide) ⟨Nat.le_refl _, Nat.le_refl _⟩ (Nat.le_of_ble_eq_true rfl) (D_X11_image_0.at 38 rfl) (fun _ => rfl) T (fun r18 h19 T b20 => ?_)
  refine J_iinc (v := (v2 + 1)) (lv' := [(2, vI (v2 + 1)), (0, vR 0), (1, vI v1)]) 78 rfl 2 2 1 rfl rfl (by decide) rfl (D_X11_image_0.at 39 rfl) ?_
  refine J_goto 44 (D_X11_image_0.at 40 rfl) (by decide) ?_
  exact J_sub (lv' := [(0, vR 0), (1, vI v1), (2, vI (v2 + 1))]) [1, 2, 0] rfl T
theorem l_X11_image_89 {w : Wd} {v1 : Int} {h : Hp} {K : Int → Hp → Prop} (T : (Ob 7 (h 0 4)) ∧ ((inR v1) ∧ ((inR (h ((h 0 4) + 5) 1)) ∧ (((v1 ≥ (h ((h 0 4) + 5) 1)) → (L_X11_image_141 w 173 0 h K)) ∧ (¬ (v1 ≥ (h ((h 0 4) + 5) 1)) → ((0 ≤ v1 ∧ v1 < 10) ∧ (C_X11_write w (h 43 v1) h (fun _ h27 => (0 ≤ v1 ∧ v1 < 10) ∧ (C_X11_writeTwo w (h27 44 v1) h27 (fun _ h31 => L_X11_image_89 w (v1 + 1) h31 K)))))))))) : L_X11_image_89 w v1 h K := by
  unfold L_X11_image_89
  refine J_iload_n 90 rfl 1 1 rfl (D_X11_image_0.at 45 rfl) ?_
  refine J_aload_n 91 rfl 0 0 rfl ⟨by decide, by decide⟩ (D_X11_image_0.at 46 rfl) ?_
  obtain ⟨s22, T⟩ := T
  refine J_getR (z := (h 0 4)) 94 rfl fl_11_35 rfl ob_0 (Ob.lt ob_0) (D_X11_image_0.at 47 rfl) rfl ?_
  refine J_getF (ov := ((h 0 4) + 5)) (dd := 1005) 97 rfl fl_11_166 rfl (by decide) rfl s22 (Ob.lt s22) (D_X11_image_1.at 0 rfl) ?_
  refine J_getI (z := (h ((h 0 4) + 5) 1)) 100 rfl fl_11_158 rfl (of_7_2 s22) (Ob.lt (of_7_2 s22)) (D_X11_image_1.at 1 rfl) rfl ?_
  obtain ⟨s23, T⟩ := T
  obtain ⟨s24, T⟩ := T
  refine J_icmp_ge 103 rfl 135 s23 s24 (D_X11_image_1.at 2 rfl) (by decide) (fun c33 => ?_) (fun c33 => ?_)
  · replace T := T.1 c33
    refine J_sipush 138 rfl ⟨by decide, by decide⟩ (D_X11_image_1.at 19 rfl) ?_
    refine J_istore_n (lv' := [(1, vI 173), (0, vR 0)]) 139 rfl 1 (by decide) rfl (D_X11_image_1.at 20 rfl) ?_
    refine J_iconst 140 rfl (D_X11_image_1.at 21 rfl) ?_
    refine J_istore_n (lv' := [(2, vI 0), (1, vI 173), (0, vR 0)]) 141 rfl 2 (by decide) rfl (D_X11_image_1.at 22 rfl) ?_
    exact J_sub (lv' := [(0, vR 0), (1, vI 173), (2, vI 0)]) [2, 1, 0] rfl T
  replace T := T.2 c33
  refine J_aload_n 104 rfl 0 0 rfl ⟨by decide, by decide⟩ (D_X11_image_1.at 3 rfl) ?_
  refine J_aload_n 105 rfl 0 0 rfl ⟨by decide, by decide⟩ (D_X11_image_1.at 4 rfl) ?_
  refine J_getF (ov := 40) (dd := 1040) 108 rfl fl_11_45 rfl (by decide) rfl ob_0 (Ob.lt ob_0) (D_X11_image_1.at 5 rfl) ?_
  refine J_getF (ov := 43) (dd := 1003) 111 rfl fl_11_188 rfl (by decide) rfl ob_40 (Ob.lt ob_40) (D_X11_image_1.at 6 rfl) ?_
  refine J_iload_n 112 rfl 1 1 rfl (D_X11_image_1.at 7 rfl) ?_
  obtain ⟨s25, T⟩ := T
  refine J_iald 113 rfl ar_43 (Ar.lt ar_43) s25 (D_X11_image_1.at 8 rfl) ?_
  refine J_callV (d' := 1) (sr := fun z => []) (as := [vI (h 43 v1)]) (st := []) (o := 0) 116 rfl ok_X11_write im_X11_write se_X11_write ml_11_357 isC_11 ob_0 (Ob.lt ob_0) rfl (by decide) ⟨Nat.le_refl _, Nat.le_refl _⟩ (Nat.le_of_ble_eq_true rfl) (D_X11_image_1.at 9 rfl) (fun _ => rfl) T (fun r26 h27 T b28 => ?_)
  refine J_aload_n 117 rfl 0 0 rfl ⟨by decide, by decide⟩ (D_X11_image_1.at 10 rfl) ?_
  refine J_aload_n 118 rfl 0 0 rfl ⟨by decide, by decide⟩ (D_X11_image_1.at 11 rfl) ?_
  refine J_getF (ov := 40) (dd := 1040) 121 rfl fl_11_45 rfl (by decide) rfl ob_0 (Ob.lt ob_0) (D_X11_image_1.at 12 rfl) ?_
  refine J_getF (ov := 44) (dd := 1004) 124 rfl fl_11_194 rfl (by decide) rfl ob_40 (Ob.lt ob_40) (D_X11_image_1.at 13 rfl) ?_
  refine J_iload_n 125 rfl 1 1 rfl (D_X11_image_1.at 14 rfl) ?_
  obtain ⟨s29, T⟩ := T
  refine J_iald 126 rfl ar_44 (Ar.lt ar_44) s29 (D_X11_image_1.at 15 rfl) ?_
  refine J_callV (d' := 2) (sr := fun z => []) (as := [vI (h27 44 v1)]) (st := []) (o := 0) 129 rfl ok_X11_writeTwo im_X11_writeTwo se_X11_writeTwo ml_11_354 isC_11 ob_0 (Ob.lt ob_0) rfl (by decide) ⟨Nat.le_refl _, Nat.le_refl _⟩ (Nat.le_of_ble_eq_true rfl) (D_X11_image_1.at 16 rfl) (fun _ => rfl) T (fun r30 h31 T b32 => ?_)
  refine J_iinc (v := (v1 + 1)) (lv' := [(1, vI (v1 + 1)), (0, vR 0)]) 132 rfl 1 1 1 rfl rfl (by decide) rfl (D_X11_image_1.at 17 rfl) ?_
  refine J_goto 89 (D_X11_image_1.at 18 rfl) (by decide) ?_
  exact J_sub (lv' := [(0, vR 0), (1, vI (v1 + 1))]) [1, 0] rfl T
theorem l_X11_image_141 {w : Wd} {v1 v2 : Int} {h : Hp} {K : Int → Hp → Prop} (T : (inR v2) ∧ ((inR (h 0 16)) ∧ (((v2 ≥ (h 0 16)) → (C_X11_write w v1 h (fun _ h37 => K (h37 0 16) h37))) ∧ (¬ (v2 ≥ (h 0 16)) → ((0 ≤ v2 ∧ v2 < 201) ∧ ((0 ≤ ((3 * v1) + (h 58 v2)) ∧ ((3 * v1) + (h 58 v2)) < 2147483648) ∧ (L_X11_image_141 w (((3 * v1) + (h 58 v2)) % 251) (v2 + 1) h K))))))) : L_X11_image_141 w v1 v2 h K := by
  unfold L_X11_image_141
  refine J_iload_n 142 rfl 2 2 rfl (D_X11_image_1.at 23 rfl) ?_
  refine J_aload_n 143 rfl 0 0 rfl ⟨by decide, by decide⟩ (D_X11_image_1.at 24 rfl) ?_
  refine J_getI (z := (h 0 16)) 146 rfl fl_11_351 rfl ob_0 (Ob.lt ob_0) (D_X11_image_1.at 25 rfl) rfl ?_
  obtain ⟨s34, T⟩ := T
  obtain ⟨s35, T⟩ := T
  refine J_icmp_ge 149 rfl 166 s34 s35 (D_X11_image_1.at 26 rfl) (by decide) (fun c41 => ?_) (fun c41 => ?_)
  · replace T := T.1 c41
    refine J_aload_n 167 rfl 0 0 rfl ⟨by decide, by decide⟩ (D_X11_image_1.at 36 rfl) ?_
    refine J_iload_n 168 rfl 1 1 rfl (D_X11_image_1.at 37 rfl) ?_
    refine J_callV (d' := 1) (sr := fun z => []) (as := [vI v1]) (st := []) (o := 0) 171 rfl ok_X11_write im_X11_write se_X11_write ml_11_357 isC_11 ob_0 (Ob.lt ob_0) rfl (by decide) ⟨Nat.le_refl _, Nat.le_refl _⟩ (Nat.le_of_ble_eq_true rfl) (D_X11_image_1.at 38 rfl) (fun _ => rfl) T (fun r36 h37 T b38 => ?_)
    refine J_aload_n 172 rfl 0 0 rfl ⟨by decide, by decide⟩ (D_X11_image_1.at 39 rfl) ?_
    refine J_getI (z := (h37 0 16)) 175 rfl fl_11_351 rfl ob_0 (Ob.lt ob_0) (D_X11_image_1.at 40 rfl) rfl ?_
    exact J_iret rfl (D_X11_image_1.at 41 rfl) T
  replace T := T.2 c41
  refine J_iload_n 150 rfl 1 1 rfl (D_X11_image_1.at 27 rfl) ?_
  refine J_aload_n 151 rfl 0 0 rfl ⟨by decide, by decide⟩ (D_X11_image_1.at 28 rfl) ?_
  refine J_getF (ov := 58) (dd := 1058) 154 rfl fl_11_70 rfl (by decide) rfl ob_0 (Ob.lt ob_0) (D_X11_image_1.at 29 rfl) ?_
  refine J_iload_n 155 rfl 2 2 rfl (D_X11_image_1.at 30 rfl) ?_
  obtain ⟨s39, T⟩ := T
  refine J_iald 156 rfl ar_58 (Ar.lt ar_58) s39 (D_X11_image_1.at 31 rfl) ?_
  refine J_callS (d' := 1) (K1 := fun z h0 => rok (some .int) z → JG w true m_X11_image 3 NT NT 159 [(0, vR 0), (1, vI v1), (2, vI v2)] [vI z] h0 _) (sr := fun z => [vI z]) (as := [vI v1, vI (h 58 v2)]) (st := []) 159 rfl ok_X11_checkBehind sm_X11_checkBehind ml_11_360 rfl (by decide) ⟨Nat.le_refl _, Nat.le_refl _⟩ (Nat.le_of_ble_eq_true rfl) (D_X11_image_1.at 32 rfl) (fun _ => rfl) (CGm_of2 (by decide) (by decide) trivial (Nat.le_of_ble_eq_true rfl) ?_) (fun _ _ kq hb => kq hb)
  refine J_iconst 1 rfl (D_X11_checkBehind_0.at 0 rfl) ?_
  refine J_iload_n 2 rfl 0 0 rfl (D_X11_checkBehind_0.at 1 rfl) ?_
  refine J_imul 3 rfl (D_X11_checkBehind_0.at 2 rfl) ?_
  refine J_iload_n 4 rfl 1 1 rfl (D_X11_checkBehind_0.at 3 rfl) ?_
  refine J_iadd 5 rfl (D_X11_checkBehind_0.at 4 rfl) ?_
  refine J_sipush 8 rfl ⟨by decide, by decide⟩ (D_X11_checkBehind_0.at 5 rfl) ?_
  obtain ⟨s40, T⟩ := T
  refine J_irem 9 rfl s40 ⟨by decide, by decide⟩ (D_X11_checkBehind_0.at 6 rfl) ?_
  refine J_iret rfl (D_X11_checkBehind_0.at 7 rfl) (fun _ => ?_)
  refine J_istore_n (lv' := [(1, vI (((3 * v1) + (h 58 v2)) % 251)), (0, vR 0), (2, vI v2)]) 160 rfl 1 (by decide) rfl (D_X11_image_1.at 33 rfl) ?_
  refine J_iinc (v := (v2 + 1)) (lv' := [(2, vI (v2 + 1)), (1, vI (((3 * v1) + (h 58 v2)) % 251)), (0, vR 0)]) 163 rfl 2 2 1 rfl rfl (by decide) rfl (D_X11_image_1.at 34 rfl) ?_
  refine J_goto 141 (D_X11_image_1.at 35 rfl) (by decide) ?_
  exact J_sub (lv' := [(0, vR 0), (1, vI (((3 * v1) + (h 58 v2)) % 251)), (2, vI (v2 + 1))]) [2, 1, 0] rfl T
theorem c_X11_readTrial {w : Wd} {a1 : Int} {h : Hp} {K : Int → Hp → Prop} (T : (Ob 7 (h 0 4)) ∧ (C_X9_clear w 45 (h 0 4) h (fun _ h3 => C_X10_twoAt w 0 h3 (fun r5 h6 => ∀ h8 : Hp, h8 = hu h6 45 4 r5 → L_X11_readTrial_30 w a1 2 0 h8 K)))) : C_X11_readTrial w a1 h K := by
  refine CGm_of2 (by decide) (by decide) trivial (Nat.le_of_ble_eq_true rfl) ?_
  refine J_aload_n 1 rfl 0 0 rfl ⟨by decide, by decide⟩ (D_X11_readTrial_0.at 0 rfl) ?_
  refine J_getF (ov := 45) (dd := 1045) 4 rfl fl_11_49 rfl (by decide) rfl ob_0 (Ob.lt ob_0) (D_X11_readTrial_0.at 1 rfl) ?_
  refine J_aload_n 5 rfl 0 0 rfl ⟨by decide, by decide⟩ (D_X11_readTrial_0.at 2 rfl) ?_
  obtain ⟨s1, T⟩ := T
  refine J_getR (z := (h 0 4)) 8 rfl fl_11_35 rfl ob_0 (Ob.lt ob_0) (D_X11_readTrial_0.at 3 rfl) rfl ?_
  refine J_callV (d' := 1) (sr := fun z => []) (as := [vR (h 0 4)]) (st := []) (o := 45) 11 rfl ok_X9_clear im_X9_clear se_X9_clear ml_11_135 isC_9 ob_45 (Ob.lt ob_45) rfl (by decide) ⟨Nat.le_refl _, Nat.le_refl _⟩ (Nat.le_of_ble_eq_true rfl) (D_X11_readTrial_0.at 4 rfl) (fun _ => rfl) T (fun r2 h3 T b4 => ?_)
  refine J_aload_n 12 rfl 0 0 rfl ⟨by decide, by decide⟩ (D_X11_readTrial_0.at 5 rfl) ?_
  refine J_getF (ov := 45) (dd := 1045) 15 rfl fl_11_49 rfl (by decide) rfl ob_0 (Ob.lt ob_0) (D_X11_readTrial_0.at 6 rfl) ?_
  refine J_aload_n 16 rfl 0 0 rfl ⟨by decide, by decide⟩ (D_X11_readTrial_0.at 7 rfl) ?_
  refine J_getF (ov := 1) (dd := 1001) 19 rfl fl_11_12 rfl (by decide) rfl ob_0 (Ob.lt ob_0) (D_X11_readTrial_0.at 8 rfl) ?_
  refine J_iconst 20 rfl (D_X11_readTrial_0.at 9 rfl) ?_
  refine J_callV (d' := 2) (sr := fun z => [vI z, vR 45]) (as := [vI 0]) (st := [vR 45]) (o := 1) 23 rfl ok_X10_twoAt im_X10_twoAt se_X10_twoAt ml_11_334 isC_10 ob_1 (Ob.lt ob_1) rfl (by decide) ⟨Nat.le_refl _, Nat.le_refl _⟩ (Nat.le_of_ble_eq_true rfl) (D_X11_readTrial_0.at 10 rfl) (fun _ => rfl) T (fun r5 h6 T b7 => ?_)
  refine J_putI 26 rfl fl_11_178 rfl rfl ob_45 (Ob.lt ob_45) (D_X11_readTrial_0.at 11 rfl) (fun h8 e9 => ?_)
  replace T := T h8 e9
  refine J_iconst 27 rfl (D_X11_readTrial_0.at 12 rfl) ?_
  refine J_istore_n (lv' := [(2, vI 2), (0, vR 0), (1, vI a1)]) 28 rfl 2 (by decide) rfl (D_X11_readTrial_0.at 13 rfl) ?_
  refine J_iconst 29 rfl (D_X11_readTrial_0.at 14 rfl) ?_
  refine J_istore_n (lv' := [(3, vI 0), (2, vI 2), (0, vR 0), (1, vI a1)]) 30 rfl 3 (by decide) rfl (D_X11_readTrial_0.at 15 rfl) ?_
  exact J_sub (lv' := [(0, vR 0), (1, vI a1), (2, vI 2), (3, vI 0)]) [2, 3, 1, 0] rfl T
theorem l_X11_readTrial_30 {w : Wd} {v1 v2 v3 : Int} {h : Hp} {K : Int → Hp → Prop} (T : (Ob 7 (h 0 4)) ∧ ((inR v3) ∧ ((inR (h (h 0 4) 12)) ∧ (((v3 ≥ (h (h 0 4) 12)) → (L_X11_readTrial_109 w v1 v2 0 h K)) ∧ (¬ (v3 ≥ (h (h 0 4) 12)) → (C_X10_byteAt w v2 h (fun r13 h14 => (0 ≤ v3 ∧ v3 < 8) ∧ (∀ h17 : Hp, h17 = hu h14 46 v3 r13 → L_X11_readTrial_64 w v1 (v2 + 1) v3 0 h17 K)))))))) : L_X11_readTrial_30 w v1 v2 v3 h K := by
  unfold L_X11_readTrial_30
  refine J_iload_n 31 rfl 3 3 rfl (D_X11_readTrial_0.at 16 rfl) ?_
  refine J_aload_n 32 rfl 0 0 rfl ⟨by decide, by decide⟩ (D_X11_readTrial_0.at 17 rfl) ?_
  obtain ⟨s10, T⟩ := T
  refine J_getR (z := (h 0 4)) 35 rfl fl_11_35 rfl ob_0 (Ob.lt ob_0) (D_X11_readTrial_0.at 18 rfl) rfl ?_
  refine J_getI (z := (h (h 0 4) 12)) 38 rfl fl_11_151 rfl s10 (Ob.lt s10) (D_X11_readTrial_0.at 19 rfl) rfl ?_
  obtain ⟨s11, T⟩ := T
  obtain ⟨s12, T⟩ := T
  refine J_icmp_ge 41 rfl 107 s11 s12 (D_X11_readTrial_0.at 20 rfl) (by decide) (fun c19 => ?_) (fun c19 => ?_)
  · replace T := T.1 c19
    refine J_iconst 108 rfl (D_X11_readTrial_1.at 4 rfl) ?_
    refine J_istore_n (lv' := [(3, vI 0), (0, vR 0), (1, vI v1), (2, vI v2)]) 109 rfl 3 (by decide) rfl (D_X11_readTrial_1.at 5 rfl) ?_
    exact J_sub (lv' := [(0, vR 0), (1, vI v1), (2, vI v2), (3, vI 0)]) [1, 2, 3, 0] rfl T
  replace T := T.2 c19
  refine J_aload_n 42 rfl 0 0 rfl ⟨by decide, by decide⟩ (D_X11_readTrial_0.at 21 rfl) ?_
  refine J_getF (ov := 45) (dd := 1045) 45 rfl fl_11_49 rfl (by decide) rfl ob_0 (Ob.lt ob_0) (D_X11_readTrial_0.at 22 rfl) ?_
  refine J_getF (ov := 46) (dd := 1001) 48 rfl fl_11_181 rfl (by decide) rfl ob_45 (Ob.lt ob_45) (D_X11_readTrial_0.at 23 rfl) ?_
  refine J_iload_n 49 rfl 3 3 rfl (D_X11_readTrial_0.at 24 rfl) ?_
  refine J_aload_n 50 rfl 0 0 rfl ⟨by decide, by decide⟩ (D_X11_readTrial_0.at 25 rfl) ?_
  refine J_getF (ov := 1) (dd := 1001) 53 rfl fl_11_12 rfl (by decide) rfl ob_0 (Ob.lt ob_0) (D_X11_readTrial_0.at 26 rfl) ?_
  refine J_iload_n 54 rfl 2 2 rfl (D_X11_readTrial_0.at 27 rfl) ?_
  refine J_callV (d' := 1) (sr := fun z => [vI z, vI v3, vR 46]) (as := [vI v2]) (st := [vI v3, vR 46]) (o := 1) 57 rfl ok_X10_byteAt im_X10_byteAt se_X10_byteAt ml_11_414 isC_10 ob_1 (Ob.lt ob_1) rfl (by decide) ⟨Nat.le_refl _, Nat.le_refl _⟩ (Nat.le_of_ble_eq_true rfl) (D_X11_readTrial_0.at 28 rfl) (fun _ => rfl) T (fun r13 h14 T b15 => ?_)
  obtain ⟨s16, T⟩ := T
  refine J_iastH 58 rfl ar_46 (Ar.lt ar_46) s16 trivial (D_X11_readTrial_0.at 29 rfl) (fun h17 e18 => ?_)
  replace T := T h17 e18
  refine J_iinc (v := (v2 + 1)) (lv' := [(2, vI (v2 + 1)), (0, vR 0), (1, vI v1), (3, vI v3)]) 61 rfl 2 2 1 rfl rfl (by decide) rfl (D_X11_readTrial_0.at 30 rfl) ?_
  refine J_iconst 62 rfl (D_X11_readTrial_0.at 31 rfl) ?_
  refine J_istore (lv' := [(4, vI 0), (2, vI (v2 + 1)), (0, vR 0), (1, vI v1), (3, vI v3)]) 64 rfl 4 (by decide) rfl (D_X11_readTrial_0.at 32 rfl) ?_
  exact J_sub (lv' := [(0, vR 0), (1, vI v1), (2, vI (v2 + 1)), (3, vI v3), (4, vI 0)]) [2, 3, 1, 4, 0] rfl T
theorem l_X11_readTrial_64 {w : Wd} {v1 v2 v3 v4 : Int} {h : Hp} {K : Int → Hp → Prop} (T : (inR v4) ∧ ((inR v1) ∧ (((v4 ≥ v1) → (L_X11_readTrial_30 w v1 v2 (v3 + 1) h K)) ∧ (¬ (v4 ≥ v1) → (C_X10_twoAt w v2 h (fun r22 h23 => (0 ≤ ((v3 * 10) + v4) ∧ ((v3 * 10) + v4) < 80) ∧ (∀ h26 : Hp, h26 = hu h23 47 ((v3 * 10) + v4) r22 → L_X11_readTrial_64 w v1 (v2 + 2) v3 (v4 + 1) h26 K))))))) : L_X11_readTrial_64 w v1 v2 v3 v4 h K := by
  unfold L_X11_readTrial_64
  refine J_iload 66 rfl 4 4 rfl (D_X11_readTrial_0.at 33 rfl) ?_
  refine J_iload_n 67 rfl 1 1 rfl (D_X11_readTrial_0.at 34 rfl) ?_
  obtain ⟨s20, T⟩ := T
  obtain ⟨s21, T⟩ := T
  refine J_icmp_ge 70 rfl 101 s20 s21 (D_X11_readTrial_0.at 35 rfl) (by decide) (fun c28 => ?_) (fun c28 => ?_)
  · replace T := T.1 c28
    refine J_iinc (v := (v3 + 1)) (lv' := [(3, vI (v3 + 1)), (0, vR 0), (1, vI v1), (2, vI v2), (4, vI v4)]) 104 rfl 3 3 1 rfl rfl (by decide) rfl (D_X11_readTrial_1.at 2 rfl) ?_
    refine J_goto 30 (D_X11_readTrial_1.at 3 rfl) (by decide) ?_
    exact J_sub (lv' := [(0, vR 0), (1, vI v1), (2, vI v2), (3, vI (v3 + 1))]) [1, 2, 3, 0] rfl T
  replace T := T.2 c28
  refine J_aload_n 71 rfl 0 0 rfl ⟨by decide, by decide⟩ (D_X11_readTrial_0.at 36 rfl) ?_
  refine J_getF (ov := 45) (dd := 1045) 74 rfl fl_11_49 rfl (by decide) rfl ob_0 (Ob.lt ob_0) (D_X11_readTrial_0.at 37 rfl) ?_
  refine J_getF (ov := 47) (dd := 1002) 77 rfl fl_11_191 rfl (by decide) rfl ob_45 (Ob.lt ob_45) (D_X11_readTrial_0.at 38 rfl) ?_
  refine J_iload_n 78 rfl 3 3 rfl (D_X11_readTrial_0.at 39 rfl) ?_
  refine J_iload 80 rfl 4 4 rfl (D_X11_readTrial_0.at 40 rfl) ?_
  refine J_callS (d' := 1) (K1 := fun z h0 => rok (some .int) z → JG w true m_X11_readTrial 3 NT NT 83 [(0, vR 0), (1, vI v1), (2, vI v2), (3, vI v3), (4, vI v4)] [vI z, vR 47] h0 _) (sr := fun z => [vI z, vR 47]) (as := [vI v3, vI v4]) (st := [vR 47]) 83 rfl ok_X11_cell sm_X11_cell ml_11_244 rfl (by decide) ⟨Nat.le_refl _, Nat.le_refl _⟩ (Nat.le_of_ble_eq_true rfl) (D_X11_readTrial_0.at 41 rfl) (fun _ => rfl) (CGm_of2 (by decide) (by decide) trivial (Nat.le_of_ble_eq_true rfl) ?_) (fun _ _ kq hb => kq hb)
  refine J_iload_n 1 rfl 0 0 rfl (D_X11_cell_0.at 0 rfl) ?_
  refine J_bipush 3 rfl ⟨by decide, by decide⟩ (D_X11_cell_0.at 1 rfl) ?_
  refine J_imul 4 rfl (D_X11_cell_0.at 2 rfl) ?_
  refine J_iload_n 5 rfl 1 1 rfl (D_X11_cell_0.at 3 rfl) ?_
  refine J_iadd 6 rfl (D_X11_cell_0.at 4 rfl) ?_
  refine J_iret rfl (D_X11_cell_0.at 5 rfl) (fun _ => ?_)
  refine J_aload_n 84 rfl 0 0 rfl ⟨by decide, by decide⟩ (D_X11_readTrial_0.at 42 rfl) ?_
  refine J_getF (ov := 1) (dd := 1001) 87 rfl fl_11_12 rfl (by decide) rfl ob_0 (Ob.lt ob_0) (D_X11_readTrial_0.at 43 rfl) ?_
  refine J_iload_n 88 rfl 2 2 rfl (D_X11_readTrial_0.at 44 rfl) ?_
  refine J_callV (d' := 2) (sr := fun z => [vI z, vI ((v3 * 10) + v4), vR 47]) (as := [vI v2]) (st := [vI ((v3 * 10) + v4), vR 47]) (o := 1) 91 rfl ok_X10_twoAt im_X10_twoAt se_X10_twoAt ml_11_334 isC_10 ob_1 (Ob.lt ob_1) rfl (by decide) ⟨Nat.le_refl _, Nat.le_refl _⟩ (Nat.le_of_ble_eq_true rfl) (D_X11_readTrial_0.at 45 rfl) (fun _ => rfl) T (fun r22 h23 T b24 => ?_)
  obtain ⟨s25, T⟩ := T
  refine J_iastH 92 rfl ar_47 (Ar.lt ar_47) s25 trivial (D_X11_readTrial_0.at 46 rfl) (fun h26 e27 => ?_)
  replace T := T h26 e27
  refine J_iinc (v := (v2 + 2)) (lv' := [(2, vI (v2 + 2)), (0, vR 0), (1, vI v1), (3, vI v3), (4, vI v4)]) 95 rfl 2 2 2 rfl rfl (by decide) rfl (D_X11_readTrial_0.at 47 rfl) ?_
  refine J_iinc (v := (v4 + 1)) (lv' := [(4, vI (v4 + 1)), (2, vI (v2 + 2)), (0, vR 0), (1, vI v1), (3, vI v3)]) 98 rfl 4 4 1 rfl rfl (by decide) rfl (D_X11_readTrial_1.at 0 rfl) ?_
  refine J_goto 64 (D_X11_readTrial_1.at 1 rfl) (by decide) ?_
  exact J_sub (lv' := [(0, vR 0), (1, vI v1), (2, vI (v2 + 2)), (3, vI v3), (4, vI (v4 + 1))]) [2, 3, 1, 4, 0] rfl T
theorem l_X11_readTrial_109 {w : Wd} {v1 v2 v3 : Int} {h : Hp} {K : Int → Hp → Prop} (T : (inR v3) ∧ ((inR v1) ∧ (((v3 ≥ v1) → (K 0 h)) ∧ (¬ (v3 ≥ v1) → (C_X10_byteAt w v2 h (fun r31 h32 => (0 ≤ v3 ∧ v3 < 10) ∧ (∀ h35 : Hp, h35 = hu h32 48 v3 r31 → C_X10_twoAt w (v2 + 1) h35 (fun r37 h38 => (0 ≤ v3 ∧ v3 < 10) ∧ (∀ h41 : Hp, h41 = hu h38 49 v3 r37 → L_X11_readTrial_109 w v1 (v2 + 3) (v3 + 1) h41 K))))))))) : L_X11_readTrial_109 w v1 v2 v3 h K := by
  unfold L_X11_readTrial_109
  refine J_iload_n 110 rfl 3 3 rfl (D_X11_readTrial_1.at 6 rfl) ?_
  refine J_iload_n 111 rfl 1 1 rfl (D_X11_readTrial_1.at 7 rfl) ?_
  obtain ⟨s29, T⟩ := T
  obtain ⟨s30, T⟩ := T
  refine J_icmp_ge 114 rfl 159 s29 s30 (D_X11_readTrial_1.at 8 rfl) (by decide) (fun c43 => ?_) (fun c43 => ?_)
  · replace T := T.1 c43
    exact J_vret rfl (D_X11_readTrial_1.at 32 rfl) T
  replace T := T.2 c43
  refine J_aload_n 115 rfl 0 0 rfl ⟨by decide, by decide⟩ (D_X11_readTrial_1.at 9 rfl) ?_
  refine J_getF (ov := 45) (dd := 1045) 118 rfl fl_11_49 rfl (by decide) rfl ob_0 (Ob.lt ob_0) (D_X11_readTrial_1.at 10 rfl) ?_
  refine J_getF (ov := 48) (dd := 1003) 121 rfl fl_11_188 rfl (by decide) rfl ob_45 (Ob.lt ob_45) (D_X11_readTrial_1.at 11 rfl) ?_
  refine J_iload_n 122 rfl 3 3 rfl (D_X11_readTrial_1.at 12 rfl) ?_
  refine J_aload_n 123 rfl 0 0 rfl ⟨by decide, by decide⟩ (D_X11_readTrial_1.at 13 rfl) ?_
  refine J_getF (ov := 1) (dd := 1001) 126 rfl fl_11_12 rfl (by decide) rfl ob_0 (Ob.lt ob_0) (D_X11_readTrial_1.at 14 rfl) ?_
  refine J_iload_n 127 rfl 2 2 rfl (D_X11_readTrial_1.at 15 rfl) ?_
  refine J_callV (d' := 1) (sr := fun z => [vI z, vI v3, vR 48]) (as := [vI v2]) (st := [vI v3, vR 48]) (o := 1) 130 rfl ok_X10_byteAt im_X10_byteAt se_X10_byteAt ml_11_414 isC_10 ob_1 (Ob.lt ob_1) rfl (by decide) ⟨Nat.le_refl _, Nat.le_refl _⟩ (Nat.le_of_ble_eq_true rfl) (D_X11_readTrial_1.at 16 rfl) (fun _ => rfl) T (fun r31 h32 T b33 => ?_)
  obtain ⟨s34, T⟩ := T
  refine J_iastH 131 rfl ar_48 (Ar.lt ar_48) s34 trivial (D_X11_readTrial_1.at 17 rfl) (fun h35 e36 => ?_)
  replace T := T h35 e36
  refine J_aload_n 132 rfl 0 0 rfl ⟨by decide, by decide⟩ (D_X11_readTrial_1.at 18 rfl) ?_
  refine J_getF (ov := 45) (dd := 1045) 135 rfl fl_11_49 rfl (by decide) rfl ob_0 (Ob.lt ob_0) (D_X11_readTrial_1.at 19 rfl) ?_
  refine J_getF (ov := 49) (dd := 1004) 138 rfl fl_11_194 rfl (by decide) rfl ob_45 (Ob.lt ob_45) (D_X11_readTrial_1.at 20 rfl) ?_
  refine J_iload_n 139 rfl 3 3 rfl (D_X11_readTrial_1.at 21 rfl) ?_
  refine J_aload_n 140 rfl 0 0 rfl ⟨by decide, by decide⟩ (D_X11_readTrial_1.at 22 rfl) ?_
  refine J_getF (ov := 1) (dd := 1001) 143 rfl fl_11_12 rfl (by decide) rfl ob_0 (Ob.lt ob_0) (D_X11_readTrial_1.at 23 rfl) ?_
  refine J_iload_n 144 rfl 2 2 rfl (D_X11_readTrial_1.at 24 rfl) ?_
  refine J_iconst 145 rfl (D_X11_readTrial_1.at 25 rfl) ?_
  refine J_iadd 146 rfl (D_X11_readTrial_1.at 26 rfl) ?_
  refine J_callV (d' := 2) (sr := fun z => [vI z, vI v3, vR 49]) (as := [vI (v2 + 1)]) (st := [vI v3, vR 49]) (o := 1) 149 rfl ok_X10_twoAt im_X10_twoAt se_X10_twoAt ml_11_334 isC_10 ob_1 (Ob.lt ob_1) rfl (by decide) ⟨Nat.le_refl _, Nat.le_refl _⟩ (Nat.le_of_ble_eq_true rfl) (D_X11_readTrial_1.at 27 rfl) (fun _ => rfl) T (fun r37 h38 T b39 => ?_)
  obtain ⟨s40, T⟩ := T
  refine J_iastH 150 rfl ar_49 (Ar.lt ar_49) s40 trivial (D_X11_readTrial_1.at 28 rfl) (fun h41 e42 => ?_)
  replace T := T h41 e42
  refine J_iinc (v := (v2 + 3)) (lv' := [(2, vI (v2 + 3)), (0, vR 0), (1, vI v1), (3, vI v3)]) 153 rfl 2 2 3 rfl rfl (by decide) rfl (D_X11_readTrial_1.at 29 rfl) ?_
  refine J_iinc (v := (v3 + 1)) (lv' := [(3, vI (v3 + 1)), (2, vI (v2 + 3)), (0, vR 0), (1, vI v1)]) 156 rfl 3 3 1 rfl rfl (by decide) rfl (D_X11_readTrial_1.at 30 rfl) ?_
  refine J_goto 109 (D_X11_readTrial_1.at 31 rfl) (by decide) ?_
  exact J_sub (lv' := [(0, vR 0), (1, vI v1), (2, vI (v2 + 3)), (3, vI (v3 + 1))]) [2, 3, 1, 0] rfl T
theorem c_X11_majority {w : Wd} {a1 : Int} {h : Hp} {K : Int → Hp → Prop} (T : L_X11_majority_2 w a1 0 h K) : C_X11_majority w a1 h K := by
  refine CGm_of2 (by decide) (by decide) trivial (Nat.le_of_ble_eq_true rfl) ?_
  refine J_iconst 1 rfl (D_X11_majority_0.at 0 rfl) ?_
  refine J_istore_n (lv' := [(2, vI 0), (0, vR 0), (1, vI a1)]) 2 rfl 2 (by decide) rfl (D_X11_majority_0.at 1 rfl) ?_
  exact J_sub (lv' := [(0, vR 0), (1, vI a1), (2, vI 0)]) [1, 2, 0] rfl T
theorem l_X11_majority_2 {w : Wd} {v1 v2 : Int} {h : Hp} {K : Int → Hp → Prop} (T : (Ob 7 (h 0 4)) ∧ ((inR v2) ∧ ((inR (h ((h 0 4) + 1) 1)) ∧ (((v2 ≥ (h ((h 0 4) + 1) 1)) → (K (-1) h)) ∧ (¬ (v2 ≥ (h ((h 0 4) + 1) 1)) → (C_X11_hasMajority w 40 v1 v2 h (fun r4 h5 => (r4 = 0 ∨ r4 = 1) → ((r4 = 0) → (L_X11_majority_2 w v1 (v2 + 1) h5 K)) ∧ (¬ (r4 = 0) → (K v2 h5))))))))) : L_X11_majority_2 w v1 v2 h K := by
  unfold L_X11_majority_2
  refine J_iload_n 3 rfl 2 2 rfl (D_X11_majority_0.at 2 rfl) ?_
  refine J_aload_n 4 rfl 0 0 rfl ⟨by decide, by decide⟩ (D_X11_majority_0.at 3 rfl) ?_
  obtain ⟨s1, T⟩ := T
  refine J_getR (z := (h 0 4)) 7 rfl fl_11_35 rfl ob_0 (Ob.lt ob_0) (D_X11_majority_0.at 4 rfl) rfl ?_
  refine J_getF (ov := ((h 0 4) + 1)) (dd := 1001) 10 rfl fl_11_154 rfl (by decide) rfl s1 (Ob.lt s1) (D_X11_majority_0.at 5 rfl) ?_
  refine J_getI (z := (h ((h 0 4) + 1) 1)) 13 rfl fl_11_158 rfl (of_7_0 s1) (Ob.lt (of_7_0 s1)) (D_X11_majority_0.at 6 rfl) rfl ?_
  obtain ⟨s2, T⟩ := T
  obtain ⟨s3, T⟩ := T
  refine J_icmp_ge 16 rfl 37 s2 s3 (D_X11_majority_0.at 7 rfl) (by decide) (fun c8 => ?_) (fun c8 => ?_)
  · replace T := T.1 c8
    refine J_iconst 38 rfl (D_X11_majority_0.at 19 rfl) ?_
    exact J_iret rfl (D_X11_majority_0.at 20 rfl) T
  replace T := T.2 c8
  refine J_aload_n 17 rfl 0 0 rfl ⟨by decide, by decide⟩ (D_X11_majority_0.at 8 rfl) ?_
  refine J_aload_n 18 rfl 0 0 rfl ⟨by decide, by decide⟩ (D_X11_majority_0.at 9 rfl) ?_
  refine J_getF (ov := 40) (dd := 1040) 21 rfl fl_11_45 rfl (by decide) rfl ob_0 (Ob.lt ob_0) (D_X11_majority_0.at 10 rfl) ?_
  refine J_iload_n 22 rfl 1 1 rfl (D_X11_majority_0.at 11 rfl) ?_
  refine J_iload_n 23 rfl 2 2 rfl (D_X11_majority_0.at 12 rfl) ?_
  refine J_callV (d' := 3) (sr := fun z => [vI z]) (as := [vR 40, vI v1, vI v2]) (st := []) (o := 0) 26 rfl ok_X11_hasMajority im_X11_hasMajority se_X11_hasMajority ml_11_330 isC_11 ob_0 (Ob.lt ob_0) rfl (by decide) ⟨Nat.le_refl _, Nat.le_refl _⟩ (Nat.le_of_ble_eq_true rfl) (D_X11_majority_0.at 13 rfl) (fun _ => rfl) T (fun r4 h5 T b6 => ?_)
  replace T := T b6
  refine J_if_eq 29 rfl 31 (inR_b b6) (D_X11_majority_0.at 14 rfl) (by decide) (fun c7 => ?_) (fun c7 => ?_)
  · replace T := T.1 c7
    refine J_iinc (v := (v2 + 1)) (lv' := [(2, vI (v2 + 1)), (0, vR 0), (1, vI v1)]) 34 rfl 2 2 1 rfl rfl (by decide) rfl (D_X11_majority_0.at 17 rfl) ?_
    refine J_goto 2 (D_X11_majority_0.at 18 rfl) (by decide) ?_
    exact J_sub (lv' := [(0, vR 0), (1, vI v1), (2, vI (v2 + 1))]) [1, 2, 0] rfl T
  replace T := T.2 c7
  refine J_iload_n 30 rfl 2 2 rfl (D_X11_majority_0.at 15 rfl) ?_
  exact J_iret rfl (D_X11_majority_0.at 16 rfl) T
theorem c_X11_isJoined {w : Wd} {a1 : Int} {h : Hp} {K : Int → Hp → Prop} (T : C_X11_isIsland w a1 h (fun r1 h2 => (r1 = 0 ∨ r1 = 1) → ((r1 = 0) → (K 0 h2)) ∧ (¬ (r1 = 0) → (C_X11_isIsland w (a1 + 1) h2 (fun r4 h5 => (r4 = 0 ∨ r4 = 1) → ((r4 = 0) → (K 0 h5)) ∧ (¬ (r4 = 0) → (C_X9_lyingIn w 40 a1 h5 (fun r7 h8 => C_X9_lyingIn w 40 (a1 + 1) h8 (fun r10 h11 => (Ob 7 (h11 0 4)) ∧ ((inR (r7 + r10)) ∧ ((inR (h11 (h11 0 4) 14)) ∧ ((((r7 + r10) < (h11 (h11 0 4) 14)) → (K 0 h11)) ∧ (¬ ((r7 + r10) < (h11 (h11 0 4) 14)) → (K 1 h11)))))))))))))) : C_X11_isJoined w a1 h K := by
  refine CGm_of2 (by decide) (by decide) trivial (Nat.le_of_ble_eq_true rfl) ?_
  refine J_aload_n 1 rfl 0 0 rfl ⟨by decide, by decide⟩ (D_X11_isJoined_0.at 0 rfl) ?_
  refine J_iload_n 2 rfl 1 1 rfl (D_X11_isJoined_0.at 1 rfl) ?_
  refine J_callV (d' := 3) (sr := fun z => [vI z]) (as := [vI a1]) (st := []) (o := 0) 5 rfl ok_X11_isIsland im_X11_isIsland se_X11_isIsland ml_11_229 isC_11 ob_0 (Ob.lt ob_0) rfl (by decide) ⟨Nat.le_refl _, Nat.le_refl _⟩ (Nat.le_of_ble_eq_true rfl) (D_X11_isJoined_0.at 2 rfl) (fun _ => rfl) T (fun r1 h2 T b3 => ?_)
  replace T := T b3
  refine J_if_eq 8 rfl 51 (inR_b b3) (D_X11_isJoined_0.at 3 rfl) (by decide) (fun c18 => ?_) (fun c18 => ?_)
  · replace T := T.1 c18
    refine J_iconst 52 rfl (D_X11_isJoined_0.at 27 rfl) ?_
    exact J_zret rfl (Or.inl rfl) (D_X11_isJoined_0.at 28 rfl) T
  replace T := T.2 c18
  refine J_aload_n 9 rfl 0 0 rfl ⟨by decide, by decide⟩ (D_X11_isJoined_0.at 4 rfl) ?_
  refine J_iload_n 10 rfl 1 1 rfl (D_X11_isJoined_0.at 5 rfl) ?_
  refine J_iconst 11 rfl (D_X11_isJoined_0.at 6 rfl) ?_
  refine J_iadd 12 rfl (D_X11_isJoined_0.at 7 rfl) ?_
  refine J_callV (d' := 3) (sr := fun z => [vI z]) (as := [vI (a1 + 1)]) (st := []) (o := 0) 15 rfl ok_X11_isIsland im_X11_isIsland se_X11_isIsland ml_11_229 isC_11 ob_0 (Ob.lt ob_0) rfl (by decide) ⟨Nat.le_refl _, Nat.le_refl _⟩ (Nat.le_of_ble_eq_true rfl) (D_X11_isJoined_0.at 8 rfl) (fun _ => rfl) T (fun r4 h5 T b6 => ?_)
  replace T := T b6
  refine J_if_eq 18 rfl 51 (inR_b b6) (D_X11_isJoined_0.at 9 rfl) (by decide) (fun c17 => ?_) (fun c17 => ?_)
  · replace T := T.1 c17
    refine J_iconst 52 rfl (D_X11_isJoined_0.at 27 rfl) ?_
    exact J_zret rfl (Or.inl rfl) (D_X11_isJoined_0.at 28 rfl) T
  replace T := T.2 c17
  refine J_aload_n 19 rfl 0 0 rfl ⟨by decide, by decide⟩ (D_X11_isJoined_0.at 10 rfl) ?_
  refine J_getF (ov := 40) (dd := 1040) 22 rfl fl_11_45 rfl (by decide) rfl ob_0 (Ob.lt ob_0) (D_X11_isJoined_0.at 11 rfl) ?_
  refine J_iload_n 23 rfl 1 1 rfl (D_X11_isJoined_0.at 12 rfl) ?_
  refine J_callV (d' := 2) (sr := fun z => [vI z]) (as := [vI a1]) (st := []) (o := 40) 26 rfl ok_X9_lyingIn im_X9_lyingIn se_X9_lyingIn ml_11_226 isC_9 ob_40 (Ob.lt ob_40) rfl (by decide) ⟨Nat.le_refl _, Nat.le_refl _⟩ (Nat.le_of_ble_eq_true rfl) (D_X11_isJoined_0.at 13 rfl) (fun _ => rfl) T (fun r7 h8 T b9 => ?_)
  refine J_aload_n 27 rfl 0 0 rfl ⟨by decide, by decide⟩ (D_X11_isJoined_0.at 14 rfl) ?_
  refine J_getF (ov := 40) (dd := 1040) 30 rfl fl_11_45 rfl (by decide) rfl ob_0 (Ob.lt ob_0) (D_X11_isJoined_0.at 15 rfl) ?_
  refine J_iload_n 31 rfl 1 1 rfl (D_X11_isJoined_0.at 16 rfl) ?_
  refine J_iconst 32 rfl (D_X11_isJoined_0.at 17 rfl) ?_
  refine J_iadd 33 rfl (D_X11_isJoined_0.at 18 rfl) ?_
  refine J_callV (d' := 2) (sr := fun z => [vI z, vI r7]) (as := [vI (a1 + 1)]) (st := [vI r7]) (o := 40) 36 rfl ok_X9_lyingIn im_X9_lyingIn se_X9_lyingIn ml_11_226 isC_9 ob_40 (Ob.lt ob_40) rfl (by decide) ⟨Nat.le_refl _, Nat.le_refl _⟩ (Nat.le_of_ble_eq_true rfl) (D_X11_isJoined_0.at 19 rfl) (fun _ => rfl) T (fun r10 h11 T b12 => ?_)
  refine J_iadd 37 rfl (D_X11_isJoined_0.at 20 rfl) ?_
  refine J_aload_n 38 rfl 0 0 rfl ⟨by decide, by decide⟩ (D_X11_isJoined_0.at 21 rfl) ?_
  obtain ⟨s13, T⟩ := T
  refine J_getR (z := (h11 0 4)) 41 rfl fl_11_35 rfl ob_0 (Ob.lt ob_0) (D_X11_isJoined_0.at 22 rfl) rfl ?_
  refine J_getI (z := (h11 (h11 0 4) 14)) 44 rfl fl_11_172 rfl s13 (Ob.lt s13) (D_X11_isJoined_0.at 23 rfl) rfl ?_
  obtain ⟨s14, T⟩ := T
  obtain ⟨s15, T⟩ := T
  refine J_icmp_lt 47 rfl 51 s14 s15 (D_X11_isJoined_0.at 24 rfl) (by decide) (fun c16 => ?_) (fun c16 => ?_)
  · replace T := T.1 c16
    refine J_iconst 52 rfl (D_X11_isJoined_0.at 27 rfl) ?_
    exact J_zret rfl (Or.inl rfl) (D_X11_isJoined_0.at 28 rfl) T
  replace T := T.2 c16
  refine J_iconst 48 rfl (D_X11_isJoined_0.at 25 rfl) ?_
  refine J_goto 52 (D_X11_isJoined_0.at 26 rfl) (by decide) ?_
  exact J_zret rfl (Or.inr rfl) (D_X11_isJoined_0.at 28 rfl) T
theorem c_X11_isAsFound {w : Wd} {h : Hp} {K : Int → Hp → Prop} (T : L_X11_isAsFound_2 w 0 h K) : C_X11_isAsFound w h K := by
  refine CGm_of2 (by decide) (by decide) trivial (Nat.le_of_ble_eq_true rfl) ?_
  refine J_iconst 1 rfl (D_X11_isAsFound_0.at 0 rfl) ?_
  refine J_istore_n (lv' := [(1, vI 0), (0, vR 0)]) 2 rfl 1 (by decide) rfl (D_X11_isAsFound_0.at 1 rfl) ?_
  exact J_sub (lv' := [(0, vR 0), (1, vI 0)]) [1, 0] rfl T
theorem l_X11_isAsFound_2 {w : Wd} {v1 : Int} {h : Hp} {K : Int → Hp → Prop} (T : (Ob 7 (h 0 4)) ∧ ((inR v1) ∧ ((inR (h (h 0 4) 12)) ∧ (((v1 ≥ (h (h 0 4) 12)) → (K 1 h)) ∧ (¬ (v1 ≥ (h (h 0 4) 12)) → (C_X0_leftIn w v1 h (fun r4 h5 => (0 ≤ v1 ∧ v1 < 8) ∧ ((inR r4) ∧ ((inR (h5 57 v1)) ∧ (((r4 = (h5 57 v1)) → (L_X11_isAsFound_2 w (v1 + 1) h5 K)) ∧ (¬ (r4 = (h5 57 v1)) → (K 0 h5)))))))))))) : L_X11_isAsFound_2 w v1 h K := by
  unfold L_X11_isAsFound_2
  refine J_iload_n 3 rfl 1 1 rfl (D_X11_isAsFound_0.at 2 rfl) ?_
  refine J_aload_n 4 rfl 0 0 rfl ⟨by decide, by decide⟩ (D_X11_isAsFound_0.at 3 rfl) ?_
  obtain ⟨s1, T⟩ := T
  refine J_getR (z := (h 0 4)) 7 rfl fl_11_35 rfl ob_0 (Ob.lt ob_0) (D_X11_isAsFound_0.at 4 rfl) rfl ?_
  refine J_getI (z := (h (h 0 4) 12)) 10 rfl fl_11_151 rfl s1 (Ob.lt s1) (D_X11_isAsFound_0.at 5 rfl) rfl ?_
  obtain ⟨s2, T⟩ := T
  obtain ⟨s3, T⟩ := T
  refine J_icmp_ge 13 rfl 38 s2 s3 (D_X11_isAsFound_0.at 6 rfl) (by decide) (fun c11 => ?_) (fun c11 => ?_)
  · replace T := T.1 c11
    refine J_iconst 39 rfl (D_X11_isAsFound_0.at 20 rfl) ?_
    exact J_zret rfl (Or.inr rfl) (D_X11_isAsFound_0.at 21 rfl) T
  replace T := T.2 c11
  refine J_aload_n 14 rfl 0 0 rfl ⟨by decide, by decide⟩ (D_X11_isAsFound_0.at 7 rfl) ?_
  refine J_getF (ov := 61) (dd := 1061) 17 rfl fl_11_97 rfl (by decide) rfl ob_0 (Ob.lt ob_0) (D_X11_isAsFound_0.at 8 rfl) ?_
  refine J_iload_n 18 rfl 1 1 rfl (D_X11_isAsFound_0.at 9 rfl) ?_
  refine J_callV (d' := 3) (sr := fun z => [vI z]) (as := [vI v1]) (st := []) (o := 61) 21 rfl ok_X0_leftIn im_X0_leftIn se_X0_leftIn ml_11_390 isC_0 ob_61 (Ob.lt ob_61) rfl (by decide) ⟨Nat.le_refl _, Nat.le_refl _⟩ (Nat.le_of_ble_eq_true rfl) (D_X11_isAsFound_0.at 10 rfl) (fun _ => rfl) T (fun r4 h5 T b6 => ?_)
  refine J_aload_n 22 rfl 0 0 rfl ⟨by decide, by decide⟩ (D_X11_isAsFound_0.at 11 rfl) ?_
  refine J_getF (ov := 57) (dd := 1057) 25 rfl fl_11_66 rfl (by decide) rfl ob_0 (Ob.lt ob_0) (D_X11_isAsFound_0.at 12 rfl) ?_
  refine J_iload_n 26 rfl 1 1 rfl (D_X11_isAsFound_0.at 13 rfl) ?_
  obtain ⟨s7, T⟩ := T
  refine J_iald 27 rfl ar_57 (Ar.lt ar_57) s7 (D_X11_isAsFound_0.at 14 rfl) ?_
  obtain ⟨s8, T⟩ := T
  obtain ⟨s9, T⟩ := T
  refine J_icmp_eq 30 rfl 32 s8 s9 (D_X11_isAsFound_0.at 15 rfl) (by decide) (fun c10 => ?_) (fun c10 => ?_)
  · replace T := T.1 c10
    refine J_iinc (v := (v1 + 1)) (lv' := [(1, vI (v1 + 1)), (0, vR 0)]) 35 rfl 1 1 1 rfl rfl (by decide) rfl (D_X11_isAsFound_0.at 18 rfl) ?_
    refine J_goto 2 (D_X11_isAsFound_0.at 19 rfl) (by decide) ?_
    exact J_sub (lv' := [(0, vR 0), (1, vI (v1 + 1))]) [1, 0] rfl T
  replace T := T.2 c10
  refine J_iconst 31 rfl (D_X11_isAsFound_0.at 16 rfl) ?_
  exact J_zret rfl (Or.inl rfl) (D_X11_isAsFound_0.at 17 rfl) T
theorem c_X11_forged {w : Wd} {a1 : Int} {h : Hp} {K : Int → Hp → Prop} (T : (Ob 7 (h 0 4)) ∧ (C_X7_hasReach w (h 0 4) a1 h (fun r2 h3 => (r2 = 0 ∨ r2 = 1) → ((r2 = 0) → (∀ h5 : Hp, h5 = hu h3 1 1 0 → K (-1) h5)) ∧ (¬ (r2 = 0) → ((Ob 7 (h3 0 4)) ∧ ((inR (h3 1 1)) ∧ ((inR (2 * (h3 ((h3 0 4) + 3) 1))) ∧ ((((h3 1 1) ≠ (2 * (h3 ((h3 0 4) + 3) 1))) → (∀ h10 : Hp, h10 = hu h3 1 1 0 → K (-1) h10)) ∧ (¬ ((h3 1 1) ≠ (2 * (h3 ((h3 0 4) + 3) 1))) → (C_X11_toldAbove w a1 h3 (fun r12 h13 => ∀ h15 : Hp, h15 = hu h13 1 1 0 → K r12 h15))))))))))) : C_X11_forged w a1 h K := by
  refine CGm_of2 (by decide) (by decide) trivial (Nat.le_of_ble_eq_true rfl) ?_
  refine J_aload_n 1 rfl 0 0 rfl ⟨by decide, by decide⟩ (D_X11_forged_0.at 0 rfl) ?_
  obtain ⟨s1, T⟩ := T
  refine J_getR (z := (h 0 4)) 4 rfl fl_11_35 rfl ob_0 (Ob.lt ob_0) (D_X11_forged_0.at 1 rfl) rfl ?_
  refine J_iload_n 5 rfl 1 1 rfl (D_X11_forged_0.at 2 rfl) ?_
  refine J_callV (d' := 1) (sr := fun z => [vI z]) (as := [vI a1]) (st := []) (o := (h 0 4)) 8 rfl ok_X7_hasReach im_X7_hasReach se_X7_hasReach ml_11_220 isC_7 s1 (Ob.lt s1) rfl (by decide) ⟨Nat.le_refl _, Nat.le_refl _⟩ (Nat.le_of_ble_eq_true rfl) (D_X11_forged_0.at 3 rfl) (fun _ => rfl) T (fun r2 h3 T b4 => ?_)
  replace T := T b4
  refine J_if_eq 11 rfl 37 (inR_b b4) (D_X11_forged_0.at 4 rfl) (by decide) (fun c18 => ?_) (fun c18 => ?_)
  · replace T := T.1 c18
    refine J_iconst 38 rfl (D_X11_forged_0.at 17 rfl) ?_
    refine J_istore_n (lv' := [(2, vI 0), (0, vR 0), (1, vI a1)]) 39 rfl 2 (by decide) rfl (D_X11_forged_0.at 18 rfl) ?_
    refine J_iload_n 40 rfl 2 0 rfl (D_X11_forged_0.at 19 rfl) ?_
    refine J_if_eq 43 rfl 51 ⟨by decide, by decide⟩ (D_X11_forged_0.at 20 rfl) (by decide) (fun _ => ?_) (fun c => absurd (by decide) c)
    refine J_iconst 52 rfl (D_X11_forged_0.at 25 rfl) ?_
    refine J_istore_n (lv' := [(3, vI (-1)), (2, vI 0), (0, vR 0), (1, vI a1)]) 53 rfl 3 (by decide) rfl (D_X11_forged_0.at 26 rfl) ?_
    refine J_aload_n 54 rfl 0 2 rfl ⟨by decide, by decide⟩ (D_X11_forged_0.at 27 rfl) ?_
    refine J_getF (ov := 1) (dd := 1001) 57 rfl fl_11_12 rfl (by decide) rfl ob_0 (Ob.lt ob_0) (D_X11_forged_0.at 28 rfl) ?_
    refine J_iconst 58 rfl (D_X11_forged_0.at 29 rfl) ?_
    refine J_putI 61 rfl fl_11_110 rfl rfl ob_1 (Ob.lt ob_1) (D_X11_forged_0.at 30 rfl) (fun h5 e6 => ?_)
    replace T := T h5 e6
    refine J_iload_n 62 rfl 3 0 rfl (D_X11_forged_0.at 31 rfl) ?_
    exact J_iret rfl (D_X11_forged_0.at 32 rfl) T
  replace T := T.2 c18
  refine J_aload_n 12 rfl 0 0 rfl ⟨by decide, by decide⟩ (D_X11_forged_0.at 5 rfl) ?_
  refine J_getF (ov := 1) (dd := 1001) 15 rfl fl_11_12 rfl (by decide) rfl ob_0 (Ob.lt ob_0) (D_X11_forged_0.at 6 rfl) ?_
  refine J_getI (z := (h3 1 1)) 18 rfl fl_11_110 rfl ob_1 (Ob.lt ob_1) (D_X11_forged_0.at 7 rfl) rfl ?_
  refine J_iconst 19 rfl (D_X11_forged_0.at 8 rfl) ?_
  refine J_aload_n 20 rfl 0 0 rfl ⟨by decide, by decide⟩ (D_X11_forged_0.at 9 rfl) ?_
  obtain ⟨s7, T⟩ := T
  refine J_getR (z := (h3 0 4)) 23 rfl fl_11_35 rfl ob_0 (Ob.lt ob_0) (D_X11_forged_0.at 10 rfl) rfl ?_
  refine J_getF (ov := ((h3 0 4) + 3)) (dd := 1003) 26 rfl fl_11_163 rfl (by decide) rfl s7 (Ob.lt s7) (D_X11_forged_0.at 11 rfl) ?_
  refine J_getI (z := (h3 ((h3 0 4) + 3) 1)) 29 rfl fl_11_158 rfl (of_7_1 s7) (Ob.lt (of_7_1 s7)) (D_X11_forged_0.at 12 rfl) rfl ?_
  refine J_imul 30 rfl (D_X11_forged_0.at 13 rfl) ?_
  obtain ⟨s8, T⟩ := T
  obtain ⟨s9, T⟩ := T
  refine J_icmp_ne 33 rfl 37 s8 s9 (D_X11_forged_0.at 14 rfl) (by decide) (fun c17 => ?_) (fun c17 => ?_)
  · replace T := T.1 c17
    refine J_iconst 38 rfl (D_X11_forged_0.at 17 rfl) ?_
    refine J_istore_n (lv' := [(2, vI 0), (0, vR 0), (1, vI a1)]) 39 rfl 2 (by decide) rfl (D_X11_forged_0.at 18 rfl) ?_
    refine J_iload_n 40 rfl 2 0 rfl (D_X11_forged_0.at 19 rfl) ?_
    refine J_if_eq 43 rfl 51 ⟨by decide, by decide⟩ (D_X11_forged_0.at 20 rfl) (by decide) (fun _ => ?_) (fun c => absurd (by decide) c)
    refine J_iconst 52 rfl (D_X11_forged_0.at 25 rfl) ?_
    refine J_istore_n (lv' := [(3, vI (-1)), (2, vI 0), (0, vR 0), (1, vI a1)]) 53 rfl 3 (by decide) rfl (D_X11_forged_0.at 26 rfl) ?_
    refine J_aload_n 54 rfl 0 2 rfl ⟨by decide, by decide⟩ (D_X11_forged_0.at 27 rfl) ?_
    refine J_getF (ov := 1) (dd := 1001) 57 rfl fl_11_12 rfl (by decide) rfl ob_0 (Ob.lt ob_0) (D_X11_forged_0.at 28 rfl) ?_
    refine J_iconst 58 rfl (D_X11_forged_0.at 29 rfl) ?_
    refine J_putI 61 rfl fl_11_110 rfl rfl ob_1 (Ob.lt ob_1) (D_X11_forged_0.at 30 rfl) (fun h10 e11 => ?_)
    replace T := T h10 e11
    refine J_iload_n 62 rfl 3 0 rfl (D_X11_forged_0.at 31 rfl) ?_
    exact J_iret rfl (D_X11_forged_0.at 32 rfl) T
  replace T := T.2 c17
  refine J_iconst 34 rfl (D_X11_forged_0.at 15 rfl) ?_
  refine J_goto 38 (D_X11_forged_0.at 16 rfl) (by decide) ?_
  refine J_istore_n (lv' := [(2, vI 1), (0, vR 0), (1, vI a1)]) 39 rfl 2 (by decide) rfl (D_X11_forged_0.at 18 rfl) ?_
  refine J_iload_n 40 rfl 2 0 rfl (D_X11_forged_0.at 19 rfl) ?_
  refine J_if_eq 43 rfl 51 ⟨by decide, by decide⟩ (D_X11_forged_0.at 20 rfl) (by decide) (fun c => absurd c (by decide)) (fun _ => ?_)
  refine J_aload_n 44 rfl 0 1 rfl ⟨by decide, by decide⟩ (D_X11_forged_0.at 21 rfl) ?_
  refine J_iload_n 45 rfl 1 2 rfl (D_X11_forged_0.at 22 rfl) ?_
  refine J_callV (d' := 3) (sr := fun z => [vI z]) (as := [vI a1]) (st := []) (o := 0) 48 rfl ok_X11_toldAbove im_X11_toldAbove se_X11_toldAbove ml_11_341 isC_11 ob_0 (Ob.lt ob_0) rfl (by decide) ⟨Nat.le_refl _, Nat.le_refl _⟩ (Nat.le_of_ble_eq_true rfl) (D_X11_forged_0.at 23 rfl) (fun _ => rfl) T (fun r12 h13 T b14 => ?_)
  refine J_goto 52 (D_X11_forged_0.at 24 rfl) (by decide) ?_
  refine J_istore_n (lv' := [(3, vI r12), (2, vI 1), (0, vR 0), (1, vI a1)]) 53 rfl 3 (by decide) rfl (D_X11_forged_0.at 26 rfl) ?_
  refine J_aload_n 54 rfl 0 2 rfl ⟨by decide, by decide⟩ (D_X11_forged_0.at 27 rfl) ?_
  refine J_getF (ov := 1) (dd := 1001) 57 rfl fl_11_12 rfl (by decide) rfl ob_0 (Ob.lt ob_0) (D_X11_forged_0.at 28 rfl) ?_
  refine J_iconst 58 rfl (D_X11_forged_0.at 29 rfl) ?_
  refine J_putI 61 rfl fl_11_110 rfl rfl ob_1 (Ob.lt ob_1) (D_X11_forged_0.at 30 rfl) (fun h15 e16 => ?_)
  replace T := T h15 e16
  refine J_iload_n 62 rfl 3 0 rfl (D_X11_forged_0.at 31 rfl) ?_
  exact J_iret rfl (D_X11_forged_0.at 32 rfl) T
theorem c_X11_isImage {w : Wd} {h : Hp} {K : Int → Hp → Prop} (T : (Ob 7 (h 0 4)) ∧ ((Ob 7 (h 0 4)) ∧ ((Ob 7 (h 0 4)) ∧ ((inR (h (h 0 4) 12)) ∧ ((((h (h 0 4) 12) = 0) → (K 0 h)) ∧ (¬ ((h (h 0 4) 12) = 0) → ((inR (h 1 1)) ∧ ((inR (((2 + ((h (h 0 4) 12) * (1 + (2 * (h ((h 0 4) + 5) 1))))) + (3 * (h ((h 0 4) + 5) 1))) + 1)) ∧ ((((h 1 1) ≠ (((2 + ((h (h 0 4) 12) * (1 + (2 * (h ((h 0 4) + 5) 1))))) + (3 * (h ((h 0 4) + 5) 1))) + 1)) → (K 0 h)) ∧ (¬ ((h 1 1) ≠ (((2 + ((h (h 0 4) 12) * (1 + (2 * (h ((h 0 4) + 5) 1))))) + (3 * (h ((h 0 4) + 5) 1))) + 1)) → (C_X11_isChecked w h (fun r7 h8 => (r7 = 0 ∨ r7 = 1) → ((r7 ≠ 0) → (C_X11_readTrial w (h ((h 0 4) + 5) 1) h8 (fun _ h11 => L_X11_isImage_70 w 0 h11 K))) ∧ (¬ (r7 ≠ 0) → (K 0 h8)))))))))))))) : C_X11_isImage w h K := by
  refine CGm_of2 (by decide) (by decide) trivial (Nat.le_of_ble_eq_true rfl) ?_
  refine J_aload_n 1 rfl 0 0 rfl ⟨by decide, by decide⟩ (D_X11_isImage_0.at 0 rfl) ?_
  obtain ⟨s1, T⟩ := T
  refine J_getR (z := (h 0 4)) 4 rfl fl_11_35 rfl ob_0 (Ob.lt ob_0) (D_X11_isImage_0.at 1 rfl) rfl ?_
  refine J_getF (ov := ((h 0 4) + 5)) (dd := 1005) 7 rfl fl_11_166 rfl (by decide) rfl s1 (Ob.lt s1) (D_X11_isImage_0.at 2 rfl) ?_
  refine J_getI (z := (h ((h 0 4) + 5) 1)) 10 rfl fl_11_158 rfl (of_7_2 s1) (Ob.lt (of_7_2 s1)) (D_X11_isImage_0.at 3 rfl) rfl ?_
  refine J_istore_n (lv' := [(1, vI (h ((h 0 4) + 5) 1)), (0, vR 0)]) 11 rfl 1 (by decide) rfl (D_X11_isImage_0.at 4 rfl) ?_
  refine J_iconst 12 rfl (D_X11_isImage_0.at 5 rfl) ?_
  refine J_aload_n 13 rfl 0 1 rfl ⟨by decide, by decide⟩ (D_X11_isImage_0.at 6 rfl) ?_
  obtain ⟨s2, T⟩ := T
  refine J_getR (z := (h 0 4)) 16 rfl fl_11_35 rfl ob_0 (Ob.lt ob_0) (D_X11_isImage_0.at 7 rfl) rfl ?_
  refine J_getI (z := (h (h 0 4) 12)) 19 rfl fl_11_151 rfl s2 (Ob.lt s2) (D_X11_isImage_0.at 8 rfl) rfl ?_
  refine J_iconst 20 rfl (D_X11_isImage_0.at 9 rfl) ?_
  refine J_iconst 21 rfl (D_X11_isImage_0.at 10 rfl) ?_
  refine J_iload_n 22 rfl 1 0 rfl (D_X11_isImage_0.at 11 rfl) ?_
  refine J_imul 23 rfl (D_X11_isImage_0.at 12 rfl) ?_
  refine J_iadd 24 rfl (D_X11_isImage_0.at 13 rfl) ?_
  refine J_imul 25 rfl (D_X11_isImage_0.at 14 rfl) ?_
  refine J_iadd 26 rfl (D_X11_isImage_0.at 15 rfl) ?_
  refine J_iconst 27 rfl (D_X11_isImage_0.at 16 rfl) ?_
  refine J_iload_n 28 rfl 1 0 rfl (D_X11_isImage_0.at 17 rfl) ?_
  refine J_imul 29 rfl (D_X11_isImage_0.at 18 rfl) ?_
  refine J_iadd 30 rfl (D_X11_isImage_0.at 19 rfl) ?_
  refine J_iconst 31 rfl (D_X11_isImage_0.at 20 rfl) ?_
  refine J_iadd 32 rfl (D_X11_isImage_0.at 21 rfl) ?_
  refine J_istore_n (lv' := [(2, vI (((2 + ((h (h 0 4) 12) * (1 + (2 * (h ((h 0 4) + 5) 1))))) + (3 * (h ((h 0 4) + 5) 1))) + 1)), (1, vI (h ((h 0 4) + 5) 1)), (0, vR 0)]) 33 rfl 2 (by decide) rfl (D_X11_isImage_0.at 22 rfl) ?_
  refine J_aload_n 34 rfl 0 2 rfl ⟨by decide, by decide⟩ (D_X11_isImage_0.at 23 rfl) ?_
  obtain ⟨s3, T⟩ := T
  refine J_getR (z := (h 0 4)) 37 rfl fl_11_35 rfl ob_0 (Ob.lt ob_0) (D_X11_isImage_0.at 24 rfl) rfl ?_
  refine J_getI (z := (h (h 0 4) 12)) 40 rfl fl_11_151 rfl s3 (Ob.lt s3) (D_X11_isImage_0.at 25 rfl) rfl ?_
  obtain ⟨s4, T⟩ := T
  refine J_if_eq 43 rfl 61 s4 (D_X11_isImage_0.at 26 rfl) (by decide) (fun c15 => ?_) (fun c15 => ?_)
  · replace T := T.1 c15
    refine J_iconst 62 rfl (D_X11_isImage_0.at 35 rfl) ?_
    exact J_zret rfl (Or.inl rfl) (D_X11_isImage_0.at 36 rfl) T
  replace T := T.2 c15
  refine J_aload_n 44 rfl 0 2 rfl ⟨by decide, by decide⟩ (D_X11_isImage_0.at 27 rfl) ?_
  refine J_getF (ov := 1) (dd := 1001) 47 rfl fl_11_12 rfl (by decide) rfl ob_0 (Ob.lt ob_0) (D_X11_isImage_0.at 28 rfl) ?_
  refine J_getI (z := (h 1 1)) 50 rfl fl_11_110 rfl ob_1 (Ob.lt ob_1) (D_X11_isImage_0.at 29 rfl) rfl ?_
  refine J_iload_n 51 rfl 2 0 rfl (D_X11_isImage_0.at 30 rfl) ?_
  obtain ⟨s5, T⟩ := T
  obtain ⟨s6, T⟩ := T
  refine J_icmp_ne 54 rfl 61 s5 s6 (D_X11_isImage_0.at 31 rfl) (by decide) (fun c14 => ?_) (fun c14 => ?_)
  · replace T := T.1 c14
    refine J_iconst 62 rfl (D_X11_isImage_0.at 35 rfl) ?_
    exact J_zret rfl (Or.inl rfl) (D_X11_isImage_0.at 36 rfl) T
  replace T := T.2 c14
  refine J_aload_n 55 rfl 0 2 rfl ⟨by decide, by decide⟩ (D_X11_isImage_0.at 32 rfl) ?_
  refine J_callV (d' := 2) (sr := fun z => [vI z]) (as := []) (st := []) (o := 0) 58 rfl ok_X11_isChecked im_X11_isChecked se_X11_isChecked ml_11_405 isC_11 ob_0 (Ob.lt ob_0) rfl (by decide) ⟨Nat.le_refl _, Nat.le_refl _⟩ (Nat.le_of_ble_eq_true rfl) (D_X11_isImage_0.at 33 rfl) (fun _ => rfl) T (fun r7 h8 T b9 => ?_)
  replace T := T b9
  refine J_if_ne 61 rfl 63 (inR_b b9) (D_X11_isImage_0.at 34 rfl) (by decide) (fun c13 => ?_) (fun c13 => ?_)
  · replace T := T.1 c13
    refine J_aload_n 64 rfl 0 2 rfl ⟨by decide, by decide⟩ (D_X11_isImage_0.at 37 rfl) ?_
    refine J_iload_n 65 rfl 1 1 rfl (D_X11_isImage_0.at 38 rfl) ?_
    refine J_callV (d' := 3) (sr := fun z => []) (as := [vI (h ((h 0 4) + 5) 1)]) (st := []) (o := 0) 68 rfl ok_X11_readTrial im_X11_readTrial se_X11_readTrial ml_11_408 isC_11 ob_0 (Ob.lt ob_0) rfl (by decide) ⟨Nat.le_refl _, Nat.le_refl _⟩ (Nat.le_of_ble_eq_true rfl) (D_X11_isImage_0.at 39 rfl) (fun _ => rfl) T (fun r10 h11 T b12 => ?_)
    refine J_iconst 69 rfl (D_X11_isImage_0.at 40 rfl) ?_
    refine J_istore_n (lv' := [(3, vI 0), (2, vI (((2 + ((h (h 0 4) 12) * (1 + (2 * (h ((h 0 4) + 5) 1))))) + (3 * (h ((h 0 4) + 5) 1))) + 1)), (1, vI (h ((h 0 4) + 5) 1)), (0, vR 0)]) 70 rfl 3 (by decide) rfl (D_X11_isImage_0.at 41 rfl) ?_
    exact J_sub (lv' := [(0, vR 0), (3, vI 0)]) [3, 0] rfl T
  replace T := T.2 c13
  refine J_iconst 62 rfl (D_X11_isImage_0.at 35 rfl) ?_
  exact J_zret rfl (Or.inl rfl) (D_X11_isImage_0.at 36 rfl) T
theorem l_X11_isImage_70 {w : Wd} {v3 : Int} {h : Hp} {K : Int → Hp → Prop} (T : (Ob 7 (h 0 4)) ∧ ((inR v3) ∧ ((inR (h (h 0 4) 12)) ∧ (((v3 ≥ (h (h 0 4) 12)) → (C_X11_total w 47 h (fun r19 h20 => C_X11_total w 48 h20 (fun r22 h23 => C_X11_total w 49 h23 (fun r25 h26 => (inR (h26 45 4)) ∧ ((((h26 45 4) > 999) → (K 0 h26)) ∧ (¬ ((h26 45 4) > 999) → ((Ob 7 (h26 0 4)) ∧ (C_X11_total w ((h26 0 4) + 11) h26 (fun r30 h31 => (inR ((r19 + r22) + r25)) ∧ ((inR r30) ∧ (((((r19 + r22) + r25) ≠ r30) → (K 0 h31)) ∧ (¬ (((r19 + r22) + r25) ≠ r30) → (K 1 h31)))))))))))))) ∧ (¬ (v3 ≥ (h (h 0 4) 12)) → ((0 ≤ v3 ∧ v3 < 8) ∧ ((inR (h 46 v3)) ∧ ((((h 46 v3) ≤ 3) → (L_X11_isImage_70 w (v3 + 1) h K)) ∧ (¬ ((h 46 v3) ≤ 3) → (K 0 h)))))))))) : L_X11_isImage_70 w v3 h K := by
  unfold L_X11_isImage_70
  refine J_iload_n 71 rfl 3 1 rfl (D_X11_isImage_0.at 42 rfl) ?_
  refine J_aload_n 72 rfl 0 0 rfl ⟨by decide, by decide⟩ (D_X11_isImage_0.at 43 rfl) ?_
  obtain ⟨s16, T⟩ := T
  refine J_getR (z := (h 0 4)) 75 rfl fl_11_35 rfl ob_0 (Ob.lt ob_0) (D_X11_isImage_0.at 44 rfl) rfl ?_
  refine J_getI (z := (h (h 0 4) 12)) 78 rfl fl_11_151 rfl s16 (Ob.lt s16) (D_X11_isImage_0.at 45 rfl) rfl ?_
  obtain ⟨s17, T⟩ := T
  obtain ⟨s18, T⟩ := T
  refine J_icmp_ge 81 rfl 102 s17 s18 (D_X11_isImage_0.at 46 rfl) (by decide) (fun c40 => ?_) (fun c40 => ?_)
  · replace T := T.1 c40
    refine J_aload_n 103 rfl 0 0 rfl ⟨by decide, by decide⟩ (D_X11_isImage_1.at 10 rfl) ?_
    refine J_getF (ov := 45) (dd := 1045) 106 rfl fl_11_49 rfl (by decide) rfl ob_0 (Ob.lt ob_0) (D_X11_isImage_1.at 11 rfl) ?_
    refine J_getF (ov := 47) (dd := 1002) 109 rfl fl_11_191 rfl (by decide) rfl ob_45 (Ob.lt ob_45) (D_X11_isImage_1.at 12 rfl) ?_
    refine J_callS (d' := 1) (sr := fun z => [vI z]) (as := [vR 47]) (st := []) 112 rfl ok_X11_total sm_X11_total ml_11_184 rfl (by decide) ⟨Nat.le_refl _, Nat.le_refl _⟩ (Nat.le_of_ble_eq_true rfl) (D_X11_isImage_1.at 13 rfl) (fun _ => rfl) T (fun r19 h20 T b21 => ?_)
    refine J_aload_n 113 rfl 0 0 rfl ⟨by decide, by decide⟩ (D_X11_isImage_1.at 14 rfl) ?_
    refine J_getF (ov := 45) (dd := 1045) 116 rfl fl_11_49 rfl (by decide) rfl ob_0 (Ob.lt ob_0) (D_X11_isImage_1.at 15 rfl) ?_
    refine J_getF (ov := 48) (dd := 1003) 119 rfl fl_11_188 rfl (by decide) rfl ob_45 (Ob.lt ob_45) (D_X11_isImage_1.at 16 rfl) ?_
    refine J_callS (d' := 1) (sr := fun z => [vI z, vI r19]) (as := [vR 48]) (st := [vI r19]) 122 rfl ok_X11_total sm_X11_total ml_11_184 rfl (by decide) ⟨Nat.le_refl _, Nat.le_refl _⟩ (Nat.le_of_ble_eq_true rfl) (D_X11_isImage_1.at 17 rfl) (fun _ => rfl) T (fun r22 h23 T b24 => ?_)
    refine J_iadd 123 rfl (D_X11_isImage_1.at 18 rfl) ?_
    refine J_aload_n 124 rfl 0 0 rfl ⟨by decide, by decide⟩ (D_X11_isImage_1.at 19 rfl) ?_
    refine J_getF (ov := 45) (dd := 1045) 127 rfl fl_11_49 rfl (by decide) rfl ob_0 (Ob.lt ob_0) (D_X11_isImage_1.at 20 rfl) ?_
    refine J_getF (ov := 49) (dd := 1004) 130 rfl fl_11_194 rfl (by decide) rfl ob_45 (Ob.lt ob_45) (D_X11_isImage_1.at 21 rfl) ?_
    refine J_callS (d' := 1) (sr := fun z => [vI z, vI (r19 + r22)]) (as := [vR 49]) (st := [vI (r19 + r22)]) 133 rfl ok_X11_total sm_X11_total ml_11_184 rfl (by decide) ⟨Nat.le_refl _, Nat.le_refl _⟩ (Nat.le_of_ble_eq_true rfl) (D_X11_isImage_1.at 22 rfl) (fun _ => rfl) T (fun r25 h26 T b27 => ?_)
    refine J_iadd 134 rfl (D_X11_isImage_1.at 23 rfl) ?_
    refine J_istore_n (lv' := [(3, vI ((r19 + r22) + r25)), (0, vR 0)]) 135 rfl 3 (by decide) rfl (D_X11_isImage_1.at 24 rfl) ?_
    refine J_aload_n 136 rfl 0 1 rfl ⟨by decide, by decide⟩ (D_X11_isImage_1.at 25 rfl) ?_
    refine J_getF (ov := 45) (dd := 1045) 139 rfl fl_11_49 rfl (by decide) rfl ob_0 (Ob.lt ob_0) (D_X11_isImage_1.at 26 rfl) ?_
    refine J_getI (z := (h26 45 4)) 142 rfl fl_11_178 rfl ob_45 (Ob.lt ob_45) (D_X11_isImage_1.at 27 rfl) rfl ?_
    refine J_sipush 145 rfl ⟨by decide, by decide⟩ (D_X11_isImage_1.at 28 rfl) ?_
    obtain ⟨s28, T⟩ := T
    refine J_icmp_gt 148 rfl 166 s28 ⟨by decide, by decide⟩ (D_X11_isImage_1.at 29 rfl) (by decide) (fun c36 => ?_) (fun c36 => ?_)
    · replace T := T.1 c36
      refine J_iconst 167 rfl (D_X11_isImage_1.at 38 rfl) ?_
      exact J_zret rfl (Or.inl rfl) (D_X11_isImage_1.at 39 rfl) T
    replace T := T.2 c36
    refine J_iload_n 149 rfl 3 0 rfl (D_X11_isImage_1.at 30 rfl) ?_
    refine J_aload_n 150 rfl 0 1 rfl ⟨by decide, by decide⟩ (D_X11_isImage_1.at 31 rfl) ?_
    obtain ⟨s29, T⟩ := T
    refine J_getR (z := (h26 0 4)) 153 rfl fl_11_35 rfl ob_0 (Ob.lt ob_0) (D_X11_isImage_1.at 32 rfl) rfl ?_
    refine J_getF (ov := ((h26 0 4) + 11)) (dd := 1011) 156 rfl fl_11_411 rfl (by decide) rfl s29 (Ob.lt s29) (D_X11_isImage_1.at 33 rfl) ?_
    refine J_callS (d' := 1) (sr := fun z => [vI z, vI ((r19 + r22) + r25)]) (as := [vR ((h26 0 4) + 11)]) (st := [vI ((r19 + r22) + r25)]) 159 rfl ok_X11_total sm_X11_total ml_11_184 rfl (by decide) ⟨Nat.le_refl _, Nat.le_refl _⟩ (Nat.le_of_ble_eq_true rfl) (D_X11_isImage_1.at 34 rfl) (fun _ => rfl) T (fun r30 h31 T b32 => ?_)
    obtain ⟨s33, T⟩ := T
    obtain ⟨s34, T⟩ := T
    refine J_icmp_ne 162 rfl 166 s33 s34 (D_X11_isImage_1.at 35 rfl) (by decide) (fun c35 => ?_) (fun c35 => ?_)
    · replace T := T.1 c35
      refine J_iconst 167 rfl (D_X11_isImage_1.at 38 rfl) ?_
      exact J_zret rfl (Or.inl rfl) (D_X11_isImage_1.at 39 rfl) T
    replace T := T.2 c35
    refine J_iconst 163 rfl (D_X11_isImage_1.at 36 rfl) ?_
    refine J_goto 167 (D_X11_isImage_1.at 37 rfl) (by decide) ?_
    exact J_zret rfl (Or.inr rfl) (D_X11_isImage_1.at 39 rfl) T
  replace T := T.2 c40
  refine J_aload_n 82 rfl 0 0 rfl ⟨by decide, by decide⟩ (D_X11_isImage_0.at 47 rfl) ?_
  refine J_getF (ov := 45) (dd := 1045) 85 rfl fl_11_49 rfl (by decide) rfl ob_0 (Ob.lt ob_0) (D_X11_isImage_1.at 0 rfl) ?_
  refine J_getF (ov := 46) (dd := 1001) 88 rfl fl_11_181 rfl (by decide) rfl ob_45 (Ob.lt ob_45) (D_X11_isImage_1.at 1 rfl) ?_
  refine J_iload_n 89 rfl 3 1 rfl (D_X11_isImage_1.at 2 rfl) ?_
  obtain ⟨s37, T⟩ := T
  refine J_iald 90 rfl ar_46 (Ar.lt ar_46) s37 (D_X11_isImage_1.at 3 rfl) ?_
  refine J_iconst 91 rfl (D_X11_isImage_1.at 4 rfl) ?_
  obtain ⟨s38, T⟩ := T
  refine J_icmp_le 94 rfl 96 s38 ⟨by decide, by decide⟩ (D_X11_isImage_1.at 5 rfl) (by decide) (fun c39 => ?_) (fun c39 => ?_)
  · replace T := T.1 c39
    refine J_iinc (v := (v3 + 1)) (lv' := [(3, vI (v3 + 1)), (0, vR 0)]) 99 rfl 3 1 1 rfl rfl (by decide) rfl (D_X11_isImage_1.at 8 rfl) ?_
    refine J_goto 70 (D_X11_isImage_1.at 9 rfl) (by decide) ?_
    exact J_sub (lv' := [(0, vR 0), (3, vI (v3 + 1))]) [1, 0] rfl T
  replace T := T.2 c39
  refine J_iconst 95 rfl (D_X11_isImage_1.at 6 rfl) ?_
  exact J_zret rfl (Or.inl rfl) (D_X11_isImage_1.at 7 rfl) T
theorem c_X11_landFrom {w : Wd} {a1 : Int} {h : Hp} {K : Int → Hp → Prop} (T : L_X11_landFrom_2 w a1 h K) : C_X11_landFrom w a1 h K := by
  refine CGm_of2 (by decide) (by decide) trivial (Nat.le_of_ble_eq_true rfl) ?_
  refine J_iload_n 1 rfl 1 1 rfl (D_X11_landFrom_0.at 0 rfl) ?_
  refine J_istore_n (lv' := [(2, vI a1), (0, vR 0), (1, vI a1)]) 2 rfl 2 (by decide) rfl (D_X11_landFrom_0.at 1 rfl) ?_
  exact J_sub (lv' := [(0, vR 0), (2, vI a1)]) [1, 0] rfl T
theorem l_X11_landFrom_2 {w : Wd} {v2 : Int} {h : Hp} {K : Int → Hp → Prop} (T : (inR v2) ∧ (((v2 ≤ 0) → (K v2 h)) ∧ (¬ (v2 ≤ 0) → (C_X11_isJoined w (v2 - 1) h (fun r2 h3 => (r2 = 0 ∨ r2 = 1) → ((r2 = 0) → (K v2 h3)) ∧ (¬ (r2 = 0) → (L_X11_landFrom_2 w (v2 + (-1)) h3 K))))))) : L_X11_landFrom_2 w v2 h K := by
  unfold L_X11_landFrom_2
  refine J_iload_n 3 rfl 2 1 rfl (D_X11_landFrom_0.at 2 rfl) ?_
  obtain ⟨s1, T⟩ := T
  refine J_if_le 6 rfl 22 s1 (D_X11_landFrom_0.at 3 rfl) (by decide) (fun c6 => ?_) (fun c6 => ?_)
  · replace T := T.1 c6
    refine J_iload_n 23 rfl 2 1 rfl (D_X11_landFrom_0.at 12 rfl) ?_
    exact J_iret rfl (D_X11_landFrom_0.at 13 rfl) T
  replace T := T.2 c6
  refine J_aload_n 7 rfl 0 0 rfl ⟨by decide, by decide⟩ (D_X11_landFrom_0.at 4 rfl) ?_
  refine J_iload_n 8 rfl 2 1 rfl (D_X11_landFrom_0.at 5 rfl) ?_
  refine J_iconst 9 rfl (D_X11_landFrom_0.at 6 rfl) ?_
  refine J_isub 10 rfl (D_X11_landFrom_0.at 7 rfl) ?_
  refine J_callV (d' := 4) (sr := fun z => [vI z]) (as := [vI (v2 - 1)]) (st := []) (o := 0) 13 rfl ok_X11_isJoined im_X11_isJoined se_X11_isJoined ml_11_387 isC_11 ob_0 (Ob.lt ob_0) rfl (by decide) ⟨Nat.le_refl _, Nat.le_refl _⟩ (Nat.le_of_ble_eq_true rfl) (D_X11_landFrom_0.at 8 rfl) (fun _ => rfl) T (fun r2 h3 T b4 => ?_)
  replace T := T b4
  refine J_if_eq 16 rfl 22 (inR_b b4) (D_X11_landFrom_0.at 9 rfl) (by decide) (fun c5 => ?_) (fun c5 => ?_)
  · replace T := T.1 c5
    refine J_iload_n 23 rfl 2 1 rfl (D_X11_landFrom_0.at 12 rfl) ?_
    exact J_iret rfl (D_X11_landFrom_0.at 13 rfl) T
  replace T := T.2 c5
  refine J_iinc (v := (v2 + (-1))) (lv' := [(2, vI (v2 + (-1))), (0, vR 0)]) 19 rfl 2 1 (-1) rfl rfl (by decide) rfl (D_X11_landFrom_0.at 10 rfl) ?_
  refine J_goto 2 (D_X11_landFrom_0.at 11 rfl) (by decide) ?_
  exact J_sub (lv' := [(0, vR 0), (2, vI (v2 + (-1)))]) [1, 0] rfl T
theorem c_X11_landTo {w : Wd} {a1 : Int} {h : Hp} {K : Int → Hp → Prop} (T : L_X11_landTo_2 w a1 h K) : C_X11_landTo w a1 h K := by
  refine CGm_of2 (by decide) (by decide) trivial (Nat.le_of_ble_eq_true rfl) ?_
  refine J_iload_n 1 rfl 1 1 rfl (D_X11_landTo_0.at 0 rfl) ?_
  refine J_istore_n (lv' := [(2, vI a1), (0, vR 0), (1, vI a1)]) 2 rfl 2 (by decide) rfl (D_X11_landTo_0.at 1 rfl) ?_
  exact J_sub (lv' := [(0, vR 0), (2, vI a1)]) [1, 0] rfl T
theorem l_X11_landTo_2 {w : Wd} {v2 : Int} {h : Hp} {K : Int → Hp → Prop} (T : (Ob 7 (h 0 4)) ∧ ((inR v2) ∧ ((inR (h (h 0 4) 12)) ∧ (((v2 ≥ (h (h 0 4) 12)) → (K v2 h)) ∧ (¬ (v2 ≥ (h (h 0 4) 12)) → (C_X11_isJoined w v2 h (fun r4 h5 => (r4 = 0 ∨ r4 = 1) → ((r4 = 0) → (K v2 h5)) ∧ (¬ (r4 = 0) → (L_X11_landTo_2 w (v2 + 1) h5 K))))))))) : L_X11_landTo_2 w v2 h K := by
  unfold L_X11_landTo_2
  refine J_iload_n 3 rfl 2 1 rfl (D_X11_landTo_0.at 2 rfl) ?_
  refine J_aload_n 4 rfl 0 0 rfl ⟨by decide, by decide⟩ (D_X11_landTo_0.at 3 rfl) ?_
  obtain ⟨s1, T⟩ := T
  refine J_getR (z := (h 0 4)) 7 rfl fl_11_35 rfl ob_0 (Ob.lt ob_0) (D_X11_landTo_0.at 4 rfl) rfl ?_
  refine J_getI (z := (h (h 0 4) 12)) 10 rfl fl_11_151 rfl s1 (Ob.lt s1) (D_X11_landTo_0.at 5 rfl) rfl ?_
  obtain ⟨s2, T⟩ := T
  obtain ⟨s3, T⟩ := T
  refine J_icmp_ge 13 rfl 27 s2 s3 (D_X11_landTo_0.at 6 rfl) (by decide) (fun c8 => ?_) (fun c8 => ?_)
  · replace T := T.1 c8
    refine J_iload_n 28 rfl 2 1 rfl (D_X11_landTo_0.at 13 rfl) ?_
    exact J_iret rfl (D_X11_landTo_0.at 14 rfl) T
  replace T := T.2 c8
  refine J_aload_n 14 rfl 0 0 rfl ⟨by decide, by decide⟩ (D_X11_landTo_0.at 7 rfl) ?_
  refine J_iload_n 15 rfl 2 1 rfl (D_X11_landTo_0.at 8 rfl) ?_
  refine J_callV (d' := 4) (sr := fun z => [vI z]) (as := [vI v2]) (st := []) (o := 0) 18 rfl ok_X11_isJoined im_X11_isJoined se_X11_isJoined ml_11_387 isC_11 ob_0 (Ob.lt ob_0) rfl (by decide) ⟨Nat.le_refl _, Nat.le_refl _⟩ (Nat.le_of_ble_eq_true rfl) (D_X11_landTo_0.at 9 rfl) (fun _ => rfl) T (fun r4 h5 T b6 => ?_)
  replace T := T b6
  refine J_if_eq 21 rfl 27 (inR_b b6) (D_X11_landTo_0.at 10 rfl) (by decide) (fun c7 => ?_) (fun c7 => ?_)
  · replace T := T.1 c7
    refine J_iload_n 28 rfl 2 1 rfl (D_X11_landTo_0.at 13 rfl) ?_
    exact J_iret rfl (D_X11_landTo_0.at 14 rfl) T
  replace T := T.2 c7
  refine J_iinc (v := (v2 + 1)) (lv' := [(2, vI (v2 + 1)), (0, vR 0)]) 24 rfl 2 1 1 rfl rfl (by decide) rfl (D_X11_landTo_0.at 11 rfl) ?_
  refine J_goto 2 (D_X11_landTo_0.at 12 rfl) (by decide) ?_
  exact J_sub (lv' := [(0, vR 0), (2, vI (v2 + 1))]) [1, 0] rfl T
theorem c_X11_cuts {w : Wd} {a1 a2 : Int} {h : Hp} {K : Int → Hp → Prop} (T : (Ob 7 (h 0 4)) ∧ (C_X7_hasBank w (h 0 4) a1 h (fun r2 h3 => (r2 = 0 ∨ r2 = 1) → ((r2 = 0) → (K (-1) h3)) ∧ (¬ (r2 = 0) → ((inR a2) ∧ (((a2 < 0) → (K (-1) h3)) ∧ (¬ (a2 < 0) → ((inR a2) ∧ (((a2 ≥ 10) → (K (-1) h3)) ∧ (¬ (a2 ≥ 10) → ((Ob 7 (h3 0 4)) ∧ (C_X0_aim w (h3 0 4) 40 a2 h3 (fun _ h9 => C_X0_cutOf w a1 h9 (fun r11 h12 => K r11 h12)))))))))))))) : C_X11_cuts w a1 a2 h K := by
  refine CGm_of2 (by decide) (by decide) trivial (Nat.le_of_ble_eq_true rfl) ?_
  refine J_aload_n 1 rfl 0 0 rfl ⟨by decide, by decide⟩ (D_X11_cuts_0.at 0 rfl) ?_
  obtain ⟨s1, T⟩ := T
  refine J_getR (z := (h 0 4)) 4 rfl fl_11_35 rfl ob_0 (Ob.lt ob_0) (D_X11_cuts_0.at 1 rfl) rfl ?_
  refine J_iload_n 5 rfl 1 1 rfl (D_X11_cuts_0.at 2 rfl) ?_
  refine J_callV (d' := 1) (sr := fun z => [vI z]) (as := [vI a1]) (st := []) (o := (h 0 4)) 8 rfl ok_X7_hasBank im_X7_hasBank se_X7_hasBank ml_11_202 isC_7 s1 (Ob.lt s1) rfl (by decide) ⟨Nat.le_refl _, Nat.le_refl _⟩ (Nat.le_of_ble_eq_true rfl) (D_X11_cuts_0.at 3 rfl) (fun _ => rfl) T (fun r2 h3 T b4 => ?_)
  replace T := T b4
  refine J_if_eq 11 rfl 18 (inR_b b4) (D_X11_cuts_0.at 4 rfl) (by decide) (fun c16 => ?_) (fun c16 => ?_)
  · replace T := T.1 c16
    refine J_iconst 19 rfl (D_X11_cuts_0.at 8 rfl) ?_
    exact J_iret rfl (D_X11_cuts_0.at 9 rfl) T
  replace T := T.2 c16
  refine J_iload_n 12 rfl 2 2 rfl (D_X11_cuts_0.at 5 rfl) ?_
  refine J_callS (d' := 1) (K1 := fun z h0 => rok (some .boolean) z → JG w true m_X11_cuts 5 NT NT 15 [(0, vR 0), (1, vI a1), (2, vI a2)] [vI z] h0 _) (sr := fun z => [vI z]) (as := [vI a2]) (st := []) 15 rfl ok_X11_isLevel sm_X11_isLevel ml_11_263 rfl (by decide) ⟨Nat.le_refl _, Nat.le_refl _⟩ (Nat.le_of_ble_eq_true rfl) (D_X11_cuts_0.at 6 rfl) (fun _ => rfl) (CGm_of2 (by decide) (by decide) trivial (Nat.le_of_ble_eq_true rfl) ?_) (fun _ _ kq hb => kq hb)
  refine J_iload_n 1 rfl 0 0 rfl (D_X11_isLevel_0.at 0 rfl) ?_
  obtain ⟨s5, T⟩ := T
  refine J_if_lt 4 rfl 14 s5 (D_X11_isLevel_0.at 1 rfl) (by decide) (fun c15 => ?_) (fun c15 => ?_)
  · replace T := T.1 c15
    refine J_iconst 15 rfl (D_X11_isLevel_0.at 7 rfl) ?_
    refine J_zret rfl (Or.inl rfl) (D_X11_isLevel_0.at 8 rfl) (fun _ => ?_)
    refine J_if_ne 18 rfl 20 ⟨by decide, by decide⟩ (D_X11_cuts_0.at 7 rfl) (by decide) (fun c => absurd c (by decide)) (fun _ => ?_)
    refine J_iconst 19 rfl (D_X11_cuts_0.at 8 rfl) ?_
    exact J_iret rfl (D_X11_cuts_0.at 9 rfl) T
  replace T := T.2 c15
  refine J_iload_n 5 rfl 0 0 rfl (D_X11_isLevel_0.at 2 rfl) ?_
  refine J_bipush 7 rfl ⟨by decide, by decide⟩ (D_X11_isLevel_0.at 3 rfl) ?_
  obtain ⟨s6, T⟩ := T
  refine J_icmp_ge 10 rfl 14 s6 ⟨by decide, by decide⟩ (D_X11_isLevel_0.at 4 rfl) (by decide) (fun c14 => ?_) (fun c14 => ?_)
  · replace T := T.1 c14
    refine J_iconst 15 rfl (D_X11_isLevel_0.at 7 rfl) ?_
    refine J_zret rfl (Or.inl rfl) (D_X11_isLevel_0.at 8 rfl) (fun _ => ?_)
    refine J_if_ne 18 rfl 20 ⟨by decide, by decide⟩ (D_X11_cuts_0.at 7 rfl) (by decide) (fun c => absurd c (by decide)) (fun _ => ?_)
    refine J_iconst 19 rfl (D_X11_cuts_0.at 8 rfl) ?_
    exact J_iret rfl (D_X11_cuts_0.at 9 rfl) T
  replace T := T.2 c14
  refine J_iconst 11 rfl (D_X11_isLevel_0.at 5 rfl) ?_
  refine J_goto 15 (D_X11_isLevel_0.at 6 rfl) (by decide) ?_
  refine J_zret rfl (Or.inr rfl) (D_X11_isLevel_0.at 8 rfl) (fun _ => ?_)
  refine J_if_ne 18 rfl 20 ⟨by decide, by decide⟩ (D_X11_cuts_0.at 7 rfl) (by decide) (fun _ => ?_) (fun c => absurd (by decide) c)
  refine J_aload_n 21 rfl 0 0 rfl ⟨by decide, by decide⟩ (D_X11_cuts_0.at 10 rfl) ?_
  refine J_getF (ov := 61) (dd := 1061) 24 rfl fl_11_97 rfl (by decide) rfl ob_0 (Ob.lt ob_0) (D_X11_cuts_0.at 11 rfl) ?_
  refine J_aload_n 25 rfl 0 0 rfl ⟨by decide, by decide⟩ (D_X11_cuts_0.at 12 rfl) ?_
  obtain ⟨s7, T⟩ := T
  refine J_getR (z := (h3 0 4)) 28 rfl fl_11_35 rfl ob_0 (Ob.lt ob_0) (D_X11_cuts_0.at 13 rfl) rfl ?_
  refine J_aload_n 29 rfl 0 0 rfl ⟨by decide, by decide⟩ (D_X11_cuts_0.at 14 rfl) ?_
  refine J_getF (ov := 40) (dd := 1040) 32 rfl fl_11_45 rfl (by decide) rfl ob_0 (Ob.lt ob_0) (D_X11_cuts_0.at 15 rfl) ?_
  refine J_iload_n 33 rfl 2 2 rfl (D_X11_cuts_0.at 16 rfl) ?_
  refine J_callV (d' := 1) (sr := fun z => []) (as := [vR (h3 0 4), vR 40, vI a2]) (st := []) (o := 61) 36 rfl ok_X0_aim im_X0_aim se_X0_aim ml_11_266 isC_0 ob_61 (Ob.lt ob_61) rfl (by decide) ⟨Nat.le_refl _, Nat.le_refl _⟩ (Nat.le_of_ble_eq_true rfl) (D_X11_cuts_0.at 17 rfl) (fun _ => rfl) T (fun r8 h9 T b10 => ?_)
  refine J_aload_n 37 rfl 0 0 rfl ⟨by decide, by decide⟩ (D_X11_cuts_0.at 18 rfl) ?_
  refine J_getF (ov := 61) (dd := 1061) 40 rfl fl_11_97 rfl (by decide) rfl ob_0 (Ob.lt ob_0) (D_X11_cuts_0.at 19 rfl) ?_
  refine J_iload_n 41 rfl 1 1 rfl (D_X11_cuts_0.at 20 rfl) ?_
  refine J_callV (d' := 4) (sr := fun z => [vI z]) (as := [vI a1]) (st := []) (o := 61) 44 rfl ok_X0_cutOf im_X0_cutOf se_X0_cutOf ml_11_273 isC_0 ob_61 (Ob.lt ob_61) rfl (by decide) ⟨Nat.le_refl _, Nat.le_refl _⟩ (Nat.le_of_ble_eq_true rfl) (D_X11_cuts_0.at 21 rfl) (fun _ => rfl) T (fun r11 h12 T b13 => ?_)
  exact J_iret rfl (D_X11_cuts_0.at 22 rfl) T
theorem c_X11_on {w : Wd} {h : Hp} {K : Int → Hp → Prop} (T : C_X11_isImage w h (fun r1 h2 => (r1 = 0 ∨ r1 = 1) → ∀ h4 : Hp, h4 = hu h2 1 1 0 → ((r1 ≠ 0) → (C_X9_copy w 40 45 h4 (fun _ h7 => ∀ h9 : Hp, h9 = hu h7 50 2 0 → K 1 h9))) ∧ (¬ (r1 ≠ 0) → (C_X11_refuseAct w 5 h4 (fun r11 h12 => (r11 = 0 ∨ r11 = 1) → K r11 h12))))) : C_X11_on w h K := by
  refine CGm_of2 (by decide) (by decide) trivial (Nat.le_of_ble_eq_true rfl) ?_
  refine J_aload_n 1 rfl 0 0 rfl ⟨by decide, by decide⟩ (D_X11_on_0.at 0 rfl) ?_
  refine J_callV (d' := 4) (sr := fun z => [vI z]) (as := []) (st := []) (o := 0) 4 rfl ok_X11_isImage im_X11_isImage se_X11_isImage ml_11_363 isC_11 ob_0 (Ob.lt ob_0) rfl (by decide) ⟨Nat.le_refl _, Nat.le_refl _⟩ (Nat.le_of_ble_eq_true rfl) (D_X11_on_0.at 1 rfl) (fun _ => rfl) T (fun r1 h2 T b3 => ?_)
  replace T := T b3
  refine J_istore_n (lv' := [(1, vI r1), (0, vR 0)]) 5 rfl 1 (by decide) rfl (D_X11_on_0.at 2 rfl) ?_
  refine J_aload_n 6 rfl 0 1 rfl ⟨by decide, by decide⟩ (D_X11_on_0.at 3 rfl) ?_
  refine J_getF (ov := 1) (dd := 1001) 9 rfl fl_11_12 rfl (by decide) rfl ob_0 (Ob.lt ob_0) (D_X11_on_0.at 4 rfl) ?_
  refine J_iconst 10 rfl (D_X11_on_0.at 5 rfl) ?_
  refine J_putI 13 rfl fl_11_110 rfl rfl ob_1 (Ob.lt ob_1) (D_X11_on_0.at 6 rfl) (fun h4 e5 => ?_)
  replace T := T h4 e5
  refine J_iload_n 14 rfl 1 0 rfl (D_X11_on_0.at 7 rfl) ?_
  refine J_if_ne 17 rfl 23 (inR_b b3) (D_X11_on_0.at 8 rfl) (by decide) (fun c14 => ?_) (fun c14 => ?_)
  · replace T := T.1 c14
    refine J_aload_n 24 rfl 0 1 rfl ⟨by decide, by decide⟩ (D_X11_on_0.at 13 rfl) ?_
    refine J_getF (ov := 40) (dd := 1040) 27 rfl fl_11_45 rfl (by decide) rfl ob_0 (Ob.lt ob_0) (D_X11_on_0.at 14 rfl) ?_
    refine J_aload_n 28 rfl 0 1 rfl ⟨by decide, by decide⟩ (D_X11_on_0.at 15 rfl) ?_
    refine J_getF (ov := 45) (dd := 1045) 31 rfl fl_11_49 rfl (by decide) rfl ob_0 (Ob.lt ob_0) (D_X11_on_0.at 16 rfl) ?_
    refine J_callV (d' := 1) (sr := fun z => []) (as := [vR 45]) (st := []) (o := 40) 34 rfl ok_X9_copy im_X9_copy se_X9_copy ml_11_327 isC_9 ob_40 (Ob.lt ob_40) rfl (by decide) ⟨Nat.le_refl _, Nat.le_refl _⟩ (Nat.le_of_ble_eq_true rfl) (D_X11_on_0.at 17 rfl) (fun _ => rfl) T (fun r6 h7 T b8 => ?_)
    refine J_aload_n 35 rfl 0 1 rfl ⟨by decide, by decide⟩ (D_X11_on_0.at 18 rfl) ?_
    refine J_getF (ov := 50) (dd := 1050) 38 rfl fl_11_55 rfl (by decide) rfl ob_0 (Ob.lt ob_0) (D_X11_on_0.at 19 rfl) ?_
    refine J_callV (d' := 1) (K1 := fun z h0 => rok (none) z → JG w true m_X11_on 5 NT NT 41 [(1, vI r1), (0, vR 0)] [] h0 _) (sr := fun z => []) (as := []) (st := []) (o := 50) 41 rfl ok_X5_clear im_X5_clear se_X5_clear ml_11_139 isC_5 ob_50 (Ob.lt ob_50) rfl (by decide) ⟨Nat.le_refl _, Nat.le_refl _⟩ (Nat.le_of_ble_eq_true rfl) (D_X11_on_0.at 20 rfl) (fun _ => rfl) (CGm_of2 (by decide) (by decide) trivial (Nat.le_of_ble_eq_true rfl) ?_) (fun _ _ kq hb => kq hb)
    refine J_aload_n 1 rfl 0 0 rfl ⟨by decide, by decide⟩ (D_X5_clear_0.at 0 rfl) ?_
    refine J_iconst 2 rfl (D_X5_clear_0.at 1 rfl) ?_
    refine J_putI 5 rfl fl_5_15 rfl rfl ob_50 (Ob.lt ob_50) (D_X5_clear_0.at 2 rfl) (fun h9 e10 => ?_)
    replace T := T h9 e10
    refine J_vret rfl (D_X5_clear_0.at 3 rfl) (fun _ => ?_)
    refine J_iconst 42 rfl (D_X11_on_0.at 21 rfl) ?_
    exact J_zret rfl (Or.inr rfl) (D_X11_on_0.at 22 rfl) T
  replace T := T.2 c14
  refine J_aload_n 18 rfl 0 1 rfl ⟨by decide, by decide⟩ (D_X11_on_0.at 9 rfl) ?_
  refine J_iconst 19 rfl (D_X11_on_0.at 10 rfl) ?_
  refine J_callV (d' := 2) (sr := fun z => [vI z]) (as := [vI 5]) (st := []) (o := 0) 22 rfl ok_X11_refuseAct im_X11_refuseAct se_X11_refuseAct ml_11_121 isC_11 ob_0 (Ob.lt ob_0) rfl (by decide) ⟨Nat.le_refl _, Nat.le_refl _⟩ (Nat.le_of_ble_eq_true rfl) (D_X11_on_0.at 11 rfl) (fun _ => rfl) T (fun r11 h12 T b13 => ?_)
  replace T := T b13
  exact J_zret rfl b13 (D_X11_on_0.at 12 rfl) T
theorem c_X11_reach {w : Wd} {a1 a2 : Int} {h : Hp} {K : Int → Hp → Prop} (T : (Ob 7 (h 0 4)) ∧ (C_X7_hasReach w (h 0 4) a1 h (fun r2 h3 => (r2 = 0 ∨ r2 = 1) → ((r2 ≠ 0) → ((inR a2) ∧ ((a2 = 0 → (Ob 7 (h3 0 4)) ∧ ((0 ≤ a1 ∧ a1 < 8) ∧ (K (h3 ((h3 0 4) + 7) a1) h3))) ∧ (a2 = 1 → (0 ≤ a1 ∧ a1 < 8) ∧ (K (h3 41 a1) h3)) ∧ (a2 = 2 → C_X9_lyingIn w 40 a1 h3 (fun r10 h11 => K r10 h11)) ∧ (a2 = 3 → C_X11_isIsland w a1 h3 (fun r13 h14 => (r13 = 0 ∨ r13 = 1) → ((r13 = 0) → (K 0 h14)) ∧ (¬ (r13 = 0) → (K 1 h14)))) ∧ (a2 = 4 → C_X11_majority w a1 h3 (fun r17 h18 => K r17 h18)) ∧ (a2 = 5 → C_X11_isIsland w a1 h3 (fun r20 h21 => (r20 = 0 ∨ r20 = 1) → ((r20 = 0) → (K (-1) h21)) ∧ (¬ (r20 = 0) → (C_X11_landFrom w a1 h21 (fun r23 h24 => K r23 h24))))) ∧ (a2 = 6 → C_X11_isIsland w a1 h3 (fun r27 h28 => (r27 = 0 ∨ r27 = 1) → ((r27 = 0) → (K (-1) h28)) ∧ (¬ (r27 = 0) → (C_X11_landTo w a1 h28 (fun r30 h31 => K r30 h31))))) ∧ (a2 = 7 → C_X11_isIsland w a1 h3 (fun r34 h35 => (r34 = 0 ∨ r34 = 1) → ((r34 = 0) → (K (-1) h35)) ∧ (¬ (r34 = 0) → (C_X11_landFrom w a1 h35 (fun r37 h38 => C_X11_landTo w a1 h38 (fun r40 h41 => C_X11_vote w r37 r40 h41 (fun r43 h44 => K r43 h44))))))) ∧ ((a2 < 0 ∨ 7 < a2) → K (-1) h3)))) ∧ (¬ (r2 ≠ 0) → (K (-1) h3))))) : C_X11_reach w a1 a2 h K := by
  refine CGm_of2 (by decide) (by decide) trivial (Nat.le_of_ble_eq_true rfl) ?_
  refine J_aload_n 1 rfl 0 0 rfl ⟨by decide, by decide⟩ (D_X11_reach_0.at 0 rfl) ?_
  obtain ⟨s1, T⟩ := T
  refine J_getR (z := (h 0 4)) 4 rfl fl_11_35 rfl ob_0 (Ob.lt ob_0) (D_X11_reach_0.at 1 rfl) rfl ?_
  refine J_iload_n 5 rfl 1 1 rfl (D_X11_reach_0.at 2 rfl) ?_
  refine J_callV (d' := 1) (sr := fun z => [vI z]) (as := [vI a1]) (st := []) (o := (h 0 4)) 8 rfl ok_X7_hasReach im_X7_hasReach se_X7_hasReach ml_11_220 isC_7 s1 (Ob.lt s1) rfl (by decide) ⟨Nat.le_refl _, Nat.le_refl _⟩ (Nat.le_of_ble_eq_true rfl) (D_X11_reach_0.at 3 rfl) (fun _ => rfl) T (fun r2 h3 T b4 => ?_)
  replace T := T b4
  refine J_if_ne 11 rfl 13 (inR_b b4) (D_X11_reach_0.at 4 rfl) (by decide) (fun c47 => ?_) (fun c47 => ?_)
  · replace T := T.1 c47
    refine J_iload_n 14 rfl 2 2 rfl (D_X11_reach_0.at 7 rfl) ?_
    obtain ⟨s5, T⟩ := T
    have tg : a2 = 0 ∨ a2 = 1 ∨ a2 = 2 ∨ a2 = 3 ∨ a2 = 4 ∨ a2 = 5 ∨ a2 = 6 ∨ a2 = 7 ∨ (a2 < 0 ∨ 7 < a2) := by omega
    rcases tg with g6 | g6 | g6 | g6 | g6 | g6 | g6 | g6 | g6
    · replace T := T.1 g6
      refine J_tab 46 60 s5 (D_X11_reach_0.at 8 rfl) ⟨by omega, by omega⟩ (by rw [g6]; rfl) (by decide) ?_
      refine J_aload_n 61 rfl 0 0 rfl ⟨by decide, by decide⟩ (D_X11_reach_0.at 9 rfl) ?_
      obtain ⟨s7, T⟩ := T
      refine J_getR (z := (h3 0 4)) 64 rfl fl_11_35 rfl ob_0 (Ob.lt ob_0) (D_X11_reach_0.at 10 rfl) rfl ?_
      refine J_getF (ov := ((h3 0 4) + 7)) (dd := 1007) 67 rfl fl_11_223 rfl (by decide) rfl s7 (Ob.lt s7) (D_X11_reach_0.at 11 rfl) ?_
      refine J_iload_n 68 rfl 1 1 rfl (D_X11_reach_0.at 12 rfl) ?_
      obtain ⟨s8, T⟩ := T
      refine J_iald 69 rfl (of_7_3 s7) (Ar.lt (of_7_3 s7)) s8 (D_X11_reach_0.at 13 rfl) ?_
      exact J_iret rfl (D_X11_reach_0.at 14 rfl) T
    · replace T := T.2.1 g6
      refine J_tab 56 70 s5 (D_X11_reach_0.at 8 rfl) ⟨by omega, by omega⟩ (by rw [g6]; rfl) (by decide) ?_
      refine J_aload_n 71 rfl 0 0 rfl ⟨by decide, by decide⟩ (D_X11_reach_0.at 15 rfl) ?_
      refine J_getF (ov := 40) (dd := 1040) 74 rfl fl_11_45 rfl (by decide) rfl ob_0 (Ob.lt ob_0) (D_X11_reach_0.at 16 rfl) ?_
      refine J_getF (ov := 41) (dd := 1001) 77 rfl fl_11_181 rfl (by decide) rfl ob_40 (Ob.lt ob_40) (D_X11_reach_0.at 17 rfl) ?_
      refine J_iload_n 78 rfl 1 1 rfl (D_X11_reach_0.at 18 rfl) ?_
      obtain ⟨s9, T⟩ := T
      refine J_iald 79 rfl ar_41 (Ar.lt ar_41) s9 (D_X11_reach_0.at 19 rfl) ?_
      exact J_iret rfl (D_X11_reach_0.at 20 rfl) T
    · replace T := T.2.2.1 g6
      refine J_tab 66 80 s5 (D_X11_reach_0.at 8 rfl) ⟨by omega, by omega⟩ (by rw [g6]; rfl) (by decide) ?_
      refine J_aload_n 81 rfl 0 0 rfl ⟨by decide, by decide⟩ (D_X11_reach_0.at 21 rfl) ?_
      refine J_getF (ov := 40) (dd := 1040) 84 rfl fl_11_45 rfl (by decide) rfl ob_0 (Ob.lt ob_0) (D_X11_reach_0.at 22 rfl) ?_
      refine J_iload_n 85 rfl 1 1 rfl (D_X11_reach_0.at 23 rfl) ?_
      refine J_callV (d' := 2) (sr := fun z => [vI z]) (as := [vI a1]) (st := []) (o := 40) 88 rfl ok_X9_lyingIn im_X9_lyingIn se_X9_lyingIn ml_11_226 isC_9 ob_40 (Ob.lt ob_40) rfl (by decide) ⟨Nat.le_refl _, Nat.le_refl _⟩ (Nat.le_of_ble_eq_true rfl) (D_X11_reach_0.at 24 rfl) (fun _ => rfl) T (fun r10 h11 T b12 => ?_)
      exact J_iret rfl (D_X11_reach_0.at 25 rfl) T
    · replace T := T.2.2.2.1 g6
      refine J_tab 75 89 s5 (D_X11_reach_0.at 8 rfl) ⟨by omega, by omega⟩ (by rw [g6]; rfl) (by decide) ?_
      refine J_aload_n 90 rfl 0 0 rfl ⟨by decide, by decide⟩ (D_X11_reach_0.at 26 rfl) ?_
      refine J_iload_n 91 rfl 1 1 rfl (D_X11_reach_0.at 27 rfl) ?_
      refine J_callV (d' := 3) (sr := fun z => [vI z]) (as := [vI a1]) (st := []) (o := 0) 94 rfl ok_X11_isIsland im_X11_isIsland se_X11_isIsland ml_11_229 isC_11 ob_0 (Ob.lt ob_0) rfl (by decide) ⟨Nat.le_refl _, Nat.le_refl _⟩ (Nat.le_of_ble_eq_true rfl) (D_X11_reach_0.at 28 rfl) (fun _ => rfl) T (fun r13 h14 T b15 => ?_)
      replace T := T b15
      refine J_if_eq 97 rfl 101 (inR_b b15) (D_X11_reach_0.at 29 rfl) (by decide) (fun c16 => ?_) (fun c16 => ?_)
      · replace T := T.1 c16
        refine J_iconst 102 rfl (D_X11_reach_0.at 32 rfl) ?_
        exact J_iret rfl (D_X11_reach_0.at 33 rfl) T
      replace T := T.2 c16
      refine J_iconst 98 rfl (D_X11_reach_0.at 30 rfl) ?_
      refine J_goto 102 (D_X11_reach_0.at 31 rfl) (by decide) ?_
      exact J_iret rfl (D_X11_reach_0.at 33 rfl) T
    · replace T := T.2.2.2.2.1 g6
      refine J_tab 89 103 s5 (D_X11_reach_0.at 8 rfl) ⟨by omega, by omega⟩ (by rw [g6]; rfl) (by decide) ?_
      refine J_aload_n 104 rfl 0 0 rfl ⟨by decide, by decide⟩ (D_X11_reach_0.at 34 rfl) ?_
      refine J_iload_n 105 rfl 1 1 rfl (D_X11_reach_0.at 35 rfl) ?_
      refine J_callV (d' := 4) (sr := fun z => [vI z]) (as := [vI a1]) (st := []) (o := 0) 108 rfl ok_X11_majority im_X11_majority se_X11_majority ml_11_232 isC_11 ob_0 (Ob.lt ob_0) rfl (by decide) ⟨Nat.le_refl _, Nat.le_refl _⟩ (Nat.le_of_ble_eq_true rfl) (D_X11_reach_0.at 36 rfl) (fun _ => rfl) T (fun r17 h18 T b19 => ?_)
      exact J_iret rfl (D_X11_reach_0.at 37 rfl) T
    · replace T := T.2.2.2.2.2.1 g6
      refine J_tab 95 109 s5 (D_X11_reach_0.at 8 rfl) ⟨by omega, by omega⟩ (by rw [g6]; rfl) (by decide) ?_
      refine J_aload_n 110 rfl 0 0 rfl ⟨by decide, by decide⟩ (D_X11_reach_0.at 38 rfl) ?_
      refine J_iload_n 111 rfl 1 1 rfl (D_X11_reach_0.at 39 rfl) ?_
      refine J_callV (d' := 3) (sr := fun z => [vI z]) (as := [vI a1]) (st := []) (o := 0) 114 rfl ok_X11_isIsland im_X11_isIsland se_X11_isIsland ml_11_229 isC_11 ob_0 (Ob.lt ob_0) rfl (by decide) ⟨Nat.le_refl _, Nat.le_refl _⟩ (Nat.le_of_ble_eq_true rfl) (D_X11_reach_0.at 40 rfl) (fun _ => rfl) T (fun r20 h21 T b22 => ?_)
      replace T := T b22
      refine J_if_eq 117 rfl 125 (inR_b b22) (D_X11_reach_0.at 41 rfl) (by decide) (fun c26 => ?_) (fun c26 => ?_)
      · replace T := T.1 c26
        refine J_iconst 126 rfl (D_X11_reach_0.at 46 rfl) ?_
        exact J_iret rfl (D_X11_reach_0.at 47 rfl) T
      replace T := T.2 c26
      refine J_aload_n 118 rfl 0 0 rfl ⟨by decide, by decide⟩ (D_X11_reach_0.at 42 rfl) ?_
      refine J_iload_n 119 rfl 1 1 rfl (D_X11_reach_0.at 43 rfl) ?_
      refine J_callV (d' := 5) (sr := fun z => [vI z]) (as := [vI a1]) (st := []) (o := 0) 122 rfl ok_X11_landFrom im_X11_landFrom se_X11_landFrom ml_11_235 isC_11 ob_0 (Ob.lt ob_0) rfl (by decide) ⟨Nat.le_refl _, Nat.le_refl _⟩ (Nat.le_of_ble_eq_true rfl) (D_X11_reach_0.at 44 rfl) (fun _ => rfl) T (fun r23 h24 T b25 => ?_)
      refine J_goto 126 (D_X11_reach_0.at 45 rfl) (by decide) ?_
      exact J_iret rfl (D_X11_reach_0.at 47 rfl) T
    · replace T := T.2.2.2.2.2.2.1 g6
      refine J_tab 113 127 s5 (D_X11_reach_0.at 8 rfl) ⟨by omega, by omega⟩ (by rw [g6]; rfl) (by decide) ?_
      refine J_aload_n 128 rfl 0 0 rfl ⟨by decide, by decide⟩ (D_X11_reach_1.at 0 rfl) ?_
      refine J_iload_n 129 rfl 1 1 rfl (D_X11_reach_1.at 1 rfl) ?_
      refine J_callV (d' := 3) (sr := fun z => [vI z]) (as := [vI a1]) (st := []) (o := 0) 132 rfl ok_X11_isIsland im_X11_isIsland se_X11_isIsland ml_11_229 isC_11 ob_0 (Ob.lt ob_0) rfl (by decide) ⟨Nat.le_refl _, Nat.le_refl _⟩ (Nat.le_of_ble_eq_true rfl) (D_X11_reach_1.at 2 rfl) (fun _ => rfl) T (fun r27 h28 T b29 => ?_)
      replace T := T b29
      refine J_if_eq 135 rfl 143 (inR_b b29) (D_X11_reach_1.at 3 rfl) (by decide) (fun c33 => ?_) (fun c33 => ?_)
      · replace T := T.1 c33
        refine J_iconst 144 rfl (D_X11_reach_1.at 8 rfl) ?_
        exact J_iret rfl (D_X11_reach_1.at 9 rfl) T
      replace T := T.2 c33
      refine J_aload_n 136 rfl 0 0 rfl ⟨by decide, by decide⟩ (D_X11_reach_1.at 4 rfl) ?_
      refine J_iload_n 137 rfl 1 1 rfl (D_X11_reach_1.at 5 rfl) ?_
      refine J_callV (d' := 5) (sr := fun z => [vI z]) (as := [vI a1]) (st := []) (o := 0) 140 rfl ok_X11_landTo im_X11_landTo se_X11_landTo ml_11_238 isC_11 ob_0 (Ob.lt ob_0) rfl (by decide) ⟨Nat.le_refl _, Nat.le_refl _⟩ (Nat.le_of_ble_eq_true rfl) (D_X11_reach_1.at 6 rfl) (fun _ => rfl) T (fun r30 h31 T b32 => ?_)
      refine J_goto 144 (D_X11_reach_1.at 7 rfl) (by decide) ?_
      exact J_iret rfl (D_X11_reach_1.at 9 rfl) T
    · replace T := T.2.2.2.2.2.2.2.1 g6
      refine J_tab 131 145 s5 (D_X11_reach_0.at 8 rfl) ⟨by omega, by omega⟩ (by rw [g6]; rfl) (by decide) ?_
      refine J_aload_n 146 rfl 0 0 rfl ⟨by decide, by decide⟩ (D_X11_reach_1.at 10 rfl) ?_
      refine J_iload_n 147 rfl 1 1 rfl (D_X11_reach_1.at 11 rfl) ?_
      refine J_callV (d' := 3) (sr := fun z => [vI z]) (as := [vI a1]) (st := []) (o := 0) 150 rfl ok_X11_isIsland im_X11_isIsland se_X11_isIsland ml_11_229 isC_11 ob_0 (Ob.lt ob_0) rfl (by decide) ⟨Nat.le_refl _, Nat.le_refl _⟩ (Nat.le_of_ble_eq_true rfl) (D_X11_reach_1.at 12 rfl) (fun _ => rfl) T (fun r34 h35 T b36 => ?_)
      replace T := T b36
      refine J_if_eq 153 rfl 170 (inR_b b36) (D_X11_reach_1.at 13 rfl) (by decide) (fun c46 => ?_) (fun c46 => ?_)
      · replace T := T.1 c46
        refine J_iconst 171 rfl (D_X11_reach_1.at 23 rfl) ?_
        exact J_iret rfl (D_X11_reach_1.at 24 rfl) T
      replace T := T.2 c46
      refine J_aload_n 154 rfl 0 0 rfl ⟨by decide, by decide⟩ (D_X11_reach_1.at 14 rfl) ?_
      refine J_aload_n 155 rfl 0 0 rfl ⟨by decide, by decide⟩ (D_X11_reach_1.at 15 rfl) ?_
      refine J_iload_n 156 rfl 1 1 rfl (D_X11_reach_1.at 16 rfl) ?_
      refine J_callV (d' := 5) (sr := fun z => [vI z, vR 0]) (as := [vI a1]) (st := [vR 0]) (o := 0) 159 rfl ok_X11_landFrom im_X11_landFrom se_X11_landFrom ml_11_235 isC_11 ob_0 (Ob.lt ob_0) rfl (by decide) ⟨Nat.le_refl _, Nat.le_refl _⟩ (Nat.le_of_ble_eq_true rfl) (D_X11_reach_1.at 17 rfl) (fun _ => rfl) T (fun r37 h38 T b39 => ?_)
      refine J_aload_n 160 rfl 0 0 rfl ⟨by decide, by decide⟩ (D_X11_reach_1.at 18 rfl) ?_
      refine J_iload_n 161 rfl 1 1 rfl (D_X11_reach_1.at 19 rfl) ?_
      refine J_callV (d' := 5) (sr := fun z => [vI z, vI r37, vR 0]) (as := [vI a1]) (st := [vI r37, vR 0]) (o := 0) 164 rfl ok_X11_landTo im_X11_landTo se_X11_landTo ml_11_238 isC_11 ob_0 (Ob.lt ob_0) rfl (by decide) ⟨Nat.le_refl _, Nat.le_refl _⟩ (Nat.le_of_ble_eq_true rfl) (D_X11_reach_1.at 20 rfl) (fun _ => rfl) T (fun r40 h41 T b42 => ?_)
      refine J_callV (d' := 3) (sr := fun z => [vI z]) (as := [vI r37, vI r40]) (st := []) (o := 0) 167 rfl ok_X11_vote im_X11_vote se_X11_vote ml_11_241 isC_11 ob_0 (Ob.lt ob_0) rfl (by decide) ⟨Nat.le_refl _, Nat.le_refl _⟩ (Nat.le_of_ble_eq_true rfl) (D_X11_reach_1.at 21 rfl) (fun _ => rfl) T (fun r43 h44 T b45 => ?_)
      refine J_goto 171 (D_X11_reach_1.at 22 rfl) (by decide) ?_
      exact J_iret rfl (D_X11_reach_1.at 24 rfl) T
    · replace T := T.2.2.2.2.2.2.2.2 g6
      refine J_tabO 172 s5 (D_X11_reach_0.at 8 rfl) g6 (by decide) ?_
      refine J_iconst 173 rfl (D_X11_reach_1.at 25 rfl) ?_
      exact J_iret rfl (D_X11_reach_1.at 26 rfl) T
  replace T := T.2 c47
  refine J_iconst 12 rfl (D_X11_reach_0.at 5 rfl) ?_
  exact J_iret rfl (D_X11_reach_0.at 6 rfl) T
theorem c_X11_imagine {w : Wd} {a1 : Int} {h : Hp} {K : Int → Hp → Prop} (T : (Ob 7 (h 0 4)) ∧ (C_X0_aim w (h 0 4) 40 a1 h (fun _ h3 => (Ob 7 (h3 0 4)) ∧ (C_X0_run w 0 ((h3 (h3 0 4) 12) - 1) h3 (fun _ h7 => K 0 h7))))) : C_X11_imagine w a1 h K := by
  refine CGm_of2 (by decide) (by decide) trivial (Nat.le_of_ble_eq_true rfl) ?_
  refine J_aload_n 1 rfl 0 0 rfl ⟨by decide, by decide⟩ (D_X11_imagine_0.at 0 rfl) ?_
  refine J_getF (ov := 61) (dd := 1061) 4 rfl fl_11_97 rfl (by decide) rfl ob_0 (Ob.lt ob_0) (D_X11_imagine_0.at 1 rfl) ?_
  refine J_aload_n 5 rfl 0 0 rfl ⟨by decide, by decide⟩ (D_X11_imagine_0.at 2 rfl) ?_
  obtain ⟨s1, T⟩ := T
  refine J_getR (z := (h 0 4)) 8 rfl fl_11_35 rfl ob_0 (Ob.lt ob_0) (D_X11_imagine_0.at 3 rfl) rfl ?_
  refine J_aload_n 9 rfl 0 0 rfl ⟨by decide, by decide⟩ (D_X11_imagine_0.at 4 rfl) ?_
  refine J_getF (ov := 40) (dd := 1040) 12 rfl fl_11_45 rfl (by decide) rfl ob_0 (Ob.lt ob_0) (D_X11_imagine_0.at 5 rfl) ?_
  refine J_iload_n 13 rfl 1 1 rfl (D_X11_imagine_0.at 6 rfl) ?_
  refine J_callV (d' := 1) (sr := fun z => []) (as := [vR (h 0 4), vR 40, vI a1]) (st := []) (o := 61) 16 rfl ok_X0_aim im_X0_aim se_X0_aim ml_11_266 isC_0 ob_61 (Ob.lt ob_61) rfl (by decide) ⟨Nat.le_refl _, Nat.le_refl _⟩ (Nat.le_of_ble_eq_true rfl) (D_X11_imagine_0.at 7 rfl) (fun _ => rfl) T (fun r2 h3 T b4 => ?_)
  refine J_aload_n 17 rfl 0 0 rfl ⟨by decide, by decide⟩ (D_X11_imagine_0.at 8 rfl) ?_
  refine J_getF (ov := 61) (dd := 1061) 20 rfl fl_11_97 rfl (by decide) rfl ob_0 (Ob.lt ob_0) (D_X11_imagine_0.at 9 rfl) ?_
  refine J_iconst 21 rfl (D_X11_imagine_0.at 10 rfl) ?_
  refine J_aload_n 22 rfl 0 0 rfl ⟨by decide, by decide⟩ (D_X11_imagine_0.at 11 rfl) ?_
  obtain ⟨s5, T⟩ := T
  refine J_getR (z := (h3 0 4)) 25 rfl fl_11_35 rfl ob_0 (Ob.lt ob_0) (D_X11_imagine_0.at 12 rfl) rfl ?_
  refine J_getI (z := (h3 (h3 0 4) 12)) 28 rfl fl_11_151 rfl s5 (Ob.lt s5) (D_X11_imagine_0.at 13 rfl) rfl ?_
  refine J_iconst 29 rfl (D_X11_imagine_0.at 14 rfl) ?_
  refine J_isub 30 rfl (D_X11_imagine_0.at 15 rfl) ?_
  refine J_callV (d' := 5) (sr := fun z => []) (as := [vI 0, vI ((h3 (h3 0 4) 12) - 1)]) (st := []) (o := 61) 33 rfl ok_X0_run im_X0_run se_X0_run ml_11_373 isC_0 ob_61 (Ob.lt ob_61) rfl (by decide) ⟨Nat.le_refl _, Nat.le_refl _⟩ (Nat.le_of_ble_eq_true rfl) (D_X11_imagine_0.at 16 rfl) (fun _ => rfl) T (fun r6 h7 T b8 => ?_)
  exact J_vret rfl (D_X11_imagine_0.at 17 rfl) T
theorem c_X11_passYear {w : Wd} {a1 a2 : Int} (ha1 : Ob 9 a1) {h : Hp} {K : Int → Hp → Prop} (T : (Ob 7 (h 0 4)) ∧ (C_X0_aim w (h 0 4) a1 a2 h (fun _ h3 => (Ob 7 (h3 0 4)) ∧ (C_X0_run w 0 ((h3 (h3 0 4) 12) - 1) h3 (fun _ h7 => C_X0_lay w h7 (fun _ h10 => (Ob 7 (h10 0 4)) ∧ (C_X9_payInterest w a1 (h10 (h10 0 4) 15) h10 (fun _ h14 => ∀ h16 : Hp, h16 = hu h14 a1 4 ((h14 a1 4) + 1) → C_X0_settledGrains w h16 (fun r18 h19 => K r18 h19))))))))) : C_X11_passYear w a1 a2 h K := by
  refine CGm_of2 (by decide) (by decide) trivial (Nat.le_of_ble_eq_true rfl) ?_
  refine J_aload_n 1 rfl 0 0 rfl ⟨by decide, by decide⟩ (D_X11_passYear_0.at 0 rfl) ?_
  refine J_getF (ov := 61) (dd := 1061) 4 rfl fl_11_97 rfl (by decide) rfl ob_0 (Ob.lt ob_0) (D_X11_passYear_0.at 1 rfl) ?_
  refine J_aload_n 5 rfl 0 0 rfl ⟨by decide, by decide⟩ (D_X11_passYear_0.at 2 rfl) ?_
  obtain ⟨s1, T⟩ := T
  refine J_getR (z := (h 0 4)) 8 rfl fl_11_35 rfl ob_0 (Ob.lt ob_0) (D_X11_passYear_0.at 3 rfl) rfl ?_
  refine J_aload_n 9 rfl 1 1 rfl (Ob.rng ha1) (D_X11_passYear_0.at 4 rfl) ?_
  refine J_iload_n 10 rfl 2 2 rfl (D_X11_passYear_0.at 5 rfl) ?_
  refine J_callV (d' := 1) (sr := fun z => []) (as := [vR (h 0 4), vR a1, vI a2]) (st := []) (o := 61) 13 rfl ok_X0_aim im_X0_aim se_X0_aim ml_11_266 isC_0 ob_61 (Ob.lt ob_61) rfl (by decide) ⟨Nat.le_refl _, Nat.le_refl _⟩ (Nat.le_of_ble_eq_true rfl) (D_X11_passYear_0.at 6 rfl) (fun _ => rfl) T (fun r2 h3 T b4 => ?_)
  refine J_aload_n 14 rfl 0 0 rfl ⟨by decide, by decide⟩ (D_X11_passYear_0.at 7 rfl) ?_
  refine J_getF (ov := 61) (dd := 1061) 17 rfl fl_11_97 rfl (by decide) rfl ob_0 (Ob.lt ob_0) (D_X11_passYear_0.at 8 rfl) ?_
  refine J_iconst 18 rfl (D_X11_passYear_0.at 9 rfl) ?_
  refine J_aload_n 19 rfl 0 0 rfl ⟨by decide, by decide⟩ (D_X11_passYear_0.at 10 rfl) ?_
  obtain ⟨s5, T⟩ := T
  refine J_getR (z := (h3 0 4)) 22 rfl fl_11_35 rfl ob_0 (Ob.lt ob_0) (D_X11_passYear_0.at 11 rfl) rfl ?_
  refine J_getI (z := (h3 (h3 0 4) 12)) 25 rfl fl_11_151 rfl s5 (Ob.lt s5) (D_X11_passYear_0.at 12 rfl) rfl ?_
  refine J_iconst 26 rfl (D_X11_passYear_0.at 13 rfl) ?_
  refine J_isub 27 rfl (D_X11_passYear_0.at 14 rfl) ?_
  refine J_callV (d' := 5) (sr := fun z => []) (as := [vI 0, vI ((h3 (h3 0 4) 12) - 1)]) (st := []) (o := 61) 30 rfl ok_X0_run im_X0_run se_X0_run ml_11_373 isC_0 ob_61 (Ob.lt ob_61) rfl (by decide) ⟨Nat.le_refl _, Nat.le_refl _⟩ (Nat.le_of_ble_eq_true rfl) (D_X11_passYear_0.at 15 rfl) (fun _ => rfl) T (fun r6 h7 T b8 => ?_)
  refine J_aload_n 31 rfl 0 0 rfl ⟨by decide, by decide⟩ (D_X11_passYear_0.at 16 rfl) ?_
  refine J_getF (ov := 61) (dd := 1061) 34 rfl fl_11_97 rfl (by decide) rfl ob_0 (Ob.lt ob_0) (D_X11_passYear_0.at 17 rfl) ?_
  refine J_callV (d' := 2) (sr := fun z => []) (as := []) (st := []) (o := 61) 37 rfl ok_X0_lay im_X0_lay se_X0_lay ml_11_376 isC_0 ob_61 (Ob.lt ob_61) rfl (by decide) ⟨Nat.le_refl _, Nat.le_refl _⟩ (Nat.le_of_ble_eq_true rfl) (D_X11_passYear_0.at 18 rfl) (fun _ => rfl) T (fun r9 h10 T b11 => ?_)
  refine J_aload_n 38 rfl 1 1 rfl (Ob.rng ha1) (D_X11_passYear_0.at 19 rfl) ?_
  refine J_aload_n 39 rfl 0 0 rfl ⟨by decide, by decide⟩ (D_X11_passYear_0.at 20 rfl) ?_
  obtain ⟨s12, T⟩ := T
  refine J_getR (z := (h10 0 4)) 42 rfl fl_11_35 rfl ob_0 (Ob.lt ob_0) (D_X11_passYear_0.at 21 rfl) rfl ?_
  refine J_getI (z := (h10 (h10 0 4) 15)) 45 rfl fl_11_175 rfl s12 (Ob.lt s12) (D_X11_passYear_0.at 22 rfl) rfl ?_
  refine J_callV (d' := 1) (sr := fun z => []) (as := [vI (h10 (h10 0 4) 15)]) (st := []) (o := a1) 48 rfl ok_X9_payInterest im_X9_payInterest se_X9_payInterest ml_11_379 isC_9 ha1 (Ob.lt ha1) rfl (by decide) ⟨Nat.le_refl _, Nat.le_refl _⟩ (Nat.le_of_ble_eq_true rfl) (D_X11_passYear_0.at 23 rfl) (fun _ => rfl) T (fun r13 h14 T b15 => ?_)
  refine J_aload_n 49 rfl 1 1 rfl (Ob.rng ha1) (D_X11_passYear_0.at 24 rfl) ?_
  refine J_dup 50 rfl rfl (D_X11_passYear_0.at 25 rfl) ?_
  refine J_getI (z := (h14 a1 4)) 53 rfl fl_11_178 rfl ha1 (Ob.lt ha1) (D_X11_passYear_0.at 26 rfl) rfl ?_
  refine J_iconst 54 rfl (D_X11_passYear_0.at 27 rfl) ?_
  refine J_iadd 55 rfl (D_X11_passYear_0.at 28 rfl) ?_
  refine J_putI 58 rfl fl_11_178 rfl rfl ha1 (Ob.lt ha1) (D_X11_passYear_0.at 29 rfl) (fun h16 e17 => ?_)
  replace T := T h16 e17
  refine J_aload_n 59 rfl 0 0 rfl ⟨by decide, by decide⟩ (D_X11_passYear_0.at 30 rfl) ?_
  refine J_getF (ov := 61) (dd := 1061) 62 rfl fl_11_97 rfl (by decide) rfl ob_0 (Ob.lt ob_0) (D_X11_passYear_0.at 31 rfl) ?_
  refine J_callV (d' := 3) (sr := fun z => [vI z]) (as := []) (st := []) (o := 61) 65 rfl ok_X0_settledGrains im_X0_settledGrains se_X0_settledGrains ml_11_289 isC_0 ob_61 (Ob.lt ob_61) rfl (by decide) ⟨Nat.le_refl _, Nat.le_refl _⟩ (Nat.le_of_ble_eq_true rfl) (D_X11_passYear_0.at 32 rfl) (fun _ => rfl) T (fun r18 h19 T b20 => ?_)
  exact J_iret rfl (D_X11_passYear_0.at 33 rfl) T
theorem c_X11_keep {w : Wd} {a1 a2 a3 a4 : Int} {h : Hp} {K : Int → Hp → Prop} (T : (Ob 7 (h 0 4)) ∧ (C_X7_hasBank w (h 0 4) a1 h (fun r2 h3 => (r2 = 0 ∨ r2 = 1) → ((r2 = 0) → (K (-1) h3)) ∧ (¬ (r2 = 0) → ((inR a2) ∧ (((a2 < 0) → (K (-1) h3)) ∧ (¬ (a2 < 0) → ((inR a2) ∧ (((a2 ≥ 10) → (K (-1) h3)) ∧ (¬ (a2 ≥ 10) → ((inR a3) ∧ (((a3 < 0) → (K (-1) h3)) ∧ (¬ (a3 < 0) → ((inR a3) ∧ (((a3 > 99) → (K (-1) h3)) ∧ (¬ (a3 > 99) → (C_X11_isStoneQuestion w a4 h3 (fun r9 h10 => (r9 = 0 ∨ r9 = 1) → ((r9 ≠ 0) → ((Ob 7 (h10 0 4)) ∧ (C_X0_aim w (h10 0 4) 40 a2 h10 (fun _ h14 => C_X3_seekHeld w a1 a3 h14 (fun _ h17 => C_X3_answer w a4 h17 (fun r19 h20 => K r19 h20)))))) ∧ (¬ (r9 ≠ 0) → (K (-1) h10)))))))))))))))))))) : C_X11_keep w a1 a2 a3 a4 h K := by
  refine CGm_of2 (by decide) (by decide) trivial (Nat.le_of_ble_eq_true rfl) ?_
  refine J_aload_n 1 rfl 0 0 rfl ⟨by decide, by decide⟩ (D_X11_keep_0.at 0 rfl) ?_
  obtain ⟨s1, T⟩ := T
  refine J_getR (z := (h 0 4)) 4 rfl fl_11_35 rfl ob_0 (Ob.lt ob_0) (D_X11_keep_0.at 1 rfl) rfl ?_
  refine J_iload_n 5 rfl 1 1 rfl (D_X11_keep_0.at 2 rfl) ?_
  refine J_callV (d' := 1) (sr := fun z => [vI z]) (as := [vI a1]) (st := []) (o := (h 0 4)) 8 rfl ok_X7_hasBank im_X7_hasBank se_X7_hasBank ml_11_202 isC_7 s1 (Ob.lt s1) rfl (by decide) ⟨Nat.le_refl _, Nat.le_refl _⟩ (Nat.le_of_ble_eq_true rfl) (D_X11_keep_0.at 3 rfl) (fun _ => rfl) T (fun r2 h3 T b4 => ?_)
  replace T := T b4
  refine J_if_eq 11 rfl 37 (inR_b b4) (D_X11_keep_0.at 4 rfl) (by decide) (fun c27 => ?_) (fun c27 => ?_)
  · replace T := T.1 c27
    refine J_iconst 38 rfl (D_X11_keep_0.at 17 rfl) ?_
    exact J_iret rfl (D_X11_keep_0.at 18 rfl) T
  replace T := T.2 c27
  refine J_iload_n 12 rfl 2 2 rfl (D_X11_keep_0.at 5 rfl) ?_
  refine J_callS (d' := 1) (K1 := fun z h0 => rok (some .boolean) z → JG w true m_X11_keep 6 NT NT 15 [(0, vR 0), (1, vI a1), (2, vI a2), (3, vI a3), (4, vI a4)] [vI z] h0 _) (sr := fun z => [vI z]) (as := [vI a2]) (st := []) 15 rfl ok_X11_isLevel sm_X11_isLevel ml_11_263 rfl (by decide) ⟨Nat.le_refl _, Nat.le_refl _⟩ (Nat.le_of_ble_eq_true rfl) (D_X11_keep_0.at 6 rfl) (fun _ => rfl) (CGm_of2 (by decide) (by decide) trivial (Nat.le_of_ble_eq_true rfl) ?_) (fun _ _ kq hb => kq hb)
  refine J_iload_n 1 rfl 0 0 rfl (D_X11_isLevel_0.at 0 rfl) ?_
  obtain ⟨s5, T⟩ := T
  refine J_if_lt 4 rfl 14 s5 (D_X11_isLevel_0.at 1 rfl) (by decide) (fun c26 => ?_) (fun c26 => ?_)
  · replace T := T.1 c26
    refine J_iconst 15 rfl (D_X11_isLevel_0.at 7 rfl) ?_
    refine J_zret rfl (Or.inl rfl) (D_X11_isLevel_0.at 8 rfl) (fun _ => ?_)
    refine J_if_eq 18 rfl 37 ⟨by decide, by decide⟩ (D_X11_keep_0.at 7 rfl) (by decide) (fun _ => ?_) (fun c => absurd (by decide) c)
    refine J_iconst 38 rfl (D_X11_keep_0.at 17 rfl) ?_
    exact J_iret rfl (D_X11_keep_0.at 18 rfl) T
  replace T := T.2 c26
  refine J_iload_n 5 rfl 0 0 rfl (D_X11_isLevel_0.at 2 rfl) ?_
  refine J_bipush 7 rfl ⟨by decide, by decide⟩ (D_X11_isLevel_0.at 3 rfl) ?_
  obtain ⟨s6, T⟩ := T
  refine J_icmp_ge 10 rfl 14 s6 ⟨by decide, by decide⟩ (D_X11_isLevel_0.at 4 rfl) (by decide) (fun c25 => ?_) (fun c25 => ?_)
  · replace T := T.1 c25
    refine J_iconst 15 rfl (D_X11_isLevel_0.at 7 rfl) ?_
    refine J_zret rfl (Or.inl rfl) (D_X11_isLevel_0.at 8 rfl) (fun _ => ?_)
    refine J_if_eq 18 rfl 37 ⟨by decide, by decide⟩ (D_X11_keep_0.at 7 rfl) (by decide) (fun _ => ?_) (fun c => absurd (by decide) c)
    refine J_iconst 38 rfl (D_X11_keep_0.at 17 rfl) ?_
    exact J_iret rfl (D_X11_keep_0.at 18 rfl) T
  replace T := T.2 c25
  refine J_iconst 11 rfl (D_X11_isLevel_0.at 5 rfl) ?_
  refine J_goto 15 (D_X11_isLevel_0.at 6 rfl) (by decide) ?_
  refine J_zret rfl (Or.inr rfl) (D_X11_isLevel_0.at 8 rfl) (fun _ => ?_)
  refine J_if_eq 18 rfl 37 ⟨by decide, by decide⟩ (D_X11_keep_0.at 7 rfl) (by decide) (fun c => absurd c (by decide)) (fun _ => ?_)
  refine J_iload_n 19 rfl 3 3 rfl (D_X11_keep_0.at 8 rfl) ?_
  obtain ⟨s7, T⟩ := T
  refine J_if_lt 22 rfl 37 s7 (D_X11_keep_0.at 9 rfl) (by decide) (fun c24 => ?_) (fun c24 => ?_)
  · replace T := T.1 c24
    refine J_iconst 38 rfl (D_X11_keep_0.at 17 rfl) ?_
    exact J_iret rfl (D_X11_keep_0.at 18 rfl) T
  replace T := T.2 c24
  refine J_iload_n 23 rfl 3 3 rfl (D_X11_keep_0.at 10 rfl) ?_
  refine J_bipush 25 rfl ⟨by decide, by decide⟩ (D_X11_keep_0.at 11 rfl) ?_
  obtain ⟨s8, T⟩ := T
  refine J_icmp_gt 28 rfl 37 s8 ⟨by decide, by decide⟩ (D_X11_keep_0.at 12 rfl) (by decide) (fun c23 => ?_) (fun c23 => ?_)
  · replace T := T.1 c23
    refine J_iconst 38 rfl (D_X11_keep_0.at 17 rfl) ?_
    exact J_iret rfl (D_X11_keep_0.at 18 rfl) T
  replace T := T.2 c23
  refine J_aload_n 29 rfl 0 0 rfl ⟨by decide, by decide⟩ (D_X11_keep_0.at 13 rfl) ?_
  refine J_iload 31 rfl 4 4 rfl (D_X11_keep_0.at 14 rfl) ?_
  refine J_callV (d' := 2) (sr := fun z => [vI z]) (as := [vI a4]) (st := []) (o := 0) 34 rfl ok_X11_isStoneQuestion im_X11_isStoneQuestion se_X11_isStoneQuestion ml_11_313 isC_11 ob_0 (Ob.lt ob_0) rfl (by decide) ⟨Nat.le_refl _, Nat.le_refl _⟩ (Nat.le_of_ble_eq_true rfl) (D_X11_keep_0.at 15 rfl) (fun _ => rfl) T (fun r9 h10 T b11 => ?_)
  replace T := T b11
  refine J_if_ne 37 rfl 39 (inR_b b11) (D_X11_keep_0.at 16 rfl) (by decide) (fun c22 => ?_) (fun c22 => ?_)
  · replace T := T.1 c22
    refine J_aload_n 40 rfl 0 0 rfl ⟨by decide, by decide⟩ (D_X11_keep_0.at 19 rfl) ?_
    refine J_getF (ov := 61) (dd := 1061) 43 rfl fl_11_97 rfl (by decide) rfl ob_0 (Ob.lt ob_0) (D_X11_keep_0.at 20 rfl) ?_
    refine J_aload_n 44 rfl 0 0 rfl ⟨by decide, by decide⟩ (D_X11_keep_0.at 21 rfl) ?_
    obtain ⟨s12, T⟩ := T
    refine J_getR (z := (h10 0 4)) 47 rfl fl_11_35 rfl ob_0 (Ob.lt ob_0) (D_X11_keep_0.at 22 rfl) rfl ?_
    refine J_aload_n 48 rfl 0 0 rfl ⟨by decide, by decide⟩ (D_X11_keep_0.at 23 rfl) ?_
    refine J_getF (ov := 40) (dd := 1040) 51 rfl fl_11_45 rfl (by decide) rfl ob_0 (Ob.lt ob_0) (D_X11_keep_0.at 24 rfl) ?_
    refine J_iload_n 52 rfl 2 2 rfl (D_X11_keep_0.at 25 rfl) ?_
    refine J_callV (d' := 1) (sr := fun z => []) (as := [vR (h10 0 4), vR 40, vI a2]) (st := []) (o := 61) 55 rfl ok_X0_aim im_X0_aim se_X0_aim ml_11_266 isC_0 ob_61 (Ob.lt ob_61) rfl (by decide) ⟨Nat.le_refl _, Nat.le_refl _⟩ (Nat.le_of_ble_eq_true rfl) (D_X11_keep_0.at 26 rfl) (fun _ => rfl) T (fun r13 h14 T b15 => ?_)
    refine J_aload_n 56 rfl 0 0 rfl ⟨by decide, by decide⟩ (D_X11_keep_0.at 27 rfl) ?_
    refine J_getF (ov := 66) (dd := 1066) 59 rfl fl_11_106 rfl (by decide) rfl ob_0 (Ob.lt ob_0) (D_X11_keep_0.at 28 rfl) ?_
    refine J_iload_n 60 rfl 1 1 rfl (D_X11_keep_0.at 29 rfl) ?_
    refine J_iload_n 61 rfl 3 3 rfl (D_X11_keep_0.at 30 rfl) ?_
    refine J_callV (d' := 5) (sr := fun z => []) (as := [vI a1, vI a3]) (st := []) (o := 66) 64 rfl ok_X3_seekHeld im_X3_seekHeld se_X3_seekHeld ml_11_323 isC_3 ob_66 (Ob.lt ob_66) rfl (by decide) ⟨Nat.le_refl _, Nat.le_refl _⟩ (Nat.le_of_ble_eq_true rfl) (D_X11_keep_0.at 31 rfl) (fun _ => rfl) T (fun r16 h17 T b18 => ?_)
    refine J_aload_n 65 rfl 0 0 rfl ⟨by decide, by decide⟩ (D_X11_keep_0.at 32 rfl) ?_
    refine J_getF (ov := 66) (dd := 1066) 68 rfl fl_11_106 rfl (by decide) rfl ob_0 (Ob.lt ob_0) (D_X11_keep_0.at 33 rfl) ?_
    refine J_iload 70 rfl 4 4 rfl (D_X11_keep_0.at 34 rfl) ?_
    refine J_callV (d' := 1) (sr := fun z => [vI z]) (as := [vI a4]) (st := []) (o := 66) 73 rfl ok_X3_answer im_X3_answer se_X3_answer ml_11_320 isC_3 ob_66 (Ob.lt ob_66) rfl (by decide) ⟨Nat.le_refl _, Nat.le_refl _⟩ (Nat.le_of_ble_eq_true rfl) (D_X11_keep_0.at 35 rfl) (fun _ => rfl) T (fun r19 h20 T b21 => ?_)
    exact J_iret rfl (D_X11_keep_0.at 36 rfl) T
  replace T := T.2 c22
  refine J_iconst 38 rfl (D_X11_keep_0.at 17 rfl) ?_
  exact J_iret rfl (D_X11_keep_0.at 18 rfl) T
theorem c_X11_answer {w : Wd} {a1 : Int} {h : Hp} {K : Int → Hp → Prop} (T : L_X11_answer_23 w a1 (-1) (-1) 0 0 (-1000000) 1000000 0 h K) : C_X11_answer w a1 h K := by
  refine CGm_of2 (by decide) (by decide) trivial (Nat.le_of_ble_eq_true rfl) ?_
  refine J_iconst 1 rfl (D_X11_answer_0.at 0 rfl) ?_
  refine J_istore_n (lv' := [(2, vI (-1)), (0, vR 0), (1, vI a1)]) 2 rfl 2 (by decide) rfl (D_X11_answer_0.at 1 rfl) ?_
  refine J_iconst 3 rfl (D_X11_answer_0.at 2 rfl) ?_
  refine J_istore_n (lv' := [(3, vI (-1)), (2, vI (-1)), (0, vR 0), (1, vI a1)]) 4 rfl 3 (by decide) rfl (D_X11_answer_0.at 3 rfl) ?_
  refine J_iconst 5 rfl (D_X11_answer_0.at 4 rfl) ?_
  refine J_istore (lv' := [(4, vI 0), (3, vI (-1)), (2, vI (-1)), (0, vR 0), (1, vI a1)]) 7 rfl 4 (by decide) rfl (D_X11_answer_0.at 5 rfl) ?_
  refine J_lconst (z := 0) 8 rfl rfl (D_X11_answer_0.at 6 rfl) ?_
  refine J_lstore (lv' := [(5, vL 0), (4, vI 0), (3, vI (-1)), (2, vI (-1)), (0, vR 0), (1, vI a1)]) 10 rfl 5 (by decide) rfl (D_X11_answer_0.at 7 rfl) ?_
  refine J_ldcw 13 rfl ko_11_393 (D_X11_answer_0.at 8 rfl) ?_
  refine J_istore (lv' := [(7, vI (-1000000)), (5, vL 0), (4, vI 0), (3, vI (-1)), (2, vI (-1)), (0, vR 0), (1, vI a1)]) 15 rfl 7 (by decide) rfl (D_X11_answer_0.at 9 rfl) ?_
  refine J_ldcw 18 rfl ko_11_394 (D_X11_answer_0.at 10 rfl) ?_
  refine J_istore (lv' := [(8, vI 1000000), (7, vI (-1000000)), (5, vL 0), (4, vI 0), (3, vI (-1)), (2, vI (-1)), (0, vR 0), (1, vI a1)]) 20 rfl 8 (by decide) rfl (D_X11_answer_0.at 11 rfl) ?_
  refine J_iconst 21 rfl (D_X11_answer_0.at 12 rfl) ?_
  refine J_istore (lv' := [(9, vI 0), (8, vI 1000000), (7, vI (-1000000)), (5, vL 0), (4, vI 0), (3, vI (-1)), (2, vI (-1)), (0, vR 0), (1, vI a1)]) 23 rfl 9 (by decide) rfl (D_X11_answer_0.at 13 rfl) ?_
  exact J_sub (lv' := [(0, vR 0), (1, vI a1), (2, vI (-1)), (3, vI (-1)), (4, vI 0), (5, vL 0), (7, vI (-1000000)), (8, vI 1000000), (9, vI 0)]) [7, 8, 6, 5, 4, 3, 2, 1, 0] rfl T
theorem l_X11_answer_23 {w : Wd} {v1 v2 v3 v4 v5 v7 v8 v9 : Int} {h : Hp} {K : Int → Hp → Prop} (T : (inR v9) ∧ (((v9 ≥ 10) → ((inR v1) ∧ ((v1 = 0 → (inR v2) ∧ (K v2 h)) ∧ (v1 = 1 → (inR v3) ∧ (K v3 h)) ∧ (v1 = 2 → (inR v4) ∧ (K v4 h)) ∧ (v1 = 3 → K v5 h) ∧ (v1 = 4 → (inR v7) ∧ (K v7 h)) ∧ ((v1 < 0 ∨ 4 < v1) → (inR v8) ∧ (K v8 h))))) ∧ (¬ (v9 ≥ 10) → ((Ob 7 (h 0 4)) ∧ (C_X0_aim w (h 0 4) 40 v9 h (fun _ h11 => (Ob 7 (h11 0 4)) ∧ (C_X0_run w 0 ((h11 (h11 0 4) 12) - 1) h11 (fun _ h15 => C_X0_tellAll w h15 (fun _ h18 => C_X6_reckon w 3 h18 (fun r20 h21 => (inR r20) ∧ (((r20 = 0) → ((inR r20) ∧ ((inR v7) ∧ ((inR r20) ∧ ((inR v8) ∧ ((inR r20) ∧ (L_X11_answer_23 w v1 v2 v3 v4 (v5 + r20) (max v7 r20) (min v8 r20) (v9 + 1) h21 K))))))) ∧ (¬ (r20 = 0) → ((inR v4) ∧ (((v4 ≠ 0) → ((inR r20) ∧ ((inR v7) ∧ ((inR r20) ∧ ((inR v8) ∧ ((inR r20) ∧ (L_X11_answer_23 w v1 v2 v9 (v4 + 1) (v5 + r20) (max v7 r20) (min v8 r20) (v9 + 1) h21 K))))))) ∧ (¬ (v4 ≠ 0) → ((inR r20) ∧ ((inR v7) ∧ ((inR r20) ∧ ((inR v8) ∧ ((inR r20) ∧ (L_X11_answer_23 w v1 v9 v9 (v4 + 1) (v5 + r20) (max v7 r20) (min v8 r20) (v9 + 1) h21 K))))))))))))))))))))) : L_X11_answer_23 w v1 v2 v3 v4 v5 v7 v8 v9 h K := by
  unfold L_X11_answer_23
  refine J_iload 25 rfl 9 8 rfl (D_X11_answer_0.at 14 rfl) ?_
  refine J_bipush 27 rfl ⟨by decide, by decide⟩ (D_X11_answer_0.at 15 rfl) ?_
  obtain ⟨s1, T⟩ := T
  refine J_icmp_ge 30 rfl 139 s1 ⟨by decide, by decide⟩ (D_X11_answer_0.at 16 rfl) (by decide) (fun c42 => ?_) (fun c42 => ?_)
  · replace T := T.1 c42
    refine J_iload_n 140 rfl 1 1 rfl (D_X11_answer_1.at 21 rfl) ?_
    obtain ⟨s2, T⟩ := T
    have tg : v1 = 0 ∨ v1 = 1 ∨ v1 = 2 ∨ v1 = 3 ∨ v1 = 4 ∨ (v1 < 0 ∨ 4 < v1) := by omega
    rcases tg with g3 | g3 | g3 | g3 | g3 | g3
    · replace T := T.1 g3
      refine J_tab 36 176 s2 (D_X11_answer_1.at 22 rfl) ⟨by omega, by omega⟩ (by rw [g3]; rfl) (by decide) ?_
      refine J_iload_n 177 rfl 2 2 rfl (D_X11_answer_1.at 23 rfl) ?_
      obtain ⟨s4, T⟩ := T
      refine J_i2l 178 rfl s4 (D_X11_answer_1.at 24 rfl) ?_
      exact J_lret rfl (D_X11_answer_1.at 25 rfl) T
    · replace T := T.2.1 g3
      refine J_tab 39 179 s2 (D_X11_answer_1.at 22 rfl) ⟨by omega, by omega⟩ (by rw [g3]; rfl) (by decide) ?_
      refine J_iload_n 180 rfl 3 3 rfl (D_X11_answer_1.at 26 rfl) ?_
      obtain ⟨s5, T⟩ := T
      refine J_i2l 181 rfl s5 (D_X11_answer_1.at 27 rfl) ?_
      exact J_lret rfl (D_X11_answer_1.at 28 rfl) T
    · replace T := T.2.2.1 g3
      refine J_tab 42 182 s2 (D_X11_answer_1.at 22 rfl) ⟨by omega, by omega⟩ (by rw [g3]; rfl) (by decide) ?_
      refine J_iload 184 rfl 4 4 rfl (D_X11_answer_1.at 29 rfl) ?_
      obtain ⟨s6, T⟩ := T
      refine J_i2l 185 rfl s6 (D_X11_answer_1.at 30 rfl) ?_
      exact J_lret rfl (D_X11_answer_1.at 31 rfl) T
    · replace T := T.2.2.2.1 g3
      refine J_tab 46 186 s2 (D_X11_answer_1.at 22 rfl) ⟨by omega, by omega⟩ (by rw [g3]; rfl) (by decide) ?_
      refine J_lload 188 rfl 5 5 rfl (D_X11_answer_1.at 32 rfl) ?_
      exact J_lret rfl (D_X11_answer_1.at 33 rfl) T
    · replace T := T.2.2.2.2.1 g3
      refine J_tab 49 189 s2 (D_X11_answer_1.at 22 rfl) ⟨by omega, by omega⟩ (by rw [g3]; rfl) (by decide) ?_
      refine J_iload 191 rfl 7 6 rfl (D_X11_answer_1.at 34 rfl) ?_
      obtain ⟨s7, T⟩ := T
      refine J_i2l 192 rfl s7 (D_X11_answer_1.at 35 rfl) ?_
      exact J_lret rfl (D_X11_answer_1.at 36 rfl) T
    · replace T := T.2.2.2.2.2 g3
      refine J_tabO 193 s2 (D_X11_answer_1.at 22 rfl) g3 (by decide) ?_
      refine J_iload 195 rfl 8 7 rfl (D_X11_answer_1.at 37 rfl) ?_
      obtain ⟨s8, T⟩ := T
      refine J_i2l 196 rfl s8 (D_X11_answer_1.at 38 rfl) ?_
      exact J_lret rfl (D_X11_answer_1.at 39 rfl) T
  replace T := T.2 c42
  refine J_aload_n 31 rfl 0 0 rfl ⟨by decide, by decide⟩ (D_X11_answer_0.at 17 rfl) ?_
  refine J_getF (ov := 61) (dd := 1061) 34 rfl fl_11_97 rfl (by decide) rfl ob_0 (Ob.lt ob_0) (D_X11_answer_0.at 18 rfl) ?_
  refine J_aload_n 35 rfl 0 0 rfl ⟨by decide, by decide⟩ (D_X11_answer_0.at 19 rfl) ?_
  obtain ⟨s9, T⟩ := T
  refine J_getR (z := (h 0 4)) 38 rfl fl_11_35 rfl ob_0 (Ob.lt ob_0) (D_X11_answer_0.at 20 rfl) rfl ?_
  refine J_aload_n 39 rfl 0 0 rfl ⟨by decide, by decide⟩ (D_X11_answer_0.at 21 rfl) ?_
  refine J_getF (ov := 40) (dd := 1040) 42 rfl fl_11_45 rfl (by decide) rfl ob_0 (Ob.lt ob_0) (D_X11_answer_0.at 22 rfl) ?_
  refine J_iload 44 rfl 9 8 rfl (D_X11_answer_0.at 23 rfl) ?_
  refine J_callV (d' := 1) (sr := fun z => []) (as := [vR (h 0 4), vR 40, vI v9]) (st := []) (o := 61) 47 rfl ok_X0_aim im_X0_aim se_X0_aim ml_11_266 isC_0 ob_61 (Ob.lt ob_61) rfl (by decide) ⟨Nat.le_refl _, Nat.le_refl _⟩ (Nat.le_of_ble_eq_true rfl) (D_X11_answer_0.at 24 rfl) (fun _ => rfl) T (fun r10 h11 T b12 => ?_)
  refine J_aload_n 48 rfl 0 0 rfl ⟨by decide, by decide⟩ (D_X11_answer_0.at 25 rfl) ?_
  refine J_getF (ov := 61) (dd := 1061) 51 rfl fl_11_97 rfl (by decide) rfl ob_0 (Ob.lt ob_0) (D_X11_answer_0.at 26 rfl) ?_
  refine J_iconst 52 rfl (D_X11_answer_0.at 27 rfl) ?_
  refine J_aload_n 53 rfl 0 0 rfl ⟨by decide, by decide⟩ (D_X11_answer_0.at 28 rfl) ?_
  obtain ⟨s13, T⟩ := T
  refine J_getR (z := (h11 0 4)) 56 rfl fl_11_35 rfl ob_0 (Ob.lt ob_0) (D_X11_answer_0.at 29 rfl) rfl ?_
  refine J_getI (z := (h11 (h11 0 4) 12)) 59 rfl fl_11_151 rfl s13 (Ob.lt s13) (D_X11_answer_0.at 30 rfl) rfl ?_
  refine J_iconst 60 rfl (D_X11_answer_0.at 31 rfl) ?_
  refine J_isub 61 rfl (D_X11_answer_0.at 32 rfl) ?_
  refine J_callV (d' := 5) (sr := fun z => []) (as := [vI 0, vI ((h11 (h11 0 4) 12) - 1)]) (st := []) (o := 61) 64 rfl ok_X0_run im_X0_run se_X0_run ml_11_373 isC_0 ob_61 (Ob.lt ob_61) rfl (by decide) ⟨Nat.le_refl _, Nat.le_refl _⟩ (Nat.le_of_ble_eq_true rfl) (D_X11_answer_0.at 33 rfl) (fun _ => rfl) T (fun r14 h15 T b16 => ?_)
  refine J_aload_n 65 rfl 0 0 rfl ⟨by decide, by decide⟩ (D_X11_answer_0.at 34 rfl) ?_
  refine J_getF (ov := 61) (dd := 1061) 68 rfl fl_11_97 rfl (by decide) rfl ob_0 (Ob.lt ob_0) (D_X11_answer_0.at 35 rfl) ?_
  refine J_callV (d' := 4) (sr := fun z => []) (as := []) (st := []) (o := 61) 71 rfl ok_X0_tellAll im_X0_tellAll se_X0_tellAll ml_11_395 isC_0 ob_61 (Ob.lt ob_61) rfl (by decide) ⟨Nat.le_refl _, Nat.le_refl _⟩ (Nat.le_of_ble_eq_true rfl) (D_X11_answer_0.at 36 rfl) (fun _ => rfl) T (fun r17 h18 T b19 => ?_)
  refine J_aload_n 72 rfl 0 0 rfl ⟨by decide, by decide⟩ (D_X11_answer_0.at 37 rfl) ?_
  refine J_getF (ov := 52) (dd := 1052) 75 rfl fl_11_62 rfl (by decide) rfl ob_0 (Ob.lt ob_0) (D_X11_answer_0.at 38 rfl) ?_
  refine J_aload_n 76 rfl 0 0 rfl ⟨by decide, by decide⟩ (D_X11_answer_0.at 39 rfl) ?_
  refine J_getF (ov := 3) (dd := 1003) 79 rfl fl_11_19 rfl (by decide) rfl ob_0 (Ob.lt ob_0) (D_X11_answer_0.at 40 rfl) ?_
  refine J_callV (d' := 3) (sr := fun z => [vI z]) (as := [vR 3]) (st := []) (o := 52) 82 rfl ok_X6_reckon im_X6_reckon se_X6_reckon ml_11_398 isC_6 ob_52 (Ob.lt ob_52) rfl (by decide) ⟨Nat.le_refl _, Nat.le_refl _⟩ (Nat.le_of_ble_eq_true rfl) (D_X11_answer_0.at 41 rfl) (fun _ => rfl) T (fun r20 h21 T b22 => ?_)
  refine J_istore (lv' := [(10, vI r20), (0, vR 0), (1, vI v1), (2, vI v2), (3, vI v3), (4, vI v4), (5, vL v5), (7, vI v7), (8, vI v8), (9, vI v9)]) 84 rfl 10 (by decide) rfl (D_X11_answer_0.at 42 rfl) ?_
  refine J_iload 86 rfl 10 0 rfl (D_X11_answer_0.at 43 rfl) ?_
  obtain ⟨s23, T⟩ := T
  refine J_if_eq 89 rfl 107 s23 (D_X11_answer_0.at 44 rfl) (by decide) (fun c41 => ?_) (fun c41 => ?_)
  · replace T := T.1 c41
    refine J_lload 109 rfl 5 6 rfl (D_X11_answer_1.at 6 rfl) ?_
    refine J_iload 111 rfl 10 0 rfl (D_X11_answer_1.at 7 rfl) ?_
    obtain ⟨s24, T⟩ := T
    refine J_i2l 112 rfl s24 (D_X11_answer_1.at 8 rfl) ?_
    refine J_ladd 113 rfl (D_X11_answer_1.at 9 rfl) ?_
    refine J_lstore (lv' := [(5, vL (v5 + r20)), (10, vI r20), (0, vR 0), (1, vI v1), (2, vI v2), (3, vI v3), (4, vI v4), (7, vI v7), (8, vI v8), (9, vI v9)]) 115 rfl 5 (by decide) rfl (D_X11_answer_1.at 10 rfl) ?_
    refine J_iload 117 rfl 7 7 rfl (D_X11_answer_1.at 11 rfl) ?_
    refine J_iload 119 rfl 10 1 rfl (D_X11_answer_1.at 12 rfl) ?_
    obtain ⟨s25, T⟩ := T
    obtain ⟨s26, T⟩ := T
    refine J_maxE 122 rfl ml_11_382 s25 s26 (Nat.le_of_ble_eq_true rfl) (by decide) (D_X11_answer_1.at 13 rfl) ?_
    refine J_istore (lv' := [(7, vI (max v7 r20)), (5, vL (v5 + r20)), (10, vI r20), (0, vR 0), (1, vI v1), (2, vI v2), (3, vI v3), (4, vI v4), (8, vI v8), (9, vI v9)]) 124 rfl 7 (by decide) rfl (D_X11_answer_1.at 14 rfl) ?_
    refine J_iload 126 rfl 8 8 rfl (D_X11_answer_1.at 15 rfl) ?_
    refine J_iload 128 rfl 10 2 rfl (D_X11_answer_1.at 16 rfl) ?_
    obtain ⟨s27, T⟩ := T
    obtain ⟨s28, T⟩ := T
    refine J_minE 131 rfl ml_11_402 s27 s28 (Nat.le_of_ble_eq_true rfl) (by decide) (D_X11_answer_1.at 17 rfl) ?_
    refine J_istore (lv' := [(8, vI (min v8 r20)), (7, vI (max v7 r20)), (5, vL (v5 + r20)), (10, vI r20), (0, vR 0), (1, vI v1), (2, vI v2), (3, vI v3), (4, vI v4), (9, vI v9)]) 133 rfl 8 (by decide) rfl (D_X11_answer_1.at 18 rfl) ?_
    refine J_iinc (v := (v9 + 1)) (lv' := [(9, vI (v9 + 1)), (8, vI (min v8 r20)), (7, vI (max v7 r20)), (5, vL (v5 + r20)), (10, vI r20), (0, vR 0), (1, vI v1), (2, vI v2), (3, vI v3), (4, vI v4)]) 136 rfl 9 9 1 rfl rfl (by decide) rfl (D_X11_answer_1.at 19 rfl) ?_
    refine J_goto 23 (D_X11_answer_1.at 20 rfl) (by decide) ?_
    exact J_sub (lv' := [(0, vR 0), (1, vI v1), (2, vI v2), (3, vI v3), (4, vI v4), (5, vL (v5 + r20)), (7, vI (max v7 r20)), (8, vI (min v8 r20)), (9, vI (v9 + 1))]) [5, 6, 7, 8, 9, 3, 2, 1, 0] rfl T
  replace T := T.2 c41
  refine J_iload 91 rfl 4 5 rfl (D_X11_answer_0.at 45 rfl) ?_
  obtain ⟨s29, T⟩ := T
  refine J_if_ne 94 rfl 99 s29 (D_X11_answer_0.at 46 rfl) (by decide) (fun c40 => ?_) (fun c40 => ?_)
  · replace T := T.1 c40
    refine J_iload_n 100 rfl 2 3 rfl (D_X11_answer_1.at 1 rfl) ?_
    refine J_istore_n (lv' := [(2, vI v2), (10, vI r20), (0, vR 0), (1, vI v1), (3, vI v3), (4, vI v4), (5, vL v5), (7, vI v7), (8, vI v8), (9, vI v9)]) 101 rfl 2 (by decide) rfl (D_X11_answer_1.at 2 rfl) ?_
    refine J_iload 103 rfl 9 9 rfl (D_X11_answer_1.at 3 rfl) ?_
    refine J_istore_n (lv' := [(3, vI v9), (2, vI v2), (10, vI r20), (0, vR 0), (1, vI v1), (4, vI v4), (5, vL v5), (7, vI v7), (8, vI v8), (9, vI v9)]) 104 rfl 3 (by decide) rfl (D_X11_answer_1.at 4 rfl) ?_
    refine J_iinc (v := (v4 + 1)) (lv' := [(4, vI (v4 + 1)), (3, vI v9), (2, vI v2), (10, vI r20), (0, vR 0), (1, vI v1), (5, vL v5), (7, vI v7), (8, vI v8), (9, vI v9)]) 107 rfl 4 5 1 rfl rfl (by decide) rfl (D_X11_answer_1.at 5 rfl) ?_
    refine J_lload 109 rfl 5 6 rfl (D_X11_answer_1.at 6 rfl) ?_
    refine J_iload 111 rfl 10 3 rfl (D_X11_answer_1.at 7 rfl) ?_
    obtain ⟨s30, T⟩ := T
    refine J_i2l 112 rfl s30 (D_X11_answer_1.at 8 rfl) ?_
    refine J_ladd 113 rfl (D_X11_answer_1.at 9 rfl) ?_
    refine J_lstore (lv' := [(5, vL (v5 + r20)), (4, vI (v4 + 1)), (3, vI v9), (2, vI v2), (10, vI r20), (0, vR 0), (1, vI v1), (7, vI v7), (8, vI v8), (9, vI v9)]) 115 rfl 5 (by decide) rfl (D_X11_answer_1.at 10 rfl) ?_
    refine J_iload 117 rfl 7 7 rfl (D_X11_answer_1.at 11 rfl) ?_
    refine J_iload 119 rfl 10 4 rfl (D_X11_answer_1.at 12 rfl) ?_
    obtain ⟨s31, T⟩ := T
    obtain ⟨s32, T⟩ := T
    refine J_maxE 122 rfl ml_11_382 s31 s32 (Nat.le_of_ble_eq_true rfl) (by decide) (D_X11_answer_1.at 13 rfl) ?_
    refine J_istore (lv' := [(7, vI (max v7 r20)), (5, vL (v5 + r20)), (4, vI (v4 + 1)), (3, vI v9), (2, vI v2), (10, vI r20), (0, vR 0), (1, vI v1), (8, vI v8), (9, vI v9)]) 124 rfl 7 (by decide) rfl (D_X11_answer_1.at 14 rfl) ?_
    refine J_iload 126 rfl 8 8 rfl (D_X11_answer_1.at 15 rfl) ?_
    refine J_iload 128 rfl 10 5 rfl (D_X11_answer_1.at 16 rfl) ?_
    obtain ⟨s33, T⟩ := T
    obtain ⟨s34, T⟩ := T
    refine J_minE 131 rfl ml_11_402 s33 s34 (Nat.le_of_ble_eq_true rfl) (by decide) (D_X11_answer_1.at 17 rfl) ?_
    refine J_istore (lv' := [(8, vI (min v8 r20)), (7, vI (max v7 r20)), (5, vL (v5 + r20)), (4, vI (v4 + 1)), (3, vI v9), (2, vI v2), (10, vI r20), (0, vR 0), (1, vI v1), (9, vI v9)]) 133 rfl 8 (by decide) rfl (D_X11_answer_1.at 18 rfl) ?_
    refine J_iinc (v := (v9 + 1)) (lv' := [(9, vI (v9 + 1)), (8, vI (min v8 r20)), (7, vI (max v7 r20)), (5, vL (v5 + r20)), (4, vI (v4 + 1)), (3, vI v9), (2, vI v2), (10, vI r20), (0, vR 0), (1, vI v1)]) 136 rfl 9 9 1 rfl rfl (by decide) rfl (D_X11_answer_1.at 19 rfl) ?_
    refine J_goto 23 (D_X11_answer_1.at 20 rfl) (by decide) ?_
    exact J_sub (lv' := [(0, vR 0), (1, vI v1), (2, vI v2), (3, vI v9), (4, vI (v4 + 1)), (5, vL (v5 + r20)), (7, vI (max v7 r20)), (8, vI (min v8 r20)), (9, vI (v9 + 1))]) [8, 9, 6, 5, 4, 3, 2, 1, 0] rfl T
  replace T := T.2 c40
  refine J_iload 96 rfl 9 9 rfl (D_X11_answer_0.at 47 rfl) ?_
  refine J_goto 100 (D_X11_answer_1.at 0 rfl) (by decide) ?_
  refine J_istore_n (lv' := [(2, vI v9), (10, vI r20), (0, vR 0), (1, vI v1), (3, vI v3), (4, vI v4), (5, vL v5), (7, vI v7), (8, vI v8), (9, vI v9)]) 101 rfl 2 (by decide) rfl (D_X11_answer_1.at 2 rfl) ?_
  refine J_iload 103 rfl 9 9 rfl (D_X11_answer_1.at 3 rfl) ?_
  refine J_istore_n (lv' := [(3, vI v9), (2, vI v9), (10, vI r20), (0, vR 0), (1, vI v1), (4, vI v4), (5, vL v5), (7, vI v7), (8, vI v8), (9, vI v9)]) 104 rfl 3 (by decide) rfl (D_X11_answer_1.at 4 rfl) ?_
  refine J_iinc (v := (v4 + 1)) (lv' := [(4, vI (v4 + 1)), (3, vI v9), (2, vI v9), (10, vI r20), (0, vR 0), (1, vI v1), (5, vL v5), (7, vI v7), (8, vI v8), (9, vI v9)]) 107 rfl 4 5 1 rfl rfl (by decide) rfl (D_X11_answer_1.at 5 rfl) ?_
  refine J_lload 109 rfl 5 6 rfl (D_X11_answer_1.at 6 rfl) ?_
  refine J_iload 111 rfl 10 3 rfl (D_X11_answer_1.at 7 rfl) ?_
  obtain ⟨s35, T⟩ := T
  refine J_i2l 112 rfl s35 (D_X11_answer_1.at 8 rfl) ?_
  refine J_ladd 113 rfl (D_X11_answer_1.at 9 rfl) ?_
  refine J_lstore (lv' := [(5, vL (v5 + r20)), (4, vI (v4 + 1)), (3, vI v9), (2, vI v9), (10, vI r20), (0, vR 0), (1, vI v1), (7, vI v7), (8, vI v8), (9, vI v9)]) 115 rfl 5 (by decide) rfl (D_X11_answer_1.at 10 rfl) ?_
  refine J_iload 117 rfl 7 7 rfl (D_X11_answer_1.at 11 rfl) ?_
  refine J_iload 119 rfl 10 4 rfl (D_X11_answer_1.at 12 rfl) ?_
  obtain ⟨s36, T⟩ := T
  obtain ⟨s37, T⟩ := T
  refine J_maxE 122 rfl ml_11_382 s36 s37 (Nat.le_of_ble_eq_true rfl) (by decide) (D_X11_answer_1.at 13 rfl) ?_
  refine J_istore (lv' := [(7, vI (max v7 r20)), (5, vL (v5 + r20)), (4, vI (v4 + 1)), (3, vI v9), (2, vI v9), (10, vI r20), (0, vR 0), (1, vI v1), (8, vI v8), (9, vI v9)]) 124 rfl 7 (by decide) rfl (D_X11_answer_1.at 14 rfl) ?_
  refine J_iload 126 rfl 8 8 rfl (D_X11_answer_1.at 15 rfl) ?_
  refine J_iload 128 rfl 10 5 rfl (D_X11_answer_1.at 16 rfl) ?_
  obtain ⟨s38, T⟩ := T
  obtain ⟨s39, T⟩ := T
  refine J_minE 131 rfl ml_11_402 s38 s39 (Nat.le_of_ble_eq_true rfl) (by decide) (D_X11_answer_1.at 17 rfl) ?_
  refine J_istore (lv' := [(8, vI (min v8 r20)), (7, vI (max v7 r20)), (5, vL (v5 + r20)), (4, vI (v4 + 1)), (3, vI v9), (2, vI v9), (10, vI r20), (0, vR 0), (1, vI v1), (9, vI v9)]) 133 rfl 8 (by decide) rfl (D_X11_answer_1.at 18 rfl) ?_
  refine J_iinc (v := (v9 + 1)) (lv' := [(9, vI (v9 + 1)), (8, vI (min v8 r20)), (7, vI (max v7 r20)), (5, vL (v5 + r20)), (4, vI (v4 + 1)), (3, vI v9), (2, vI v9), (10, vI r20), (0, vR 0), (1, vI v1)]) 136 rfl 9 9 1 rfl rfl (by decide) rfl (D_X11_answer_1.at 19 rfl) ?_
  refine J_goto 23 (D_X11_answer_1.at 20 rfl) (by decide) ?_
  exact J_sub (lv' := [(0, vR 0), (1, vI v1), (2, vI v9), (3, vI v9), (4, vI (v4 + 1)), (5, vL (v5 + r20)), (7, vI (max v7 r20)), (8, vI (min v8 r20)), (9, vI (v9 + 1))]) [8, 9, 6, 5, 4, 3, 2, 1, 0] rfl T
theorem c_X11_settles {w : Wd} {a1 a2 a3 : Int} {h : Hp} {K : Int → Hp → Prop} (T : (Ob 7 (h 0 4)) ∧ (C_X7_hasReach w (h 0 4) a1 h (fun r2 h3 => (r2 = 0 ∨ r2 = 1) → ((r2 = 0) → (K (-1) h3)) ∧ (¬ (r2 = 0) → ((Ob 7 (h3 0 4)) ∧ (C_X7_hasBank w (h3 0 4) a2 h3 (fun r6 h7 => (r6 = 0 ∨ r6 = 1) → ((r6 = 0) → (K (-1) h7)) ∧ (¬ (r6 = 0) → ((inR a3) ∧ (((a3 < 0) → (K (-1) h7)) ∧ (¬ (a3 < 0) → ((inR a3) ∧ (((a3 ≥ 10) → (K (-1) h7)) ∧ (¬ (a3 ≥ 10) → (C_X11_imagine w a3 h7 (fun _ h12 => (0 ≤ ((a1 * 10) + a2) ∧ ((a1 * 10) + a2) < 80) ∧ (K (h12 64 ((a1 * 10) + a2)) h12))))))))))))))))) : C_X11_settles w a1 a2 a3 h K := by
  refine CGm_of2 (by decide) (by decide) trivial (Nat.le_of_ble_eq_true rfl) ?_
  refine J_aload_n 1 rfl 0 0 rfl ⟨by decide, by decide⟩ (D_X11_settles_0.at 0 rfl) ?_
  obtain ⟨s1, T⟩ := T
  refine J_getR (z := (h 0 4)) 4 rfl fl_11_35 rfl ob_0 (Ob.lt ob_0) (D_X11_settles_0.at 1 rfl) rfl ?_
  refine J_iload_n 5 rfl 1 1 rfl (D_X11_settles_0.at 2 rfl) ?_
  refine J_callV (d' := 1) (sr := fun z => [vI z]) (as := [vI a1]) (st := []) (o := (h 0 4)) 8 rfl ok_X7_hasReach im_X7_hasReach se_X7_hasReach ml_11_220 isC_7 s1 (Ob.lt s1) rfl (by decide) ⟨Nat.le_refl _, Nat.le_refl _⟩ (Nat.le_of_ble_eq_true rfl) (D_X11_settles_0.at 3 rfl) (fun _ => rfl) T (fun r2 h3 T b4 => ?_)
  replace T := T b4
  refine J_if_eq 11 rfl 29 (inR_b b4) (D_X11_settles_0.at 4 rfl) (by decide) (fun c18 => ?_) (fun c18 => ?_)
  · replace T := T.1 c18
    refine J_iconst 30 rfl (D_X11_settles_0.at 13 rfl) ?_
    exact J_iret rfl (D_X11_settles_0.at 14 rfl) T
  replace T := T.2 c18
  refine J_aload_n 12 rfl 0 0 rfl ⟨by decide, by decide⟩ (D_X11_settles_0.at 5 rfl) ?_
  obtain ⟨s5, T⟩ := T
  refine J_getR (z := (h3 0 4)) 15 rfl fl_11_35 rfl ob_0 (Ob.lt ob_0) (D_X11_settles_0.at 6 rfl) rfl ?_
  refine J_iload_n 16 rfl 2 2 rfl (D_X11_settles_0.at 7 rfl) ?_
  refine J_callV (d' := 1) (sr := fun z => [vI z]) (as := [vI a2]) (st := []) (o := (h3 0 4)) 19 rfl ok_X7_hasBank im_X7_hasBank se_X7_hasBank ml_11_202 isC_7 s5 (Ob.lt s5) rfl (by decide) ⟨Nat.le_refl _, Nat.le_refl _⟩ (Nat.le_of_ble_eq_true rfl) (D_X11_settles_0.at 8 rfl) (fun _ => rfl) T (fun r6 h7 T b8 => ?_)
  replace T := T b8
  refine J_if_eq 22 rfl 29 (inR_b b8) (D_X11_settles_0.at 9 rfl) (by decide) (fun c17 => ?_) (fun c17 => ?_)
  · replace T := T.1 c17
    refine J_iconst 30 rfl (D_X11_settles_0.at 13 rfl) ?_
    exact J_iret rfl (D_X11_settles_0.at 14 rfl) T
  replace T := T.2 c17
  refine J_iload_n 23 rfl 3 3 rfl (D_X11_settles_0.at 10 rfl) ?_
  refine J_callS (d' := 1) (K1 := fun z h0 => rok (some .boolean) z → JG w true m_X11_settles 7 NT NT 26 [(0, vR 0), (1, vI a1), (2, vI a2), (3, vI a3)] [vI z] h0 _) (sr := fun z => [vI z]) (as := [vI a3]) (st := []) 26 rfl ok_X11_isLevel sm_X11_isLevel ml_11_263 rfl (by decide) ⟨Nat.le_refl _, Nat.le_refl _⟩ (Nat.le_of_ble_eq_true rfl) (D_X11_settles_0.at 11 rfl) (fun _ => rfl) (CGm_of2 (by decide) (by decide) trivial (Nat.le_of_ble_eq_true rfl) ?_) (fun _ _ kq hb => kq hb)
  refine J_iload_n 1 rfl 0 0 rfl (D_X11_isLevel_0.at 0 rfl) ?_
  obtain ⟨s9, T⟩ := T
  refine J_if_lt 4 rfl 14 s9 (D_X11_isLevel_0.at 1 rfl) (by decide) (fun c16 => ?_) (fun c16 => ?_)
  · replace T := T.1 c16
    refine J_iconst 15 rfl (D_X11_isLevel_0.at 7 rfl) ?_
    refine J_zret rfl (Or.inl rfl) (D_X11_isLevel_0.at 8 rfl) (fun _ => ?_)
    refine J_if_ne 29 rfl 31 ⟨by decide, by decide⟩ (D_X11_settles_0.at 12 rfl) (by decide) (fun c => absurd c (by decide)) (fun _ => ?_)
    refine J_iconst 30 rfl (D_X11_settles_0.at 13 rfl) ?_
    exact J_iret rfl (D_X11_settles_0.at 14 rfl) T
  replace T := T.2 c16
  refine J_iload_n 5 rfl 0 0 rfl (D_X11_isLevel_0.at 2 rfl) ?_
  refine J_bipush 7 rfl ⟨by decide, by decide⟩ (D_X11_isLevel_0.at 3 rfl) ?_
  obtain ⟨s10, T⟩ := T
  refine J_icmp_ge 10 rfl 14 s10 ⟨by decide, by decide⟩ (D_X11_isLevel_0.at 4 rfl) (by decide) (fun c15 => ?_) (fun c15 => ?_)
  · replace T := T.1 c15
    refine J_iconst 15 rfl (D_X11_isLevel_0.at 7 rfl) ?_
    refine J_zret rfl (Or.inl rfl) (D_X11_isLevel_0.at 8 rfl) (fun _ => ?_)
    refine J_if_ne 29 rfl 31 ⟨by decide, by decide⟩ (D_X11_settles_0.at 12 rfl) (by decide) (fun c => absurd c (by decide)) (fun _ => ?_)
    refine J_iconst 30 rfl (D_X11_settles_0.at 13 rfl) ?_
    exact J_iret rfl (D_X11_settles_0.at 14 rfl) T
  replace T := T.2 c15
  refine J_iconst 11 rfl (D_X11_isLevel_0.at 5 rfl) ?_
  refine J_goto 15 (D_X11_isLevel_0.at 6 rfl) (by decide) ?_
  refine J_zret rfl (Or.inr rfl) (D_X11_isLevel_0.at 8 rfl) (fun _ => ?_)
  refine J_if_ne 29 rfl 31 ⟨by decide, by decide⟩ (D_X11_settles_0.at 12 rfl) (by decide) (fun _ => ?_) (fun c => absurd (by decide) c)
  refine J_aload_n 32 rfl 0 0 rfl ⟨by decide, by decide⟩ (D_X11_settles_0.at 15 rfl) ?_
  refine J_iload_n 33 rfl 3 3 rfl (D_X11_settles_0.at 16 rfl) ?_
  refine J_callV (d' := 6) (sr := fun z => []) (as := [vI a3]) (st := []) (o := 0) 36 rfl ok_X11_imagine im_X11_imagine se_X11_imagine ml_11_276 isC_11 ob_0 (Ob.lt ob_0) rfl (by decide) ⟨Nat.le_refl _, Nat.le_refl _⟩ (Nat.le_of_ble_eq_true rfl) (D_X11_settles_0.at 17 rfl) (fun _ => rfl) T (fun r11 h12 T b13 => ?_)
  refine J_aload_n 37 rfl 0 0 rfl ⟨by decide, by decide⟩ (D_X11_settles_0.at 18 rfl) ?_
  refine J_getF (ov := 61) (dd := 1061) 40 rfl fl_11_97 rfl (by decide) rfl ob_0 (Ob.lt ob_0) (D_X11_settles_0.at 19 rfl) ?_
  refine J_getF (ov := 64) (dd := 1003) 43 rfl fl_11_279 rfl (by decide) rfl ob_61 (Ob.lt ob_61) (D_X11_settles_0.at 20 rfl) ?_
  refine J_iload_n 44 rfl 1 1 rfl (D_X11_settles_0.at 21 rfl) ?_
  refine J_iload_n 45 rfl 2 2 rfl (D_X11_settles_0.at 22 rfl) ?_
  refine J_callS (d' := 1) (K1 := fun z h0 => rok (some .int) z → JG w true m_X11_settles 7 NT NT 48 [(0, vR 0), (1, vI a1), (2, vI a2), (3, vI a3)] [vI z, vR 64] h0 _) (sr := fun z => [vI z, vR 64]) (as := [vI a1, vI a2]) (st := [vR 64]) 48 rfl ok_X11_cell sm_X11_cell ml_11_244 rfl (by decide) ⟨Nat.le_refl _, Nat.le_refl _⟩ (Nat.le_of_ble_eq_true rfl) (D_X11_settles_0.at 23 rfl) (fun _ => rfl) (CGm_of2 (by decide) (by decide) trivial (Nat.le_of_ble_eq_true rfl) ?_) (fun _ _ kq hb => kq hb)
  refine J_iload_n 1 rfl 0 0 rfl (D_X11_cell_0.at 0 rfl) ?_
  refine J_bipush 3 rfl ⟨by decide, by decide⟩ (D_X11_cell_0.at 1 rfl) ?_
  refine J_imul 4 rfl (D_X11_cell_0.at 2 rfl) ?_
  refine J_iload_n 5 rfl 1 1 rfl (D_X11_cell_0.at 3 rfl) ?_
  refine J_iadd 6 rfl (D_X11_cell_0.at 4 rfl) ?_
  refine J_iret rfl (D_X11_cell_0.at 5 rfl) (fun _ => ?_)
  obtain ⟨s14, T⟩ := T
  refine J_iald 49 rfl ar_64 (Ar.lt ar_64) s14 (D_X11_settles_0.at 24 rfl) ?_
  exact J_iret rfl (D_X11_settles_0.at 25 rfl) T
theorem c_X11_carries {w : Wd} {a1 a2 a3 : Int} {h : Hp} {K : Int → Hp → Prop} (T : (Ob 7 (h 0 4)) ∧ (C_X7_hasReach w (h 0 4) a1 h (fun r2 h3 => (r2 = 0 ∨ r2 = 1) → ((r2 = 0) → (K (-1) h3)) ∧ (¬ (r2 = 0) → ((Ob 7 (h3 0 4)) ∧ (C_X7_hasBank w (h3 0 4) a2 h3 (fun r6 h7 => (r6 = 0 ∨ r6 = 1) → ((r6 = 0) → (K (-1) h7)) ∧ (¬ (r6 = 0) → ((inR a3) ∧ (((a3 < 0) → (K (-1) h7)) ∧ (¬ (a3 < 0) → ((inR a3) ∧ (((a3 ≥ 10) → (K (-1) h7)) ∧ (¬ (a3 ≥ 10) → (C_X11_imagine w a3 h7 (fun _ h12 => (0 ≤ ((a1 * 10) + a2) ∧ ((a1 * 10) + a2) < 80) ∧ (K (h12 65 ((a1 * 10) + a2)) h12))))))))))))))))) : C_X11_carries w a1 a2 a3 h K := by
  refine CGm_of2 (by decide) (by decide) trivial (Nat.le_of_ble_eq_true rfl) ?_
  refine J_aload_n 1 rfl 0 0 rfl ⟨by decide, by decide⟩ (D_X11_carries_0.at 0 rfl) ?_
  obtain ⟨s1, T⟩ := T
  refine J_getR (z := (h 0 4)) 4 rfl fl_11_35 rfl ob_0 (Ob.lt ob_0) (D_X11_carries_0.at 1 rfl) rfl ?_
  refine J_iload_n 5 rfl 1 1 rfl (D_X11_carries_0.at 2 rfl) ?_
  refine J_callV (d' := 1) (sr := fun z => [vI z]) (as := [vI a1]) (st := []) (o := (h 0 4)) 8 rfl ok_X7_hasReach im_X7_hasReach se_X7_hasReach ml_11_220 isC_7 s1 (Ob.lt s1) rfl (by decide) ⟨Nat.le_refl _, Nat.le_refl _⟩ (Nat.le_of_ble_eq_true rfl) (D_X11_carries_0.at 3 rfl) (fun _ => rfl) T (fun r2 h3 T b4 => ?_)
  replace T := T b4
  refine J_if_eq 11 rfl 29 (inR_b b4) (D_X11_carries_0.at 4 rfl) (by decide) (fun c18 => ?_) (fun c18 => ?_)
  · replace T := T.1 c18
    refine J_iconst 30 rfl (D_X11_carries_0.at 13 rfl) ?_
    exact J_iret rfl (D_X11_carries_0.at 14 rfl) T
  replace T := T.2 c18
  refine J_aload_n 12 rfl 0 0 rfl ⟨by decide, by decide⟩ (D_X11_carries_0.at 5 rfl) ?_
  obtain ⟨s5, T⟩ := T
  refine J_getR (z := (h3 0 4)) 15 rfl fl_11_35 rfl ob_0 (Ob.lt ob_0) (D_X11_carries_0.at 6 rfl) rfl ?_
  refine J_iload_n 16 rfl 2 2 rfl (D_X11_carries_0.at 7 rfl) ?_
  refine J_callV (d' := 1) (sr := fun z => [vI z]) (as := [vI a2]) (st := []) (o := (h3 0 4)) 19 rfl ok_X7_hasBank im_X7_hasBank se_X7_hasBank ml_11_202 isC_7 s5 (Ob.lt s5) rfl (by decide) ⟨Nat.le_refl _, Nat.le_refl _⟩ (Nat.le_of_ble_eq_true rfl) (D_X11_carries_0.at 8 rfl) (fun _ => rfl) T (fun r6 h7 T b8 => ?_)
  replace T := T b8
  refine J_if_eq 22 rfl 29 (inR_b b8) (D_X11_carries_0.at 9 rfl) (by decide) (fun c17 => ?_) (fun c17 => ?_)
  · replace T := T.1 c17
    refine J_iconst 30 rfl (D_X11_carries_0.at 13 rfl) ?_
    exact J_iret rfl (D_X11_carries_0.at 14 rfl) T
  replace T := T.2 c17
  refine J_iload_n 23 rfl 3 3 rfl (D_X11_carries_0.at 10 rfl) ?_
  refine J_callS (d' := 1) (K1 := fun z h0 => rok (some .boolean) z → JG w true m_X11_carries 7 NT NT 26 [(0, vR 0), (1, vI a1), (2, vI a2), (3, vI a3)] [vI z] h0 _) (sr := fun z => [vI z]) (as := [vI a3]) (st := []) 26 rfl ok_X11_isLevel sm_X11_isLevel ml_11_263 rfl (by decide) ⟨Nat.le_refl _, Nat.le_refl _⟩ (Nat.le_of_ble_eq_true rfl) (D_X11_carries_0.at 11 rfl) (fun _ => rfl) (CGm_of2 (by decide) (by decide) trivial (Nat.le_of_ble_eq_true rfl) ?_) (fun _ _ kq hb => kq hb)
  refine J_iload_n 1 rfl 0 0 rfl (D_X11_isLevel_0.at 0 rfl) ?_
  obtain ⟨s9, T⟩ := T
  refine J_if_lt 4 rfl 14 s9 (D_X11_isLevel_0.at 1 rfl) (by decide) (fun c16 => ?_) (fun c16 => ?_)
  · replace T := T.1 c16
    refine J_iconst 15 rfl (D_X11_isLevel_0.at 7 rfl) ?_
    refine J_zret rfl (Or.inl rfl) (D_X11_isLevel_0.at 8 rfl) (fun _ => ?_)
    refine J_if_ne 29 rfl 31 ⟨by decide, by decide⟩ (D_X11_carries_0.at 12 rfl) (by decide) (fun c => absurd c (by decide)) (fun _ => ?_)
    refine J_iconst 30 rfl (D_X11_carries_0.at 13 rfl) ?_
    exact J_iret rfl (D_X11_carries_0.at 14 rfl) T
  replace T := T.2 c16
  refine J_iload_n 5 rfl 0 0 rfl (D_X11_isLevel_0.at 2 rfl) ?_
  refine J_bipush 7 rfl ⟨by decide, by decide⟩ (D_X11_isLevel_0.at 3 rfl) ?_
  obtain ⟨s10, T⟩ := T
  refine J_icmp_ge 10 rfl 14 s10 ⟨by decide, by decide⟩ (D_X11_isLevel_0.at 4 rfl) (by decide) (fun c15 => ?_) (fun c15 => ?_)
  · replace T := T.1 c15
    refine J_iconst 15 rfl (D_X11_isLevel_0.at 7 rfl) ?_
    refine J_zret rfl (Or.inl rfl) (D_X11_isLevel_0.at 8 rfl) (fun _ => ?_)
    refine J_if_ne 29 rfl 31 ⟨by decide, by decide⟩ (D_X11_carries_0.at 12 rfl) (by decide) (fun c => absurd c (by decide)) (fun _ => ?_)
    refine J_iconst 30 rfl (D_X11_carries_0.at 13 rfl) ?_
    exact J_iret rfl (D_X11_carries_0.at 14 rfl) T
  replace T := T.2 c15
  refine J_iconst 11 rfl (D_X11_isLevel_0.at 5 rfl) ?_
  refine J_goto 15 (D_X11_isLevel_0.at 6 rfl) (by decide) ?_
  refine J_zret rfl (Or.inr rfl) (D_X11_isLevel_0.at 8 rfl) (fun _ => ?_)
  refine J_if_ne 29 rfl 31 ⟨by decide, by decide⟩ (D_X11_carries_0.at 12 rfl) (by decide) (fun _ => ?_) (fun c => absurd (by decide) c)
  refine J_aload_n 32 rfl 0 0 rfl ⟨by decide, by decide⟩ (D_X11_carries_0.at 15 rfl) ?_
  refine J_iload_n 33 rfl 3 3 rfl (D_X11_carries_0.at 16 rfl) ?_
  refine J_callV (d' := 6) (sr := fun z => []) (as := [vI a3]) (st := []) (o := 0) 36 rfl ok_X11_imagine im_X11_imagine se_X11_imagine ml_11_276 isC_11 ob_0 (Ob.lt ob_0) rfl (by decide) ⟨Nat.le_refl _, Nat.le_refl _⟩ (Nat.le_of_ble_eq_true rfl) (D_X11_carries_0.at 17 rfl) (fun _ => rfl) T (fun r11 h12 T b13 => ?_)
  refine J_aload_n 37 rfl 0 0 rfl ⟨by decide, by decide⟩ (D_X11_carries_0.at 18 rfl) ?_
  refine J_getF (ov := 61) (dd := 1061) 40 rfl fl_11_97 rfl (by decide) rfl ob_0 (Ob.lt ob_0) (D_X11_carries_0.at 19 rfl) ?_
  refine J_getF (ov := 65) (dd := 1004) 43 rfl fl_11_282 rfl (by decide) rfl ob_61 (Ob.lt ob_61) (D_X11_carries_0.at 20 rfl) ?_
  refine J_iload_n 44 rfl 1 1 rfl (D_X11_carries_0.at 21 rfl) ?_
  refine J_iload_n 45 rfl 2 2 rfl (D_X11_carries_0.at 22 rfl) ?_
  refine J_callS (d' := 1) (K1 := fun z h0 => rok (some .int) z → JG w true m_X11_carries 7 NT NT 48 [(0, vR 0), (1, vI a1), (2, vI a2), (3, vI a3)] [vI z, vR 65] h0 _) (sr := fun z => [vI z, vR 65]) (as := [vI a1, vI a2]) (st := [vR 65]) 48 rfl ok_X11_cell sm_X11_cell ml_11_244 rfl (by decide) ⟨Nat.le_refl _, Nat.le_refl _⟩ (Nat.le_of_ble_eq_true rfl) (D_X11_carries_0.at 23 rfl) (fun _ => rfl) (CGm_of2 (by decide) (by decide) trivial (Nat.le_of_ble_eq_true rfl) ?_) (fun _ _ kq hb => kq hb)
  refine J_iload_n 1 rfl 0 0 rfl (D_X11_cell_0.at 0 rfl) ?_
  refine J_bipush 3 rfl ⟨by decide, by decide⟩ (D_X11_cell_0.at 1 rfl) ?_
  refine J_imul 4 rfl (D_X11_cell_0.at 2 rfl) ?_
  refine J_iload_n 5 rfl 1 1 rfl (D_X11_cell_0.at 3 rfl) ?_
  refine J_iadd 6 rfl (D_X11_cell_0.at 4 rfl) ?_
  refine J_iret rfl (D_X11_cell_0.at 5 rfl) (fun _ => ?_)
  obtain ⟨s14, T⟩ := T
  refine J_iald 49 rfl ar_65 (Ar.lt ar_65) s14 (D_X11_carries_0.at 24 rfl) ?_
  exact J_iret rfl (D_X11_carries_0.at 25 rfl) T
theorem c_X11_would {w : Wd} {a1 a2 : Int} {h : Hp} {K : Int → Hp → Prop} (T : (Ob 7 (h 0 4)) ∧ ((inR (h (h 0 4) 12)) ∧ ((((h (h 0 4) 12) = 0) → (K (-1) h)) ∧ (¬ ((h (h 0 4) 12) = 0) → ((inR a1) ∧ (((a1 < 0) → (K (-1) h)) ∧ (¬ (a1 < 0) → ((inR a1) ∧ (((a1 ≥ 10) → (K (-1) h)) ∧ (¬ (a1 ≥ 10) → (C_X11_imagine w a1 h (fun _ h6 => (inR a2) ∧ ((a2 = 0 → C_X0_taken w h6 (fun r10 h11 => K r10 h11)) ∧ (a2 = 1 → C_X0_settledGrains w h6 (fun r13 h14 => K r13 h14)) ∧ (a2 = 2 → C_X0_toSea w h6 (fun r16 h17 => K r16 h17)) ∧ (a2 = 3 → C_X0_mostSettled w h6 (fun r19 h20 => K r19 h20)) ∧ ((a2 < 0 ∨ 3 < a2) → K (-1) h6)))))))))))))) : C_X11_would w a1 a2 h K := by
  refine CGm_of2 (by decide) (by decide) trivial (Nat.le_of_ble_eq_true rfl) ?_
  refine J_aload_n 1 rfl 0 0 rfl ⟨by decide, by decide⟩ (D_X11_would_0.at 0 rfl) ?_
  obtain ⟨s1, T⟩ := T
  refine J_getR (z := (h 0 4)) 4 rfl fl_11_35 rfl ob_0 (Ob.lt ob_0) (D_X11_would_0.at 1 rfl) rfl ?_
  refine J_getI (z := (h (h 0 4) 12)) 7 rfl fl_11_151 rfl s1 (Ob.lt s1) (D_X11_would_0.at 2 rfl) rfl ?_
  obtain ⟨s2, T⟩ := T
  refine J_if_eq 10 rfl 17 s2 (D_X11_would_0.at 3 rfl) (by decide) (fun c24 => ?_) (fun c24 => ?_)
  · replace T := T.1 c24
    refine J_iconst 18 rfl (D_X11_would_0.at 7 rfl) ?_
    exact J_iret rfl (D_X11_would_0.at 8 rfl) T
  replace T := T.2 c24
  refine J_iload_n 11 rfl 1 1 rfl (D_X11_would_0.at 4 rfl) ?_
  refine J_callS (d' := 1) (K1 := fun z h0 => rok (some .boolean) z → JG w true m_X11_would 7 NT NT 14 [(0, vR 0), (1, vI a1), (2, vI a2)] [vI z] h0 _) (sr := fun z => [vI z]) (as := [vI a1]) (st := []) 14 rfl ok_X11_isLevel sm_X11_isLevel ml_11_263 rfl (by decide) ⟨Nat.le_refl _, Nat.le_refl _⟩ (Nat.le_of_ble_eq_true rfl) (D_X11_would_0.at 5 rfl) (fun _ => rfl) (CGm_of2 (by decide) (by decide) trivial (Nat.le_of_ble_eq_true rfl) ?_) (fun _ _ kq hb => kq hb)
  refine J_iload_n 1 rfl 0 0 rfl (D_X11_isLevel_0.at 0 rfl) ?_
  obtain ⟨s3, T⟩ := T
  refine J_if_lt 4 rfl 14 s3 (D_X11_isLevel_0.at 1 rfl) (by decide) (fun c23 => ?_) (fun c23 => ?_)
  · replace T := T.1 c23
    refine J_iconst 15 rfl (D_X11_isLevel_0.at 7 rfl) ?_
    refine J_zret rfl (Or.inl rfl) (D_X11_isLevel_0.at 8 rfl) (fun _ => ?_)
    refine J_if_ne 17 rfl 19 ⟨by decide, by decide⟩ (D_X11_would_0.at 6 rfl) (by decide) (fun c => absurd c (by decide)) (fun _ => ?_)
    refine J_iconst 18 rfl (D_X11_would_0.at 7 rfl) ?_
    exact J_iret rfl (D_X11_would_0.at 8 rfl) T
  replace T := T.2 c23
  refine J_iload_n 5 rfl 0 0 rfl (D_X11_isLevel_0.at 2 rfl) ?_
  refine J_bipush 7 rfl ⟨by decide, by decide⟩ (D_X11_isLevel_0.at 3 rfl) ?_
  obtain ⟨s4, T⟩ := T
  refine J_icmp_ge 10 rfl 14 s4 ⟨by decide, by decide⟩ (D_X11_isLevel_0.at 4 rfl) (by decide) (fun c22 => ?_) (fun c22 => ?_)
  · replace T := T.1 c22
    refine J_iconst 15 rfl (D_X11_isLevel_0.at 7 rfl) ?_
    refine J_zret rfl (Or.inl rfl) (D_X11_isLevel_0.at 8 rfl) (fun _ => ?_)
    refine J_if_ne 17 rfl 19 ⟨by decide, by decide⟩ (D_X11_would_0.at 6 rfl) (by decide) (fun c => absurd c (by decide)) (fun _ => ?_)
    refine J_iconst 18 rfl (D_X11_would_0.at 7 rfl) ?_
    exact J_iret rfl (D_X11_would_0.at 8 rfl) T
  replace T := T.2 c22
  refine J_iconst 11 rfl (D_X11_isLevel_0.at 5 rfl) ?_
  refine J_goto 15 (D_X11_isLevel_0.at 6 rfl) (by decide) ?_
  refine J_zret rfl (Or.inr rfl) (D_X11_isLevel_0.at 8 rfl) (fun _ => ?_)
  refine J_if_ne 17 rfl 19 ⟨by decide, by decide⟩ (D_X11_would_0.at 6 rfl) (by decide) (fun _ => ?_) (fun c => absurd (by decide) c)
  refine J_aload_n 20 rfl 0 0 rfl ⟨by decide, by decide⟩ (D_X11_would_0.at 9 rfl) ?_
  refine J_iload_n 21 rfl 1 1 rfl (D_X11_would_0.at 10 rfl) ?_
  refine J_callV (d' := 6) (sr := fun z => []) (as := [vI a1]) (st := []) (o := 0) 24 rfl ok_X11_imagine im_X11_imagine se_X11_imagine ml_11_276 isC_11 ob_0 (Ob.lt ob_0) rfl (by decide) ⟨Nat.le_refl _, Nat.le_refl _⟩ (Nat.le_of_ble_eq_true rfl) (D_X11_would_0.at 11 rfl) (fun _ => rfl) T (fun r5 h6 T b7 => ?_)
  refine J_iload_n 25 rfl 2 2 rfl (D_X11_would_0.at 12 rfl) ?_
  obtain ⟨s8, T⟩ := T
  have tg : a2 = 0 ∨ a2 = 1 ∨ a2 = 2 ∨ a2 = 3 ∨ (a2 < 0 ∨ 3 < a2) := by omega
  rcases tg with g9 | g9 | g9 | g9 | g9
  · replace T := T.1 g9
    refine J_tab 31 56 s8 (D_X11_would_0.at 13 rfl) ⟨by omega, by omega⟩ (by rw [g9]; rfl) (by decide) ?_
    refine J_aload_n 57 rfl 0 0 rfl ⟨by decide, by decide⟩ (D_X11_would_0.at 14 rfl) ?_
    refine J_getF (ov := 61) (dd := 1061) 60 rfl fl_11_97 rfl (by decide) rfl ob_0 (Ob.lt ob_0) (D_X11_would_0.at 15 rfl) ?_
    refine J_callV (d' := 1) (sr := fun z => [vI z]) (as := []) (st := []) (o := 61) 63 rfl ok_X0_taken im_X0_taken se_X0_taken ml_11_285 isC_0 ob_61 (Ob.lt ob_61) rfl (by decide) ⟨Nat.le_refl _, Nat.le_refl _⟩ (Nat.le_of_ble_eq_true rfl) (D_X11_would_0.at 16 rfl) (fun _ => rfl) T (fun r10 h11 T b12 => ?_)
    exact J_iret rfl (D_X11_would_0.at 17 rfl) T
  · replace T := T.2.1 g9
    refine J_tab 39 64 s8 (D_X11_would_0.at 13 rfl) ⟨by omega, by omega⟩ (by rw [g9]; rfl) (by decide) ?_
    refine J_aload_n 65 rfl 0 0 rfl ⟨by decide, by decide⟩ (D_X11_would_0.at 18 rfl) ?_
    refine J_getF (ov := 61) (dd := 1061) 68 rfl fl_11_97 rfl (by decide) rfl ob_0 (Ob.lt ob_0) (D_X11_would_0.at 19 rfl) ?_
    refine J_callV (d' := 3) (sr := fun z => [vI z]) (as := []) (st := []) (o := 61) 71 rfl ok_X0_settledGrains im_X0_settledGrains se_X0_settledGrains ml_11_289 isC_0 ob_61 (Ob.lt ob_61) rfl (by decide) ⟨Nat.le_refl _, Nat.le_refl _⟩ (Nat.le_of_ble_eq_true rfl) (D_X11_would_0.at 20 rfl) (fun _ => rfl) T (fun r13 h14 T b15 => ?_)
    exact J_iret rfl (D_X11_would_0.at 21 rfl) T
  · replace T := T.2.2.1 g9
    refine J_tab 47 72 s8 (D_X11_would_0.at 13 rfl) ⟨by omega, by omega⟩ (by rw [g9]; rfl) (by decide) ?_
    refine J_aload_n 73 rfl 0 0 rfl ⟨by decide, by decide⟩ (D_X11_would_0.at 22 rfl) ?_
    refine J_getF (ov := 61) (dd := 1061) 76 rfl fl_11_97 rfl (by decide) rfl ob_0 (Ob.lt ob_0) (D_X11_would_0.at 23 rfl) ?_
    refine J_callV (d' := 2) (sr := fun z => [vI z]) (as := []) (st := []) (o := 61) 79 rfl ok_X0_toSea im_X0_toSea se_X0_toSea ml_11_292 isC_0 ob_61 (Ob.lt ob_61) rfl (by decide) ⟨Nat.le_refl _, Nat.le_refl _⟩ (Nat.le_of_ble_eq_true rfl) (D_X11_would_0.at 24 rfl) (fun _ => rfl) T (fun r16 h17 T b18 => ?_)
    exact J_iret rfl (D_X11_would_0.at 25 rfl) T
  · replace T := T.2.2.2.1 g9
    refine J_tab 55 80 s8 (D_X11_would_0.at 13 rfl) ⟨by omega, by omega⟩ (by rw [g9]; rfl) (by decide) ?_
    refine J_aload_n 81 rfl 0 0 rfl ⟨by decide, by decide⟩ (D_X11_would_0.at 26 rfl) ?_
    refine J_getF (ov := 61) (dd := 1061) 84 rfl fl_11_97 rfl (by decide) rfl ob_0 (Ob.lt ob_0) (D_X11_would_0.at 27 rfl) ?_
    refine J_callV (d' := 3) (sr := fun z => [vI z]) (as := []) (st := []) (o := 61) 87 rfl ok_X0_mostSettled im_X0_mostSettled se_X0_mostSettled ml_11_295 isC_0 ob_61 (Ob.lt ob_61) rfl (by decide) ⟨Nat.le_refl _, Nat.le_refl _⟩ (Nat.le_of_ble_eq_true rfl) (D_X11_would_0.at 28 rfl) (fun _ => rfl) T (fun r19 h20 T b21 => ?_)
    exact J_iret rfl (D_X11_would_0.at 29 rfl) T
  · replace T := T.2.2.2.2 g9
    refine J_tabO 88 s8 (D_X11_would_0.at 13 rfl) g9 (by decide) ?_
    refine J_iconst 89 rfl (D_X11_would_0.at 30 rfl) ?_
    exact J_iret rfl (D_X11_would_0.at 31 rfl) T
theorem c_X11_flood {w : Wd} {a1 : Int} {h : Hp} {K : Int → Hp → Prop} (T : (Ob 7 (h 0 4)) ∧ ((inR (h (h 0 4) 12)) ∧ ((((h (h 0 4) 12) = 0) → (C_X11_refuse w 2 h (fun r3 h4 => K r3 h4))) ∧ (¬ ((h (h 0 4) 12) = 0) → ((inR a1) ∧ (((a1 < 0) → (C_X11_refuse w 2 h (fun r7 h8 => K r7 h8))) ∧ (¬ (a1 < 0) → ((inR a1) ∧ (((a1 ≥ 10) → (C_X11_refuse w 2 h (fun r11 h12 => K r11 h12))) ∧ (¬ (a1 ≥ 10) → ((inR (h 40 4)) ∧ ((((h 40 4) < 999) → (C_X5_store w 40 h (fun _ h16 => C_X11_passYear w 40 a1 h16 (fun r18 h19 => K r18 h19)))) ∧ (¬ ((h 40 4) < 999) → (C_X11_refuse w 2 h (fun r21 h22 => K r21 h22))))))))))))))) : C_X11_flood w a1 h K := by
  refine CGm_of2 (by decide) (by decide) trivial (Nat.le_of_ble_eq_true rfl) ?_
  refine J_aload_n 1 rfl 0 0 rfl ⟨by decide, by decide⟩ (D_X11_flood_0.at 0 rfl) ?_
  obtain ⟨s1, T⟩ := T
  refine J_getR (z := (h 0 4)) 4 rfl fl_11_35 rfl ob_0 (Ob.lt ob_0) (D_X11_flood_0.at 1 rfl) rfl ?_
  refine J_getI (z := (h (h 0 4) 12)) 7 rfl fl_11_151 rfl s1 (Ob.lt s1) (D_X11_flood_0.at 2 rfl) rfl ?_
  obtain ⟨s2, T⟩ := T
  refine J_if_eq 10 rfl 30 s2 (D_X11_flood_0.at 3 rfl) (by decide) (fun c27 => ?_) (fun c27 => ?_)
  · replace T := T.1 c27
    refine J_aload_n 31 rfl 0 0 rfl ⟨by decide, by decide⟩ (D_X11_flood_0.at 12 rfl) ?_
    refine J_iconst 32 rfl (D_X11_flood_0.at 13 rfl) ?_
    refine J_callV (d' := 1) (sr := fun z => [vI z]) (as := [vI 2]) (st := []) (o := 0) 35 rfl ok_X11_refuse im_X11_refuse se_X11_refuse ml_11_113 isC_11 ob_0 (Ob.lt ob_0) rfl (by decide) ⟨Nat.le_refl _, Nat.le_refl _⟩ (Nat.le_of_ble_eq_true rfl) (D_X11_flood_0.at 14 rfl) (fun _ => rfl) T (fun r3 h4 T b5 => ?_)
    exact J_iret rfl (D_X11_flood_0.at 15 rfl) T
  replace T := T.2 c27
  refine J_iload_n 11 rfl 1 1 rfl (D_X11_flood_0.at 4 rfl) ?_
  refine J_callS (d' := 1) (K1 := fun z h0 => rok (some .boolean) z → JG w true m_X11_flood 7 NT NT 14 [(0, vR 0), (1, vI a1)] [vI z] h0 _) (sr := fun z => [vI z]) (as := [vI a1]) (st := []) 14 rfl ok_X11_isLevel sm_X11_isLevel ml_11_263 rfl (by decide) ⟨Nat.le_refl _, Nat.le_refl _⟩ (Nat.le_of_ble_eq_true rfl) (D_X11_flood_0.at 5 rfl) (fun _ => rfl) (CGm_of2 (by decide) (by decide) trivial (Nat.le_of_ble_eq_true rfl) ?_) (fun _ _ kq hb => kq hb)
  refine J_iload_n 1 rfl 0 0 rfl (D_X11_isLevel_0.at 0 rfl) ?_
  obtain ⟨s6, T⟩ := T
  refine J_if_lt 4 rfl 14 s6 (D_X11_isLevel_0.at 1 rfl) (by decide) (fun c26 => ?_) (fun c26 => ?_)
  · replace T := T.1 c26
    refine J_iconst 15 rfl (D_X11_isLevel_0.at 7 rfl) ?_
    refine J_zret rfl (Or.inl rfl) (D_X11_isLevel_0.at 8 rfl) (fun _ => ?_)
    refine J_if_eq 17 rfl 30 ⟨by decide, by decide⟩ (D_X11_flood_0.at 6 rfl) (by decide) (fun _ => ?_) (fun c => absurd (by decide) c)
    refine J_aload_n 31 rfl 0 0 rfl ⟨by decide, by decide⟩ (D_X11_flood_0.at 12 rfl) ?_
    refine J_iconst 32 rfl (D_X11_flood_0.at 13 rfl) ?_
    refine J_callV (d' := 1) (sr := fun z => [vI z]) (as := [vI 2]) (st := []) (o := 0) 35 rfl ok_X11_refuse im_X11_refuse se_X11_refuse ml_11_113 isC_11 ob_0 (Ob.lt ob_0) rfl (by decide) ⟨Nat.le_refl _, Nat.le_refl _⟩ (Nat.le_of_ble_eq_true rfl) (D_X11_flood_0.at 14 rfl) (fun _ => rfl) T (fun r7 h8 T b9 => ?_)
    exact J_iret rfl (D_X11_flood_0.at 15 rfl) T
  replace T := T.2 c26
  refine J_iload_n 5 rfl 0 0 rfl (D_X11_isLevel_0.at 2 rfl) ?_
  refine J_bipush 7 rfl ⟨by decide, by decide⟩ (D_X11_isLevel_0.at 3 rfl) ?_
  obtain ⟨s10, T⟩ := T
  refine J_icmp_ge 10 rfl 14 s10 ⟨by decide, by decide⟩ (D_X11_isLevel_0.at 4 rfl) (by decide) (fun c25 => ?_) (fun c25 => ?_)
  · replace T := T.1 c25
    refine J_iconst 15 rfl (D_X11_isLevel_0.at 7 rfl) ?_
    refine J_zret rfl (Or.inl rfl) (D_X11_isLevel_0.at 8 rfl) (fun _ => ?_)
    refine J_if_eq 17 rfl 30 ⟨by decide, by decide⟩ (D_X11_flood_0.at 6 rfl) (by decide) (fun _ => ?_) (fun c => absurd (by decide) c)
    refine J_aload_n 31 rfl 0 0 rfl ⟨by decide, by decide⟩ (D_X11_flood_0.at 12 rfl) ?_
    refine J_iconst 32 rfl (D_X11_flood_0.at 13 rfl) ?_
    refine J_callV (d' := 1) (sr := fun z => [vI z]) (as := [vI 2]) (st := []) (o := 0) 35 rfl ok_X11_refuse im_X11_refuse se_X11_refuse ml_11_113 isC_11 ob_0 (Ob.lt ob_0) rfl (by decide) ⟨Nat.le_refl _, Nat.le_refl _⟩ (Nat.le_of_ble_eq_true rfl) (D_X11_flood_0.at 14 rfl) (fun _ => rfl) T (fun r11 h12 T b13 => ?_)
    exact J_iret rfl (D_X11_flood_0.at 15 rfl) T
  replace T := T.2 c25
  refine J_iconst 11 rfl (D_X11_isLevel_0.at 5 rfl) ?_
  refine J_goto 15 (D_X11_isLevel_0.at 6 rfl) (by decide) ?_
  refine J_zret rfl (Or.inr rfl) (D_X11_isLevel_0.at 8 rfl) (fun _ => ?_)
  refine J_if_eq 17 rfl 30 ⟨by decide, by decide⟩ (D_X11_flood_0.at 6 rfl) (by decide) (fun c => absurd c (by decide)) (fun _ => ?_)
  refine J_aload_n 18 rfl 0 0 rfl ⟨by decide, by decide⟩ (D_X11_flood_0.at 7 rfl) ?_
  refine J_getF (ov := 40) (dd := 1040) 21 rfl fl_11_45 rfl (by decide) rfl ob_0 (Ob.lt ob_0) (D_X11_flood_0.at 8 rfl) ?_
  refine J_getI (z := (h 40 4)) 24 rfl fl_11_178 rfl ob_40 (Ob.lt ob_40) (D_X11_flood_0.at 9 rfl) rfl ?_
  refine J_sipush 27 rfl ⟨by decide, by decide⟩ (D_X11_flood_0.at 10 rfl) ?_
  obtain ⟨s14, T⟩ := T
  refine J_icmp_lt 30 rfl 36 s14 ⟨by decide, by decide⟩ (D_X11_flood_0.at 11 rfl) (by decide) (fun c24 => ?_) (fun c24 => ?_)
  · replace T := T.1 c24
    refine J_aload_n 37 rfl 0 0 rfl ⟨by decide, by decide⟩ (D_X11_flood_0.at 16 rfl) ?_
    refine J_getF (ov := 50) (dd := 1050) 40 rfl fl_11_55 rfl (by decide) rfl ob_0 (Ob.lt ob_0) (D_X11_flood_0.at 17 rfl) ?_
    refine J_aload_n 41 rfl 0 0 rfl ⟨by decide, by decide⟩ (D_X11_flood_0.at 18 rfl) ?_
    refine J_getF (ov := 40) (dd := 1040) 44 rfl fl_11_45 rfl (by decide) rfl ob_0 (Ob.lt ob_0) (D_X11_flood_0.at 19 rfl) ?_
    refine J_callV (d' := 1) (sr := fun z => []) (as := [vR 40]) (st := []) (o := 50) 47 rfl ok_X5_store im_X5_store se_X5_store ml_11_298 isC_5 ob_50 (Ob.lt ob_50) rfl (by decide) ⟨Nat.le_refl _, Nat.le_refl _⟩ (Nat.le_of_ble_eq_true rfl) (D_X11_flood_0.at 20 rfl) (fun _ => rfl) T (fun r15 h16 T b17 => ?_)
    refine J_aload_n 48 rfl 0 0 rfl ⟨by decide, by decide⟩ (D_X11_flood_0.at 21 rfl) ?_
    refine J_aload_n 49 rfl 0 0 rfl ⟨by decide, by decide⟩ (D_X11_flood_0.at 22 rfl) ?_
    refine J_getF (ov := 40) (dd := 1040) 52 rfl fl_11_45 rfl (by decide) rfl ob_0 (Ob.lt ob_0) (D_X11_flood_0.at 23 rfl) ?_
    refine J_iload_n 53 rfl 1 1 rfl (D_X11_flood_0.at 24 rfl) ?_
    refine J_callV (d' := 6) (sr := fun z => [vI z]) (as := [vR 40, vI a1]) (st := []) (o := 0) 56 rfl ok_X11_passYear im_X11_passYear se_X11_passYear ml_11_302 isC_11 ob_0 (Ob.lt ob_0) rfl (by decide) ⟨Nat.le_refl _, Nat.le_refl _⟩ (Nat.le_of_ble_eq_true rfl) (D_X11_flood_0.at 25 rfl) (fun _ => rfl) T (fun r18 h19 T b20 => ?_)
    exact J_iret rfl (D_X11_flood_0.at 26 rfl) T
  replace T := T.2 c24
  refine J_aload_n 31 rfl 0 0 rfl ⟨by decide, by decide⟩ (D_X11_flood_0.at 12 rfl) ?_
  refine J_iconst 32 rfl (D_X11_flood_0.at 13 rfl) ?_
  refine J_callV (d' := 1) (sr := fun z => [vI z]) (as := [vI 2]) (st := []) (o := 0) 35 rfl ok_X11_refuse im_X11_refuse se_X11_refuse ml_11_113 isC_11 ob_0 (Ob.lt ob_0) rfl (by decide) ⟨Nat.le_refl _, Nat.le_refl _⟩ (Nat.le_of_ble_eq_true rfl) (D_X11_flood_0.at 14 rfl) (fun _ => rfl) T (fun r21 h22 T b23 => ?_)
  exact J_iret rfl (D_X11_flood_0.at 15 rfl) T
theorem c_X11_years {w : Wd} {a1 : Int} {h : Hp} {K : Int → Hp → Prop} (T : (Ob 7 (h 0 4)) ∧ ((inR (h (h 0 4) 12)) ∧ ((((h (h 0 4) 12) = 0) → (C_X11_refuse w 2 h (fun r3 h4 => K r3 h4))) ∧ (¬ ((h (h 0 4) 12) = 0) → ((inR a1) ∧ (((a1 < 1) → (C_X11_refuse w 2 h (fun r7 h8 => K r7 h8))) ∧ (¬ (a1 < 1) → ((inR a1) ∧ (((a1 > 50) → (C_X11_refuse w 2 h (fun r11 h12 => K r11 h12))) ∧ (¬ (a1 > 50) → ((inR ((h 40 4) + a1)) ∧ (((((h 40 4) + a1) ≤ 999) → (C_X5_store w 40 h (fun _ h16 => L_X11_years_57 w a1 0 0 h16 K))) ∧ (¬ (((h 40 4) + a1) ≤ 999) → (C_X11_refuse w 2 h (fun r18 h19 => K r18 h19))))))))))))))) : C_X11_years w a1 h K := by
  refine CGm_of2 (by decide) (by decide) trivial (Nat.le_of_ble_eq_true rfl) ?_
  refine J_aload_n 1 rfl 0 0 rfl ⟨by decide, by decide⟩ (D_X11_years_0.at 0 rfl) ?_
  obtain ⟨s1, T⟩ := T
  refine J_getR (z := (h 0 4)) 4 rfl fl_11_35 rfl ob_0 (Ob.lt ob_0) (D_X11_years_0.at 1 rfl) rfl ?_
  refine J_getI (z := (h (h 0 4) 12)) 7 rfl fl_11_151 rfl s1 (Ob.lt s1) (D_X11_years_0.at 2 rfl) rfl ?_
  obtain ⟨s2, T⟩ := T
  refine J_if_eq 10 rfl 36 s2 (D_X11_years_0.at 3 rfl) (by decide) (fun c24 => ?_) (fun c24 => ?_)
  · replace T := T.1 c24
    refine J_aload_n 37 rfl 0 0 rfl ⟨by decide, by decide⟩ (D_X11_years_0.at 17 rfl) ?_
    refine J_iconst 38 rfl (D_X11_years_0.at 18 rfl) ?_
    refine J_callV (d' := 1) (sr := fun z => [vI z]) (as := [vI 2]) (st := []) (o := 0) 41 rfl ok_X11_refuse im_X11_refuse se_X11_refuse ml_11_113 isC_11 ob_0 (Ob.lt ob_0) rfl (by decide) ⟨Nat.le_refl _, Nat.le_refl _⟩ (Nat.le_of_ble_eq_true rfl) (D_X11_years_0.at 19 rfl) (fun _ => rfl) T (fun r3 h4 T b5 => ?_)
    exact J_iret rfl (D_X11_years_0.at 20 rfl) T
  replace T := T.2 c24
  refine J_iload_n 11 rfl 1 1 rfl (D_X11_years_0.at 4 rfl) ?_
  refine J_iconst 12 rfl (D_X11_years_0.at 5 rfl) ?_
  obtain ⟨s6, T⟩ := T
  refine J_icmp_lt 15 rfl 36 s6 ⟨by decide, by decide⟩ (D_X11_years_0.at 6 rfl) (by decide) (fun c23 => ?_) (fun c23 => ?_)
  · replace T := T.1 c23
    refine J_aload_n 37 rfl 0 0 rfl ⟨by decide, by decide⟩ (D_X11_years_0.at 17 rfl) ?_
    refine J_iconst 38 rfl (D_X11_years_0.at 18 rfl) ?_
    refine J_callV (d' := 1) (sr := fun z => [vI z]) (as := [vI 2]) (st := []) (o := 0) 41 rfl ok_X11_refuse im_X11_refuse se_X11_refuse ml_11_113 isC_11 ob_0 (Ob.lt ob_0) rfl (by decide) ⟨Nat.le_refl _, Nat.le_refl _⟩ (Nat.le_of_ble_eq_true rfl) (D_X11_years_0.at 19 rfl) (fun _ => rfl) T (fun r7 h8 T b9 => ?_)
    exact J_iret rfl (D_X11_years_0.at 20 rfl) T
  replace T := T.2 c23
  refine J_iload_n 16 rfl 1 1 rfl (D_X11_years_0.at 7 rfl) ?_
  refine J_bipush 18 rfl ⟨by decide, by decide⟩ (D_X11_years_0.at 8 rfl) ?_
  obtain ⟨s10, T⟩ := T
  refine J_icmp_gt 21 rfl 36 s10 ⟨by decide, by decide⟩ (D_X11_years_0.at 9 rfl) (by decide) (fun c22 => ?_) (fun c22 => ?_)
  · replace T := T.1 c22
    refine J_aload_n 37 rfl 0 0 rfl ⟨by decide, by decide⟩ (D_X11_years_0.at 17 rfl) ?_
    refine J_iconst 38 rfl (D_X11_years_0.at 18 rfl) ?_
    refine J_callV (d' := 1) (sr := fun z => [vI z]) (as := [vI 2]) (st := []) (o := 0) 41 rfl ok_X11_refuse im_X11_refuse se_X11_refuse ml_11_113 isC_11 ob_0 (Ob.lt ob_0) rfl (by decide) ⟨Nat.le_refl _, Nat.le_refl _⟩ (Nat.le_of_ble_eq_true rfl) (D_X11_years_0.at 19 rfl) (fun _ => rfl) T (fun r11 h12 T b13 => ?_)
    exact J_iret rfl (D_X11_years_0.at 20 rfl) T
  replace T := T.2 c22
  refine J_aload_n 22 rfl 0 0 rfl ⟨by decide, by decide⟩ (D_X11_years_0.at 10 rfl) ?_
  refine J_getF (ov := 40) (dd := 1040) 25 rfl fl_11_45 rfl (by decide) rfl ob_0 (Ob.lt ob_0) (D_X11_years_0.at 11 rfl) ?_
  refine J_getI (z := (h 40 4)) 28 rfl fl_11_178 rfl ob_40 (Ob.lt ob_40) (D_X11_years_0.at 12 rfl) rfl ?_
  refine J_iload_n 29 rfl 1 1 rfl (D_X11_years_0.at 13 rfl) ?_
  refine J_iadd 30 rfl (D_X11_years_0.at 14 rfl) ?_
  refine J_sipush 33 rfl ⟨by decide, by decide⟩ (D_X11_years_0.at 15 rfl) ?_
  obtain ⟨s14, T⟩ := T
  refine J_icmp_le 36 rfl 42 s14 ⟨by decide, by decide⟩ (D_X11_years_0.at 16 rfl) (by decide) (fun c21 => ?_) (fun c21 => ?_)
  · replace T := T.1 c21
    refine J_aload_n 43 rfl 0 0 rfl ⟨by decide, by decide⟩ (D_X11_years_0.at 21 rfl) ?_
    refine J_getF (ov := 50) (dd := 1050) 46 rfl fl_11_55 rfl (by decide) rfl ob_0 (Ob.lt ob_0) (D_X11_years_0.at 22 rfl) ?_
    refine J_aload_n 47 rfl 0 0 rfl ⟨by decide, by decide⟩ (D_X11_years_0.at 23 rfl) ?_
    refine J_getF (ov := 40) (dd := 1040) 50 rfl fl_11_45 rfl (by decide) rfl ob_0 (Ob.lt ob_0) (D_X11_years_0.at 24 rfl) ?_
    refine J_callV (d' := 1) (sr := fun z => []) (as := [vR 40]) (st := []) (o := 50) 53 rfl ok_X5_store im_X5_store se_X5_store ml_11_298 isC_5 ob_50 (Ob.lt ob_50) rfl (by decide) ⟨Nat.le_refl _, Nat.le_refl _⟩ (Nat.le_of_ble_eq_true rfl) (D_X11_years_0.at 25 rfl) (fun _ => rfl) T (fun r15 h16 T b17 => ?_)
    refine J_iconst 54 rfl (D_X11_years_0.at 26 rfl) ?_
    refine J_istore_n (lv' := [(2, vI 0), (0, vR 0), (1, vI a1)]) 55 rfl 2 (by decide) rfl (D_X11_years_0.at 27 rfl) ?_
    refine J_iconst 56 rfl (D_X11_years_0.at 28 rfl) ?_
    refine J_istore_n (lv' := [(3, vI 0), (2, vI 0), (0, vR 0), (1, vI a1)]) 57 rfl 3 (by decide) rfl (D_X11_years_0.at 29 rfl) ?_
    exact J_sub (lv' := [(0, vR 0), (1, vI a1), (2, vI 0), (3, vI 0)]) [2, 3, 1, 0] rfl T
  replace T := T.2 c21
  refine J_aload_n 37 rfl 0 0 rfl ⟨by decide, by decide⟩ (D_X11_years_0.at 17 rfl) ?_
  refine J_iconst 38 rfl (D_X11_years_0.at 18 rfl) ?_
  refine J_callV (d' := 1) (sr := fun z => [vI z]) (as := [vI 2]) (st := []) (o := 0) 41 rfl ok_X11_refuse im_X11_refuse se_X11_refuse ml_11_113 isC_11 ob_0 (Ob.lt ob_0) rfl (by decide) ⟨Nat.le_refl _, Nat.le_refl _⟩ (Nat.le_of_ble_eq_true rfl) (D_X11_years_0.at 19 rfl) (fun _ => rfl) T (fun r18 h19 T b20 => ?_)
  exact J_iret rfl (D_X11_years_0.at 20 rfl) T
theorem l_X11_years_57 {w : Wd} {v1 v2 v3 : Int} {h : Hp} {K : Int → Hp → Prop} (T : (inR v3) ∧ ((inR v1) ∧ (((v3 ≥ v1) → (K v2 h)) ∧ (¬ (v3 ≥ v1) → (C_X11_draw w 10 h (fun r27 h28 => C_X11_passYear w 40 r27 h28 (fun r30 h31 => L_X11_years_57 w v1 (v2 + r30) (v3 + 1) h31 K))))))) : L_X11_years_57 w v1 v2 v3 h K := by
  unfold L_X11_years_57
  refine J_iload_n 58 rfl 3 3 rfl (D_X11_years_0.at 30 rfl) ?_
  refine J_iload_n 59 rfl 1 1 rfl (D_X11_years_0.at 31 rfl) ?_
  obtain ⟨s25, T⟩ := T
  obtain ⟨s26, T⟩ := T
  refine J_icmp_ge 62 rfl 85 s25 s26 (D_X11_years_0.at 32 rfl) (by decide) (fun c33 => ?_) (fun c33 => ?_)
  · replace T := T.1 c33
    refine J_iload_n 86 rfl 2 2 rfl (D_X11_years_0.at 45 rfl) ?_
    exact J_iret rfl (D_X11_years_0.at 46 rfl) T
  replace T := T.2 c33
  refine J_iload_n 63 rfl 2 2 rfl (D_X11_years_0.at 33 rfl) ?_
  refine J_aload_n 64 rfl 0 0 rfl ⟨by decide, by decide⟩ (D_X11_years_0.at 34 rfl) ?_
  refine J_aload_n 65 rfl 0 0 rfl ⟨by decide, by decide⟩ (D_X11_years_0.at 35 rfl) ?_
  refine J_getF (ov := 40) (dd := 1040) 68 rfl fl_11_45 rfl (by decide) rfl ob_0 (Ob.lt ob_0) (D_X11_years_0.at 36 rfl) ?_
  refine J_aload_n 69 rfl 0 0 rfl ⟨by decide, by decide⟩ (D_X11_years_0.at 37 rfl) ?_
  refine J_bipush 71 rfl ⟨by decide, by decide⟩ (D_X11_years_0.at 38 rfl) ?_
  refine J_callV (d' := 1) (sr := fun z => [vI z, vR 40, vR 0, vI v2]) (as := [vI 10]) (st := [vR 40, vR 0, vI v2]) (o := 0) 74 rfl ok_X11_draw im_X11_draw se_X11_draw ml_11_306 isC_11 ob_0 (Ob.lt ob_0) rfl (by decide) ⟨Nat.le_refl _, Nat.le_refl _⟩ (Nat.le_of_ble_eq_true rfl) (D_X11_years_0.at 39 rfl) (fun _ => rfl) T (fun r27 h28 T b29 => ?_)
  refine J_callV (d' := 6) (sr := fun z => [vI z, vI v2]) (as := [vR 40, vI r27]) (st := [vI v2]) (o := 0) 77 rfl ok_X11_passYear im_X11_passYear se_X11_passYear ml_11_302 isC_11 ob_0 (Ob.lt ob_0) rfl (by decide) ⟨Nat.le_refl _, Nat.le_refl _⟩ (Nat.le_of_ble_eq_true rfl) (D_X11_years_0.at 40 rfl) (fun _ => rfl) T (fun r30 h31 T b32 => ?_)
  refine J_iadd 78 rfl (D_X11_years_0.at 41 rfl) ?_
  refine J_istore_n (lv' := [(2, vI (v2 + r30)), (0, vR 0), (1, vI v1), (3, vI v3)]) 79 rfl 2 (by decide) rfl (D_X11_years_0.at 42 rfl) ?_
  refine J_iinc (v := (v3 + 1)) (lv' := [(3, vI (v3 + 1)), (2, vI (v2 + r30)), (0, vR 0), (1, vI v1)]) 82 rfl 3 3 1 rfl rfl (by decide) rfl (D_X11_years_0.at 43 rfl) ?_
  refine J_goto 57 (D_X11_years_0.at 44 rfl) (by decide) ?_
  exact J_sub (lv' := [(0, vR 0), (1, vI v1), (2, vI (v2 + r30)), (3, vI (v3 + 1))]) [2, 3, 1, 0] rfl T
theorem c_X11_mine {w : Wd} {a1 a2 a3 a4 a5 : Int} {h : Hp} {K : Int → Hp → Prop} (T : (Ob 7 (h 0 4)) ∧ ((inR a1) ∧ (((a1 < 0) → (K (-1) h)) ∧ (¬ (a1 < 0) → ((inR a1) ∧ ((inR (h ((h 0 4) + 1) 1)) ∧ (((a1 ≥ (h ((h 0 4) + 1) 1)) → (K (-1) h)) ∧ (¬ (a1 ≥ (h ((h 0 4) + 1) 1)) → ((Ob 7 (h 0 4)) ∧ (C_X7_hasReach w (h 0 4) a2 h (fun r6 h7 => (r6 = 0 ∨ r6 = 1) → ((r6 = 0) → (K (-1) h7)) ∧ (¬ (r6 = 0) → ((inR a3) ∧ (((a3 < 0) → (K (-1) h7)) ∧ (¬ (a3 < 0) → ((inR a3) ∧ (((a3 ≥ 10) → (K (-1) h7)) ∧ (¬ (a3 ≥ 10) → ((inR a4) ∧ (((a4 < 0) → (K (-1) h7)) ∧ (¬ (a4 < 0) → ((inR a4) ∧ (((a4 > 1000) → (K (-1) h7)) ∧ (¬ (a4 > 1000) → (C_X11_isStoneQuestion w a5 h7 (fun r13 h14 => (r13 = 0 ∨ r13 = 1) → ((r13 ≠ 0) → ((Ob 7 (h14 0 4)) ∧ (C_X0_aim w (h14 0 4) 40 a3 h14 (fun _ h18 => C_X3_seekShare w a1 a2 a4 h18 (fun _ h21 => C_X3_answer w a5 h21 (fun r23 h24 => K r23 h24)))))) ∧ (¬ (r13 ≠ 0) → (K (-1) h14)))))))))))))))))))))))))))) : C_X11_mine w a1 a2 a3 a4 a5 h K := by
  refine CGm_of2 (by decide) (by decide) trivial (Nat.le_of_ble_eq_true rfl) ?_
  refine J_aload_n 1 rfl 0 0 rfl ⟨by decide, by decide⟩ (D_X11_mine_0.at 0 rfl) ?_
  obtain ⟨s1, T⟩ := T
  refine J_getR (z := (h 0 4)) 4 rfl fl_11_35 rfl ob_0 (Ob.lt ob_0) (D_X11_mine_0.at 1 rfl) rfl ?_
  refine J_iload_n 5 rfl 1 1 rfl (D_X11_mine_0.at 2 rfl) ?_
  refine J_callV (d' := 1) (K1 := fun z h0 => rok (some .boolean) z → JG w true m_X11_mine 7 NT NT 8 [(0, vR 0), (1, vI a1), (2, vI a2), (3, vI a3), (4, vI a4), (5, vI a5)] [vI z] h0 _) (sr := fun z => [vI z]) (as := [vI a1]) (st := []) (o := (h 0 4)) 8 rfl ok_X7_hasOwner im_X7_hasOwner se_X7_hasOwner ml_11_247 isC_7 s1 (Ob.lt s1) rfl (by decide) ⟨Nat.le_refl _, Nat.le_refl _⟩ (Nat.le_of_ble_eq_true rfl) (D_X11_mine_0.at 3 rfl) (fun _ => rfl) (CGm_of2 (by decide) (by decide) trivial (Nat.le_of_ble_eq_true rfl) ?_) (fun _ _ kq hb => kq hb)
  refine J_iload_n 1 rfl 1 1 rfl (D_X7_hasOwner_0.at 0 rfl) ?_
  obtain ⟨s2, T⟩ := T
  refine J_if_lt 4 rfl 19 s2 (D_X7_hasOwner_0.at 1 rfl) (by decide) (fun c33 => ?_) (fun c33 => ?_)
  · replace T := T.1 c33
    refine J_iconst 20 rfl (D_X7_hasOwner_0.at 9 rfl) ?_
    refine J_zret rfl (Or.inl rfl) (D_X7_hasOwner_0.at 10 rfl) (fun _ => ?_)
    refine J_if_eq 11 rfl 51 ⟨by decide, by decide⟩ (D_X11_mine_0.at 4 rfl) (by decide) (fun _ => ?_) (fun c => absurd (by decide) c)
    refine J_iconst 52 rfl (D_X11_mine_0.at 22 rfl) ?_
    exact J_iret rfl (D_X11_mine_0.at 23 rfl) T
  replace T := T.2 c33
  refine J_iload_n 5 rfl 1 1 rfl (D_X7_hasOwner_0.at 2 rfl) ?_
  refine J_aload_n 6 rfl 0 0 rfl (Ob.rng s1) (D_X7_hasOwner_0.at 3 rfl) ?_
  refine J_getF (ov := ((h 0 4) + 1)) (dd := 1001) 9 rfl fl_7_14 rfl (by decide) rfl s1 (Ob.lt s1) (D_X7_hasOwner_0.at 4 rfl) ?_
  refine J_getI (z := (h ((h 0 4) + 1) 1)) 12 rfl fl_7_58 rfl (of_7_0 s1) (Ob.lt (of_7_0 s1)) (D_X7_hasOwner_0.at 5 rfl) rfl ?_
  obtain ⟨s3, T⟩ := T
  obtain ⟨s4, T⟩ := T
  refine J_icmp_ge 15 rfl 19 s3 s4 (D_X7_hasOwner_0.at 6 rfl) (by decide) (fun c32 => ?_) (fun c32 => ?_)
  · replace T := T.1 c32
    refine J_iconst 20 rfl (D_X7_hasOwner_0.at 9 rfl) ?_
    refine J_zret rfl (Or.inl rfl) (D_X7_hasOwner_0.at 10 rfl) (fun _ => ?_)
    refine J_if_eq 11 rfl 51 ⟨by decide, by decide⟩ (D_X11_mine_0.at 4 rfl) (by decide) (fun _ => ?_) (fun c => absurd (by decide) c)
    refine J_iconst 52 rfl (D_X11_mine_0.at 22 rfl) ?_
    exact J_iret rfl (D_X11_mine_0.at 23 rfl) T
  replace T := T.2 c32
  refine J_iconst 16 rfl (D_X7_hasOwner_0.at 7 rfl) ?_
  refine J_goto 20 (D_X7_hasOwner_0.at 8 rfl) (by decide) ?_
  refine J_zret rfl (Or.inr rfl) (D_X7_hasOwner_0.at 10 rfl) (fun _ => ?_)
  refine J_if_eq 11 rfl 51 ⟨by decide, by decide⟩ (D_X11_mine_0.at 4 rfl) (by decide) (fun c => absurd c (by decide)) (fun _ => ?_)
  refine J_aload_n 12 rfl 0 0 rfl ⟨by decide, by decide⟩ (D_X11_mine_0.at 5 rfl) ?_
  obtain ⟨s5, T⟩ := T
  refine J_getR (z := (h 0 4)) 15 rfl fl_11_35 rfl ob_0 (Ob.lt ob_0) (D_X11_mine_0.at 6 rfl) rfl ?_
  refine J_iload_n 16 rfl 2 2 rfl (D_X11_mine_0.at 7 rfl) ?_
  refine J_callV (d' := 1) (sr := fun z => [vI z]) (as := [vI a2]) (st := []) (o := (h 0 4)) 19 rfl ok_X7_hasReach im_X7_hasReach se_X7_hasReach ml_11_220 isC_7 s5 (Ob.lt s5) rfl (by decide) ⟨Nat.le_refl _, Nat.le_refl _⟩ (Nat.le_of_ble_eq_true rfl) (D_X11_mine_0.at 8 rfl) (fun _ => rfl) T (fun r6 h7 T b8 => ?_)
  replace T := T b8
  refine J_if_eq 22 rfl 51 (inR_b b8) (D_X11_mine_0.at 9 rfl) (by decide) (fun c31 => ?_) (fun c31 => ?_)
  · replace T := T.1 c31
    refine J_iconst 52 rfl (D_X11_mine_0.at 22 rfl) ?_
    exact J_iret rfl (D_X11_mine_0.at 23 rfl) T
  replace T := T.2 c31
  refine J_iload_n 23 rfl 3 3 rfl (D_X11_mine_0.at 10 rfl) ?_
  refine J_callS (d' := 1) (K1 := fun z h0 => rok (some .boolean) z → JG w true m_X11_mine 7 NT NT 26 [(0, vR 0), (1, vI a1), (2, vI a2), (3, vI a3), (4, vI a4), (5, vI a5)] [vI z] h0 _) (sr := fun z => [vI z]) (as := [vI a3]) (st := []) 26 rfl ok_X11_isLevel sm_X11_isLevel ml_11_263 rfl (by decide) ⟨Nat.le_refl _, Nat.le_refl _⟩ (Nat.le_of_ble_eq_true rfl) (D_X11_mine_0.at 11 rfl) (fun _ => rfl) (CGm_of2 (by decide) (by decide) trivial (Nat.le_of_ble_eq_true rfl) ?_) (fun _ _ kq hb => kq hb)
  refine J_iload_n 1 rfl 0 0 rfl (D_X11_isLevel_0.at 0 rfl) ?_
  obtain ⟨s9, T⟩ := T
  refine J_if_lt 4 rfl 14 s9 (D_X11_isLevel_0.at 1 rfl) (by decide) (fun c30 => ?_) (fun c30 => ?_)
  · replace T := T.1 c30
    refine J_iconst 15 rfl (D_X11_isLevel_0.at 7 rfl) ?_
    refine J_zret rfl (Or.inl rfl) (D_X11_isLevel_0.at 8 rfl) (fun _ => ?_)
    refine J_if_eq 29 rfl 51 ⟨by decide, by decide⟩ (D_X11_mine_0.at 12 rfl) (by decide) (fun _ => ?_) (fun c => absurd (by decide) c)
    refine J_iconst 52 rfl (D_X11_mine_0.at 22 rfl) ?_
    exact J_iret rfl (D_X11_mine_0.at 23 rfl) T
  replace T := T.2 c30
  refine J_iload_n 5 rfl 0 0 rfl (D_X11_isLevel_0.at 2 rfl) ?_
  refine J_bipush 7 rfl ⟨by decide, by decide⟩ (D_X11_isLevel_0.at 3 rfl) ?_
  obtain ⟨s10, T⟩ := T
  refine J_icmp_ge 10 rfl 14 s10 ⟨by decide, by decide⟩ (D_X11_isLevel_0.at 4 rfl) (by decide) (fun c29 => ?_) (fun c29 => ?_)
  · replace T := T.1 c29
    refine J_iconst 15 rfl (D_X11_isLevel_0.at 7 rfl) ?_
    refine J_zret rfl (Or.inl rfl) (D_X11_isLevel_0.at 8 rfl) (fun _ => ?_)
    refine J_if_eq 29 rfl 51 ⟨by decide, by decide⟩ (D_X11_mine_0.at 12 rfl) (by decide) (fun _ => ?_) (fun c => absurd (by decide) c)
    refine J_iconst 52 rfl (D_X11_mine_0.at 22 rfl) ?_
    exact J_iret rfl (D_X11_mine_0.at 23 rfl) T
  replace T := T.2 c29
  refine J_iconst 11 rfl (D_X11_isLevel_0.at 5 rfl) ?_
  refine J_goto 15 (D_X11_isLevel_0.at 6 rfl) (by decide) ?_
  refine J_zret rfl (Or.inr rfl) (D_X11_isLevel_0.at 8 rfl) (fun _ => ?_)
  refine J_if_eq 29 rfl 51 ⟨by decide, by decide⟩ (D_X11_mine_0.at 12 rfl) (by decide) (fun c => absurd c (by decide)) (fun _ => ?_)
  refine J_iload 31 rfl 4 4 rfl (D_X11_mine_0.at 13 rfl) ?_
  obtain ⟨s11, T⟩ := T
  refine J_if_lt 34 rfl 51 s11 (D_X11_mine_0.at 14 rfl) (by decide) (fun c28 => ?_) (fun c28 => ?_)
  · replace T := T.1 c28
    refine J_iconst 52 rfl (D_X11_mine_0.at 22 rfl) ?_
    exact J_iret rfl (D_X11_mine_0.at 23 rfl) T
  replace T := T.2 c28
  refine J_iload 36 rfl 4 4 rfl (D_X11_mine_0.at 15 rfl) ?_
  refine J_sipush 39 rfl ⟨by decide, by decide⟩ (D_X11_mine_0.at 16 rfl) ?_
  obtain ⟨s12, T⟩ := T
  refine J_icmp_gt 42 rfl 51 s12 ⟨by decide, by decide⟩ (D_X11_mine_0.at 17 rfl) (by decide) (fun c27 => ?_) (fun c27 => ?_)
  · replace T := T.1 c27
    refine J_iconst 52 rfl (D_X11_mine_0.at 22 rfl) ?_
    exact J_iret rfl (D_X11_mine_0.at 23 rfl) T
  replace T := T.2 c27
  refine J_aload_n 43 rfl 0 0 rfl ⟨by decide, by decide⟩ (D_X11_mine_0.at 18 rfl) ?_
  refine J_iload 45 rfl 5 5 rfl (D_X11_mine_0.at 19 rfl) ?_
  refine J_callV (d' := 2) (sr := fun z => [vI z]) (as := [vI a5]) (st := []) (o := 0) 48 rfl ok_X11_isStoneQuestion im_X11_isStoneQuestion se_X11_isStoneQuestion ml_11_313 isC_11 ob_0 (Ob.lt ob_0) rfl (by decide) ⟨Nat.le_refl _, Nat.le_refl _⟩ (Nat.le_of_ble_eq_true rfl) (D_X11_mine_0.at 20 rfl) (fun _ => rfl) T (fun r13 h14 T b15 => ?_)
  replace T := T b15
  refine J_if_ne 51 rfl 53 (inR_b b15) (D_X11_mine_0.at 21 rfl) (by decide) (fun c26 => ?_) (fun c26 => ?_)
  · replace T := T.1 c26
    refine J_aload_n 54 rfl 0 0 rfl ⟨by decide, by decide⟩ (D_X11_mine_0.at 24 rfl) ?_
    refine J_getF (ov := 61) (dd := 1061) 57 rfl fl_11_97 rfl (by decide) rfl ob_0 (Ob.lt ob_0) (D_X11_mine_0.at 25 rfl) ?_
    refine J_aload_n 58 rfl 0 0 rfl ⟨by decide, by decide⟩ (D_X11_mine_0.at 26 rfl) ?_
    obtain ⟨s16, T⟩ := T
    refine J_getR (z := (h14 0 4)) 61 rfl fl_11_35 rfl ob_0 (Ob.lt ob_0) (D_X11_mine_0.at 27 rfl) rfl ?_
    refine J_aload_n 62 rfl 0 0 rfl ⟨by decide, by decide⟩ (D_X11_mine_0.at 28 rfl) ?_
    refine J_getF (ov := 40) (dd := 1040) 65 rfl fl_11_45 rfl (by decide) rfl ob_0 (Ob.lt ob_0) (D_X11_mine_0.at 29 rfl) ?_
    refine J_iload_n 66 rfl 3 3 rfl (D_X11_mine_0.at 30 rfl) ?_
    refine J_callV (d' := 1) (sr := fun z => []) (as := [vR (h14 0 4), vR 40, vI a3]) (st := []) (o := 61) 69 rfl ok_X0_aim im_X0_aim se_X0_aim ml_11_266 isC_0 ob_61 (Ob.lt ob_61) rfl (by decide) ⟨Nat.le_refl _, Nat.le_refl _⟩ (Nat.le_of_ble_eq_true rfl) (D_X11_mine_0.at 31 rfl) (fun _ => rfl) T (fun r17 h18 T b19 => ?_)
    refine J_aload_n 70 rfl 0 0 rfl ⟨by decide, by decide⟩ (D_X11_mine_0.at 32 rfl) ?_
    refine J_getF (ov := 66) (dd := 1066) 73 rfl fl_11_106 rfl (by decide) rfl ob_0 (Ob.lt ob_0) (D_X11_mine_0.at 33 rfl) ?_
    refine J_iload_n 74 rfl 1 1 rfl (D_X11_mine_0.at 34 rfl) ?_
    refine J_iload_n 75 rfl 2 2 rfl (D_X11_mine_0.at 35 rfl) ?_
    refine J_iload 77 rfl 4 4 rfl (D_X11_mine_0.at 36 rfl) ?_
    refine J_callV (d' := 6) (sr := fun z => []) (as := [vI a1, vI a2, vI a4]) (st := []) (o := 66) 80 rfl ok_X3_seekShare im_X3_seekShare se_X3_seekShare ml_11_316 isC_3 ob_66 (Ob.lt ob_66) rfl (by decide) ⟨Nat.le_refl _, Nat.le_refl _⟩ (Nat.le_of_ble_eq_true rfl) (D_X11_mine_0.at 37 rfl) (fun _ => rfl) T (fun r20 h21 T b22 => ?_)
    refine J_aload_n 81 rfl 0 0 rfl ⟨by decide, by decide⟩ (D_X11_mine_0.at 38 rfl) ?_
    refine J_getF (ov := 66) (dd := 1066) 84 rfl fl_11_106 rfl (by decide) rfl ob_0 (Ob.lt ob_0) (D_X11_mine_0.at 39 rfl) ?_
    refine J_iload 86 rfl 5 5 rfl (D_X11_mine_0.at 40 rfl) ?_
    refine J_callV (d' := 1) (sr := fun z => [vI z]) (as := [vI a5]) (st := []) (o := 66) 89 rfl ok_X3_answer im_X3_answer se_X3_answer ml_11_320 isC_3 ob_66 (Ob.lt ob_66) rfl (by decide) ⟨Nat.le_refl _, Nat.le_refl _⟩ (Nat.le_of_ble_eq_true rfl) (D_X11_mine_0.at 41 rfl) (fun _ => rfl) T (fun r23 h24 T b25 => ?_)
    exact J_iret rfl (D_X11_mine_0.at 42 rfl) T
  replace T := T.2 c26
  refine J_iconst 52 rfl (D_X11_mine_0.at 22 rfl) ?_
  exact J_iret rfl (D_X11_mine_0.at 23 rfl) T
theorem c_X11_until {w : Wd} {a1 a2 a3 : Int} {h : Hp} {K : Int → Hp → Prop} (T : (Ob 7 (h 0 4)) ∧ ((inR a1) ∧ (((a1 < 0) → (K (-1) h)) ∧ (¬ (a1 < 0) → ((inR a1) ∧ ((inR (h ((h 0 4) + 1) 1)) ∧ (((a1 ≥ (h ((h 0 4) + 1) 1)) → (K (-1) h)) ∧ (¬ (a1 ≥ (h ((h 0 4) + 1) 1)) → ((Ob 7 (h 0 4)) ∧ (C_X7_hasReach w (h 0 4) a2 h (fun r6 h7 => (r6 = 0 ∨ r6 = 1) → ((r6 = 0) → (K (-1) h7)) ∧ (¬ (r6 = 0) → ((inR a3) ∧ (((a3 < 0) → (K (-1) h7)) ∧ (¬ (a3 < 0) → ((inR a3) ∧ (((a3 ≥ 10) → (K (-1) h7)) ∧ (¬ (a3 ≥ 10) → (C_X9_copy w 45 40 h7 (fun _ h12 => L_X11_until_45 w a1 a2 a3 0 h12 K)))))))))))))))))))) : C_X11_until w a1 a2 a3 h K := by
  refine CGm_of2 (by decide) (by decide) trivial (Nat.le_of_ble_eq_true rfl) ?_
  refine J_aload_n 1 rfl 0 0 rfl ⟨by decide, by decide⟩ (D_X11_until_0.at 0 rfl) ?_
  obtain ⟨s1, T⟩ := T
  refine J_getR (z := (h 0 4)) 4 rfl fl_11_35 rfl ob_0 (Ob.lt ob_0) (D_X11_until_0.at 1 rfl) rfl ?_
  refine J_iload_n 5 rfl 1 1 rfl (D_X11_until_0.at 2 rfl) ?_
  refine J_callV (d' := 1) (K1 := fun z h0 => rok (some .boolean) z → JG w true m_X11_until 7 NT NT 8 [(0, vR 0), (1, vI a1), (2, vI a2), (3, vI a3)] [vI z] h0 _) (sr := fun z => [vI z]) (as := [vI a1]) (st := []) (o := (h 0 4)) 8 rfl ok_X7_hasOwner im_X7_hasOwner se_X7_hasOwner ml_11_247 isC_7 s1 (Ob.lt s1) rfl (by decide) ⟨Nat.le_refl _, Nat.le_refl _⟩ (Nat.le_of_ble_eq_true rfl) (D_X11_until_0.at 3 rfl) (fun _ => rfl) (CGm_of2 (by decide) (by decide) trivial (Nat.le_of_ble_eq_true rfl) ?_) (fun _ _ kq hb => kq hb)
  refine J_iload_n 1 rfl 1 1 rfl (D_X7_hasOwner_0.at 0 rfl) ?_
  obtain ⟨s2, T⟩ := T
  refine J_if_lt 4 rfl 19 s2 (D_X7_hasOwner_0.at 1 rfl) (by decide) (fun c18 => ?_) (fun c18 => ?_)
  · replace T := T.1 c18
    refine J_iconst 20 rfl (D_X7_hasOwner_0.at 9 rfl) ?_
    refine J_zret rfl (Or.inl rfl) (D_X7_hasOwner_0.at 10 rfl) (fun _ => ?_)
    refine J_if_eq 11 rfl 29 ⟨by decide, by decide⟩ (D_X11_until_0.at 4 rfl) (by decide) (fun _ => ?_) (fun c => absurd (by decide) c)
    refine J_iconst 30 rfl (D_X11_until_0.at 13 rfl) ?_
    exact J_iret rfl (D_X11_until_0.at 14 rfl) T
  replace T := T.2 c18
  refine J_iload_n 5 rfl 1 1 rfl (D_X7_hasOwner_0.at 2 rfl) ?_
  refine J_aload_n 6 rfl 0 0 rfl (Ob.rng s1) (D_X7_hasOwner_0.at 3 rfl) ?_
  refine J_getF (ov := ((h 0 4) + 1)) (dd := 1001) 9 rfl fl_7_14 rfl (by decide) rfl s1 (Ob.lt s1) (D_X7_hasOwner_0.at 4 rfl) ?_
  refine J_getI (z := (h ((h 0 4) + 1) 1)) 12 rfl fl_7_58 rfl (of_7_0 s1) (Ob.lt (of_7_0 s1)) (D_X7_hasOwner_0.at 5 rfl) rfl ?_
  obtain ⟨s3, T⟩ := T
  obtain ⟨s4, T⟩ := T
  refine J_icmp_ge 15 rfl 19 s3 s4 (D_X7_hasOwner_0.at 6 rfl) (by decide) (fun c17 => ?_) (fun c17 => ?_)
  · replace T := T.1 c17
    refine J_iconst 20 rfl (D_X7_hasOwner_0.at 9 rfl) ?_
    refine J_zret rfl (Or.inl rfl) (D_X7_hasOwner_0.at 10 rfl) (fun _ => ?_)
    refine J_if_eq 11 rfl 29 ⟨by decide, by decide⟩ (D_X11_until_0.at 4 rfl) (by decide) (fun _ => ?_) (fun c => absurd (by decide) c)
    refine J_iconst 30 rfl (D_X11_until_0.at 13 rfl) ?_
    exact J_iret rfl (D_X11_until_0.at 14 rfl) T
  replace T := T.2 c17
  refine J_iconst 16 rfl (D_X7_hasOwner_0.at 7 rfl) ?_
  refine J_goto 20 (D_X7_hasOwner_0.at 8 rfl) (by decide) ?_
  refine J_zret rfl (Or.inr rfl) (D_X7_hasOwner_0.at 10 rfl) (fun _ => ?_)
  refine J_if_eq 11 rfl 29 ⟨by decide, by decide⟩ (D_X11_until_0.at 4 rfl) (by decide) (fun c => absurd c (by decide)) (fun _ => ?_)
  refine J_aload_n 12 rfl 0 0 rfl ⟨by decide, by decide⟩ (D_X11_until_0.at 5 rfl) ?_
  obtain ⟨s5, T⟩ := T
  refine J_getR (z := (h 0 4)) 15 rfl fl_11_35 rfl ob_0 (Ob.lt ob_0) (D_X11_until_0.at 6 rfl) rfl ?_
  refine J_iload_n 16 rfl 2 2 rfl (D_X11_until_0.at 7 rfl) ?_
  refine J_callV (d' := 1) (sr := fun z => [vI z]) (as := [vI a2]) (st := []) (o := (h 0 4)) 19 rfl ok_X7_hasReach im_X7_hasReach se_X7_hasReach ml_11_220 isC_7 s5 (Ob.lt s5) rfl (by decide) ⟨Nat.le_refl _, Nat.le_refl _⟩ (Nat.le_of_ble_eq_true rfl) (D_X11_until_0.at 8 rfl) (fun _ => rfl) T (fun r6 h7 T b8 => ?_)
  replace T := T b8
  refine J_if_eq 22 rfl 29 (inR_b b8) (D_X11_until_0.at 9 rfl) (by decide) (fun c16 => ?_) (fun c16 => ?_)
  · replace T := T.1 c16
    refine J_iconst 30 rfl (D_X11_until_0.at 13 rfl) ?_
    exact J_iret rfl (D_X11_until_0.at 14 rfl) T
  replace T := T.2 c16
  refine J_iload_n 23 rfl 3 3 rfl (D_X11_until_0.at 10 rfl) ?_
  refine J_callS (d' := 1) (K1 := fun z h0 => rok (some .boolean) z → JG w true m_X11_until 7 NT NT 26 [(0, vR 0), (1, vI a1), (2, vI a2), (3, vI a3)] [vI z] h0 _) (sr := fun z => [vI z]) (as := [vI a3]) (st := []) 26 rfl ok_X11_isLevel sm_X11_isLevel ml_11_263 rfl (by decide) ⟨Nat.le_refl _, Nat.le_refl _⟩ (Nat.le_of_ble_eq_true rfl) (D_X11_until_0.at 11 rfl) (fun _ => rfl) (CGm_of2 (by decide) (by decide) trivial (Nat.le_of_ble_eq_true rfl) ?_) (fun _ _ kq hb => kq hb)
  refine J_iload_n 1 rfl 0 0 rfl (D_X11_isLevel_0.at 0 rfl) ?_
  obtain ⟨s9, T⟩ := T
  refine J_if_lt 4 rfl 14 s9 (D_X11_isLevel_0.at 1 rfl) (by decide) (fun c15 => ?_) (fun c15 => ?_)
  · replace T := T.1 c15
    refine J_iconst 15 rfl (D_X11_isLevel_0.at 7 rfl) ?_
    refine J_zret rfl (Or.inl rfl) (D_X11_isLevel_0.at 8 rfl) (fun _ => ?_)
    refine J_if_ne 29 rfl 31 ⟨by decide, by decide⟩ (D_X11_until_0.at 12 rfl) (by decide) (fun c => absurd c (by decide)) (fun _ => ?_)
    refine J_iconst 30 rfl (D_X11_until_0.at 13 rfl) ?_
    exact J_iret rfl (D_X11_until_0.at 14 rfl) T
  replace T := T.2 c15
  refine J_iload_n 5 rfl 0 0 rfl (D_X11_isLevel_0.at 2 rfl) ?_
  refine J_bipush 7 rfl ⟨by decide, by decide⟩ (D_X11_isLevel_0.at 3 rfl) ?_
  obtain ⟨s10, T⟩ := T
  refine J_icmp_ge 10 rfl 14 s10 ⟨by decide, by decide⟩ (D_X11_isLevel_0.at 4 rfl) (by decide) (fun c14 => ?_) (fun c14 => ?_)
  · replace T := T.1 c14
    refine J_iconst 15 rfl (D_X11_isLevel_0.at 7 rfl) ?_
    refine J_zret rfl (Or.inl rfl) (D_X11_isLevel_0.at 8 rfl) (fun _ => ?_)
    refine J_if_ne 29 rfl 31 ⟨by decide, by decide⟩ (D_X11_until_0.at 12 rfl) (by decide) (fun c => absurd c (by decide)) (fun _ => ?_)
    refine J_iconst 30 rfl (D_X11_until_0.at 13 rfl) ?_
    exact J_iret rfl (D_X11_until_0.at 14 rfl) T
  replace T := T.2 c14
  refine J_iconst 11 rfl (D_X11_isLevel_0.at 5 rfl) ?_
  refine J_goto 15 (D_X11_isLevel_0.at 6 rfl) (by decide) ?_
  refine J_zret rfl (Or.inr rfl) (D_X11_isLevel_0.at 8 rfl) (fun _ => ?_)
  refine J_if_ne 29 rfl 31 ⟨by decide, by decide⟩ (D_X11_until_0.at 12 rfl) (by decide) (fun _ => ?_) (fun c => absurd (by decide) c)
  refine J_aload_n 32 rfl 0 0 rfl ⟨by decide, by decide⟩ (D_X11_until_0.at 15 rfl) ?_
  refine J_getF (ov := 45) (dd := 1045) 35 rfl fl_11_49 rfl (by decide) rfl ob_0 (Ob.lt ob_0) (D_X11_until_0.at 16 rfl) ?_
  refine J_aload_n 36 rfl 0 0 rfl ⟨by decide, by decide⟩ (D_X11_until_0.at 17 rfl) ?_
  refine J_getF (ov := 40) (dd := 1040) 39 rfl fl_11_45 rfl (by decide) rfl ob_0 (Ob.lt ob_0) (D_X11_until_0.at 18 rfl) ?_
  refine J_callV (d' := 1) (sr := fun z => []) (as := [vR 40]) (st := []) (o := 45) 42 rfl ok_X9_copy im_X9_copy se_X9_copy ml_11_327 isC_9 ob_45 (Ob.lt ob_45) rfl (by decide) ⟨Nat.le_refl _, Nat.le_refl _⟩ (Nat.le_of_ble_eq_true rfl) (D_X11_until_0.at 19 rfl) (fun _ => rfl) T (fun r11 h12 T b13 => ?_)
  refine J_iconst 43 rfl (D_X11_until_0.at 20 rfl) ?_
  refine J_istore (lv' := [(4, vI 0), (0, vR 0), (1, vI a1), (2, vI a2), (3, vI a3)]) 45 rfl 4 (by decide) rfl (D_X11_until_0.at 21 rfl) ?_
  exact J_sub (lv' := [(0, vR 0), (1, vI a1), (2, vI a2), (3, vI a3), (4, vI 0)]) [1, 2, 3, 4, 0] rfl T
theorem l_X11_until_45 {w : Wd} {v1 v2 v3 v4 : Int} {h : Hp} {K : Int → Hp → Prop} (T : (inR v4) ∧ (((v4 > 20) → (K (-1) h)) ∧ (¬ (v4 > 20) → (C_X11_hasMajority w 45 v2 v1 h (fun r20 h21 => (r20 = 0 ∨ r20 = 1) → ((r20 = 0) → ((inR (h21 45 4)) ∧ ((((h21 45 4) < 999) → (C_X11_passYear w 45 v3 h21 (fun r24 h25 => L_X11_until_45 w v1 v2 v3 (v4 + 1) h25 K))) ∧ (¬ ((h21 45 4) < 999) → (K (-1) h21))))) ∧ (¬ (r20 = 0) → (K v4 h21))))))) : L_X11_until_45 w v1 v2 v3 v4 h K := by
  unfold L_X11_until_45
  refine J_iload 47 rfl 4 4 rfl (D_X11_until_0.at 22 rfl) ?_
  refine J_bipush 49 rfl ⟨by decide, by decide⟩ (D_X11_until_0.at 23 rfl) ?_
  obtain ⟨s19, T⟩ := T
  refine J_icmp_gt 52 rfl 99 s19 ⟨by decide, by decide⟩ (D_X11_until_0.at 24 rfl) (by decide) (fun c29 => ?_) (fun c29 => ?_)
  · replace T := T.1 c29
    refine J_iconst 100 rfl (D_X11_until_1.at 1 rfl) ?_
    exact J_iret rfl (D_X11_until_1.at 2 rfl) T
  replace T := T.2 c29
  refine J_aload_n 53 rfl 0 0 rfl ⟨by decide, by decide⟩ (D_X11_until_0.at 25 rfl) ?_
  refine J_aload_n 54 rfl 0 0 rfl ⟨by decide, by decide⟩ (D_X11_until_0.at 26 rfl) ?_
  refine J_getF (ov := 45) (dd := 1045) 57 rfl fl_11_49 rfl (by decide) rfl ob_0 (Ob.lt ob_0) (D_X11_until_0.at 27 rfl) ?_
  refine J_iload_n 58 rfl 2 2 rfl (D_X11_until_0.at 28 rfl) ?_
  refine J_iload_n 59 rfl 1 1 rfl (D_X11_until_0.at 29 rfl) ?_
  refine J_callV (d' := 3) (sr := fun z => [vI z]) (as := [vR 45, vI v2, vI v1]) (st := []) (o := 0) 62 rfl ok_X11_hasMajority im_X11_hasMajority se_X11_hasMajority ml_11_330 isC_11 ob_0 (Ob.lt ob_0) rfl (by decide) ⟨Nat.le_refl _, Nat.le_refl _⟩ (Nat.le_of_ble_eq_true rfl) (D_X11_until_0.at 30 rfl) (fun _ => rfl) T (fun r20 h21 T b22 => ?_)
  replace T := T b22
  refine J_if_eq 65 rfl 68 (inR_b b22) (D_X11_until_0.at 31 rfl) (by decide) (fun c28 => ?_) (fun c28 => ?_)
  · replace T := T.1 c28
    refine J_aload_n 69 rfl 0 0 rfl ⟨by decide, by decide⟩ (D_X11_until_0.at 34 rfl) ?_
    refine J_getF (ov := 45) (dd := 1045) 72 rfl fl_11_49 rfl (by decide) rfl ob_0 (Ob.lt ob_0) (D_X11_until_0.at 35 rfl) ?_
    refine J_getI (z := (h21 45 4)) 75 rfl fl_11_178 rfl ob_45 (Ob.lt ob_45) (D_X11_until_0.at 36 rfl) rfl ?_
    refine J_sipush 78 rfl ⟨by decide, by decide⟩ (D_X11_until_0.at 37 rfl) ?_
    obtain ⟨s23, T⟩ := T
    refine J_icmp_lt 81 rfl 83 s23 ⟨by decide, by decide⟩ (D_X11_until_0.at 38 rfl) (by decide) (fun c27 => ?_) (fun c27 => ?_)
    · replace T := T.1 c27
      refine J_aload_n 84 rfl 0 0 rfl ⟨by decide, by decide⟩ (D_X11_until_0.at 41 rfl) ?_
      refine J_aload_n 85 rfl 0 0 rfl ⟨by decide, by decide⟩ (D_X11_until_0.at 42 rfl) ?_
      refine J_getF (ov := 45) (dd := 1045) 88 rfl fl_11_49 rfl (by decide) rfl ob_0 (Ob.lt ob_0) (D_X11_until_0.at 43 rfl) ?_
      refine J_iload_n 89 rfl 3 3 rfl (D_X11_until_0.at 44 rfl) ?_
      refine J_callV (d' := 6) (sr := fun z => [vI z]) (as := [vR 45, vI v3]) (st := []) (o := 0) 92 rfl ok_X11_passYear im_X11_passYear se_X11_passYear ml_11_302 isC_11 ob_0 (Ob.lt ob_0) rfl (by decide) ⟨Nat.le_refl _, Nat.le_refl _⟩ (Nat.le_of_ble_eq_true rfl) (D_X11_until_0.at 45 rfl) (fun _ => rfl) T (fun r24 h25 T b26 => ?_)
      refine J_pop 93 rfl rfl (D_X11_until_0.at 46 rfl) ?_
      refine J_iinc (v := (v4 + 1)) (lv' := [(4, vI (v4 + 1)), (0, vR 0), (1, vI v1), (2, vI v2), (3, vI v3)]) 96 rfl 4 4 1 rfl rfl (by decide) rfl (D_X11_until_0.at 47 rfl) ?_
      refine J_goto 45 (D_X11_until_1.at 0 rfl) (by decide) ?_
      exact J_sub (lv' := [(0, vR 0), (1, vI v1), (2, vI v2), (3, vI v3), (4, vI (v4 + 1))]) [1, 2, 3, 4, 0] rfl T
    replace T := T.2 c27
    refine J_iconst 82 rfl (D_X11_until_0.at 39 rfl) ?_
    exact J_iret rfl (D_X11_until_0.at 40 rfl) T
  replace T := T.2 c28
  refine J_iload 67 rfl 4 4 rfl (D_X11_until_0.at 32 rfl) ?_
  exact J_iret rfl (D_X11_until_0.at 33 rfl) T
theorem c_X11_levels {w : Wd} {h : Hp} {K : Int → Hp → Prop} (T : (inR (h 0 15)) ∧ ((((h 0 15) ≠ 0) → (L_X11_levels_13 w 0 0 h K)) ∧ (¬ ((h 0 15) ≠ 0) → (K (-1) h)))) : C_X11_levels w h K := by
  refine CGm_of2 (by decide) (by decide) trivial (Nat.le_of_ble_eq_true rfl) ?_
  refine J_aload_n 1 rfl 0 0 rfl ⟨by decide, by decide⟩ (D_X11_levels_0.at 0 rfl) ?_
  refine J_getI (z := (h 0 15)) 4 rfl fl_11_141 rfl ob_0 (Ob.lt ob_0) (D_X11_levels_0.at 1 rfl) rfl ?_
  obtain ⟨s1, T⟩ := T
  refine J_if_ne 7 rfl 9 s1 (D_X11_levels_0.at 2 rfl) (by decide) (fun c2 => ?_) (fun c2 => ?_)
  · replace T := T.1 c2
    refine J_iconst 10 rfl (D_X11_levels_0.at 5 rfl) ?_
    refine J_istore_n (lv' := [(1, vI 0), (0, vR 0)]) 11 rfl 1 (by decide) rfl (D_X11_levels_0.at 6 rfl) ?_
    refine J_iconst 12 rfl (D_X11_levels_0.at 7 rfl) ?_
    refine J_istore_n (lv' := [(2, vI 0), (1, vI 0), (0, vR 0)]) 13 rfl 2 (by decide) rfl (D_X11_levels_0.at 8 rfl) ?_
    exact J_sub (lv' := [(0, vR 0), (1, vI 0), (2, vI 0)]) [2, 1, 0] rfl T
  replace T := T.2 c2
  refine J_iconst 8 rfl (D_X11_levels_0.at 3 rfl) ?_
  exact J_iret rfl (D_X11_levels_0.at 4 rfl) T
theorem l_X11_levels_13 {w : Wd} {v1 v2 : Int} {h : Hp} {K : Int → Hp → Prop} (T : (inR v2) ∧ (((v2 ≥ 10) → (K v1 h)) ∧ (¬ (v2 ≥ 10) → (C_X11_imagine w v2 h (fun _ h5 => C_X11_isAsFound w h5 (fun r7 h8 => (r7 = 0 ∨ r7 = 1) → ((r7 = 0) → (L_X11_levels_13 w v1 (v2 + 1) h8 K)) ∧ (¬ (r7 = 0) → ((0 ≤ v2 ∧ v2 < 32) ∧ (L_X11_levels_13 w (iorI v1 (1 * 2 ^ (Int.toNat v2))) (v2 + 1) h8 K))))))))) : L_X11_levels_13 w v1 v2 h K := by
  unfold L_X11_levels_13
  refine J_iload_n 14 rfl 2 2 rfl (D_X11_levels_0.at 9 rfl) ?_
  refine J_bipush 16 rfl ⟨by decide, by decide⟩ (D_X11_levels_0.at 10 rfl) ?_
  obtain ⟨s3, T⟩ := T
  refine J_icmp_ge 19 rfl 43 s3 ⟨by decide, by decide⟩ (D_X11_levels_0.at 11 rfl) (by decide) (fun c12 => ?_) (fun c12 => ?_)
  · replace T := T.1 c12
    refine J_iload_n 44 rfl 1 1 rfl (D_X11_levels_0.at 26 rfl) ?_
    exact J_iret rfl (D_X11_levels_0.at 27 rfl) T
  replace T := T.2 c12
  refine J_aload_n 20 rfl 0 0 rfl ⟨by decide, by decide⟩ (D_X11_levels_0.at 12 rfl) ?_
  refine J_iload_n 21 rfl 2 2 rfl (D_X11_levels_0.at 13 rfl) ?_
  refine J_callV (d' := 6) (sr := fun z => []) (as := [vI v2]) (st := []) (o := 0) 24 rfl ok_X11_imagine im_X11_imagine se_X11_imagine ml_11_276 isC_11 ob_0 (Ob.lt ob_0) rfl (by decide) ⟨Nat.le_refl _, Nat.le_refl _⟩ (Nat.le_of_ble_eq_true rfl) (D_X11_levels_0.at 14 rfl) (fun _ => rfl) T (fun r4 h5 T b6 => ?_)
  refine J_aload_n 25 rfl 0 0 rfl ⟨by decide, by decide⟩ (D_X11_levels_0.at 15 rfl) ?_
  refine J_callV (d' := 4) (sr := fun z => [vI z]) (as := []) (st := []) (o := 0) 28 rfl ok_X11_isAsFound im_X11_isAsFound se_X11_isAsFound ml_11_337 isC_11 ob_0 (Ob.lt ob_0) rfl (by decide) ⟨Nat.le_refl _, Nat.le_refl _⟩ (Nat.le_of_ble_eq_true rfl) (D_X11_levels_0.at 16 rfl) (fun _ => rfl) T (fun r7 h8 T b9 => ?_)
  replace T := T b9
  refine J_if_eq 31 rfl 37 (inR_b b9) (D_X11_levels_0.at 17 rfl) (by decide) (fun c11 => ?_) (fun c11 => ?_)
  · replace T := T.1 c11
    refine J_iinc (v := (v2 + 1)) (lv' := [(2, vI (v2 + 1)), (0, vR 0), (1, vI v1)]) 40 rfl 2 2 1 rfl rfl (by decide) rfl (D_X11_levels_0.at 24 rfl) ?_
    refine J_goto 13 (D_X11_levels_0.at 25 rfl) (by decide) ?_
    exact J_sub (lv' := [(0, vR 0), (1, vI v1), (2, vI (v2 + 1))]) [1, 2, 0] rfl T
  replace T := T.2 c11
  refine J_iload_n 32 rfl 1 1 rfl (D_X11_levels_0.at 18 rfl) ?_
  refine J_iconst 33 rfl (D_X11_levels_0.at 19 rfl) ?_
  refine J_iload_n 34 rfl 2 2 rfl (D_X11_levels_0.at 20 rfl) ?_
  obtain ⟨s10, T⟩ := T
  refine J_ishl 35 rfl s10 (D_X11_levels_0.at 21 rfl) ?_
  refine J_ior 36 rfl (D_X11_levels_0.at 22 rfl) ?_
  refine J_istore_n (lv' := [(1, vI (iorI v1 (1 * 2 ^ (Int.toNat v2)))), (0, vR 0), (2, vI v2)]) 37 rfl 1 (by decide) rfl (D_X11_levels_0.at 23 rfl) ?_
  refine J_iinc (v := (v2 + 1)) (lv' := [(2, vI (v2 + 1)), (1, vI (iorI v1 (1 * 2 ^ (Int.toNat v2)))), (0, vR 0)]) 40 rfl 2 2 1 rfl rfl (by decide) rfl (D_X11_levels_0.at 24 rfl) ?_
  refine J_goto 13 (D_X11_levels_0.at 25 rfl) (by decide) ?_
  exact J_sub (lv' := [(0, vR 0), (1, vI (iorI v1 (1 * 2 ^ (Int.toNat v2)))), (2, vI (v2 + 1))]) [2, 1, 0] rfl T
theorem c_X11_ask {w : Wd} {h : Hp} {K : Int → Hp → Prop} (T : (Ob 7 (h 0 4)) ∧ ((inR (h (h 0 4) 12)) ∧ ((((h (h 0 4) 12) ≠ 0) → (C_X10_begin w h (fun _ h4 => C_X2_question w h4 (fun r6 h7 => C_X11_keepFault w h7 (fun _ h10 => ∀ h12 : Hp, h12 = hu h10 1 1 0 → (inR (h12 0 18)) ∧ ((((h12 0 18) = 0) → (C_X11_answer w r6 h12 (fun r15 h16 => K r15 h16))) ∧ (¬ ((h12 0 18) = 0) → (K (-1000000000000000) h12)))))))) ∧ (¬ ((h (h 0 4) 12) ≠ 0) → (∀ h19 : Hp, h19 = hu h 1 1 0 → K (-1000000000000000) h19))))) : C_X11_ask w h K := by
  refine CGm_of2 (by decide) (by decide) trivial (Nat.le_of_ble_eq_true rfl) ?_
  refine J_aload_n 1 rfl 0 0 rfl ⟨by decide, by decide⟩ (D_X11_ask_0.at 0 rfl) ?_
  obtain ⟨s1, T⟩ := T
  refine J_getR (z := (h 0 4)) 4 rfl fl_11_35 rfl ob_0 (Ob.lt ob_0) (D_X11_ask_0.at 1 rfl) rfl ?_
  refine J_getI (z := (h (h 0 4) 12)) 7 rfl fl_11_151 rfl s1 (Ob.lt s1) (D_X11_ask_0.at 2 rfl) rfl ?_
  obtain ⟨s2, T⟩ := T
  refine J_if_ne 10 rfl 22 s2 (D_X11_ask_0.at 3 rfl) (by decide) (fun c21 => ?_) (fun c21 => ?_)
  · replace T := T.1 c21
    refine J_aload_n 23 rfl 0 0 rfl ⟨by decide, by decide⟩ (D_X11_ask_0.at 10 rfl) ?_
    refine J_getF (ov := 1) (dd := 1001) 26 rfl fl_11_12 rfl (by decide) rfl ob_0 (Ob.lt ob_0) (D_X11_ask_0.at 11 rfl) ?_
    refine J_callV (d' := 1) (sr := fun z => []) (as := []) (st := []) (o := 1) 29 rfl ok_X10_begin im_X10_begin se_X10_begin ml_11_125 isC_10 ob_1 (Ob.lt ob_1) rfl (by decide) ⟨Nat.le_refl _, Nat.le_refl _⟩ (Nat.le_of_ble_eq_true rfl) (D_X11_ask_0.at 12 rfl) (fun _ => rfl) T (fun r3 h4 T b5 => ?_)
    refine J_aload_n 30 rfl 0 0 rfl ⟨by decide, by decide⟩ (D_X11_ask_0.at 13 rfl) ?_
    refine J_getF (ov := 5) (dd := 1005) 33 rfl fl_11_28 rfl (by decide) rfl ob_0 (Ob.lt ob_0) (D_X11_ask_0.at 14 rfl) ?_
    refine J_callV (d' := 61) (sr := fun z => [vI z]) (as := []) (st := []) (o := 5) 36 rfl ok_X2_question im_X2_question se_X2_question ml_11_346 isC_2 ob_5 (Ob.lt ob_5) rfl (by decide) ⟨Nat.le_refl _, Nat.le_refl _⟩ (Nat.le_of_ble_eq_true rfl) (D_X11_ask_0.at 15 rfl) (fun _ => rfl) T (fun r6 h7 T b8 => ?_)
    refine J_istore_n (lv' := [(1, vI r6), (0, vR 0)]) 37 rfl 1 (by decide) rfl (D_X11_ask_0.at 16 rfl) ?_
    refine J_aload_n 38 rfl 0 1 rfl ⟨by decide, by decide⟩ (D_X11_ask_0.at 17 rfl) ?_
    refine J_callV (d' := 1) (sr := fun z => []) (as := []) (st := []) (o := 0) 41 rfl ok_X11_keepFault im_X11_keepFault se_X11_keepFault ml_11_132 isC_11 ob_0 (Ob.lt ob_0) rfl (by decide) ⟨Nat.le_refl _, Nat.le_refl _⟩ (Nat.le_of_ble_eq_true rfl) (D_X11_ask_0.at 18 rfl) (fun _ => rfl) T (fun r9 h10 T b11 => ?_)
    refine J_aload_n 42 rfl 0 1 rfl ⟨by decide, by decide⟩ (D_X11_ask_0.at 19 rfl) ?_
    refine J_getF (ov := 1) (dd := 1001) 45 rfl fl_11_12 rfl (by decide) rfl ob_0 (Ob.lt ob_0) (D_X11_ask_0.at 20 rfl) ?_
    refine J_iconst 46 rfl (D_X11_ask_0.at 21 rfl) ?_
    refine J_putI 49 rfl fl_11_110 rfl rfl ob_1 (Ob.lt ob_1) (D_X11_ask_0.at 22 rfl) (fun h12 e13 => ?_)
    replace T := T h12 e13
    refine J_aload_n 50 rfl 0 1 rfl ⟨by decide, by decide⟩ (D_X11_ask_0.at 23 rfl) ?_
    refine J_getI (z := (h12 0 18)) 53 rfl fl_11_148 rfl ob_0 (Ob.lt ob_0) (D_X11_ask_0.at 24 rfl) rfl ?_
    obtain ⟨s14, T⟩ := T
    refine J_if_eq 56 rfl 60 s14 (D_X11_ask_0.at 25 rfl) (by decide) (fun c18 => ?_) (fun c18 => ?_)
    · replace T := T.1 c18
      refine J_aload_n 61 rfl 0 1 rfl ⟨by decide, by decide⟩ (D_X11_ask_0.at 28 rfl) ?_
      refine J_iload_n 62 rfl 1 0 rfl (D_X11_ask_0.at 29 rfl) ?_
      refine J_callV (d' := 6) (sr := fun z => [vL z]) (as := [vI r6]) (st := []) (o := 0) 65 rfl ok_X11_answer im_X11_answer se_X11_answer ml_11_348 isC_11 ob_0 (Ob.lt ob_0) rfl (by decide) ⟨Nat.le_refl _, Nat.le_refl _⟩ (Nat.le_of_ble_eq_true rfl) (D_X11_ask_0.at 30 rfl) (fun _ => rfl) T (fun r15 h16 T b17 => ?_)
      exact J_lret rfl (D_X11_ask_0.at 31 rfl) T
    replace T := T.2 c18
    refine J_ldc2 59 rfl ko_11_344 (D_X11_ask_0.at 26 rfl) ?_
    exact J_lret rfl (D_X11_ask_0.at 27 rfl) T
  replace T := T.2 c21
  refine J_aload_n 11 rfl 0 0 rfl ⟨by decide, by decide⟩ (D_X11_ask_0.at 4 rfl) ?_
  refine J_getF (ov := 1) (dd := 1001) 14 rfl fl_11_12 rfl (by decide) rfl ob_0 (Ob.lt ob_0) (D_X11_ask_0.at 5 rfl) ?_
  refine J_iconst 15 rfl (D_X11_ask_0.at 6 rfl) ?_
  refine J_putI 18 rfl fl_11_110 rfl rfl ob_1 (Ob.lt ob_1) (D_X11_ask_0.at 7 rfl) (fun h19 e20 => ?_)
  replace T := T h19 e20
  refine J_ldc2 21 rfl ko_11_344 (D_X11_ask_0.at 8 rfl) ?_
  exact J_lret rfl (D_X11_ask_0.at 9 rfl) T
theorem c_X11_river {w : Wd} {h : Hp} {K : Int → Hp → Prop} (T : C_X10_begin w h (fun _ h2 => (Ob 7 (h2 0 5)) ∧ (C_X8_read w (h2 0 5) h2 (fun r5 h6 => (r5 = 0 ∨ r5 = 1) → C_X11_keepFault w h6 (fun _ h9 => ∀ h11 : Hp, h11 = hu h9 1 1 0 → ((r5 ≠ 0) → ((Ob 7 (h11 0 4)) ∧ ((Ob 7 (h11 0 5)) ∧ (∀ h15 : Hp, h15 = hu h11 0 4 (h11 0 5) → ∀ h17 : Hp, h17 = hu h15 0 5 (h11 0 4) → (Ob 7 (h17 0 4)) ∧ (C_X9_clear w 40 (h17 0 4) h17 (fun _ h21 => ∀ h23 : Hp, h23 = hu h21 50 2 0 → ∀ h25 : Hp, h25 = hu h23 0 15 0 → (Ob 7 (h25 0 4)) ∧ (K (h25 (h25 0 4) 11) h25))))))) ∧ (¬ (r5 ≠ 0) → (C_X11_refuse w 1 h11 (fun r28 h29 => K r28 h29)))))))) : C_X11_river w h K := by
  refine CGm_of2 (by decide) (by decide) trivial (Nat.le_of_ble_eq_true rfl) ?_
  refine J_aload_n 1 rfl 0 0 rfl ⟨by decide, by decide⟩ (D_X11_river_0.at 0 rfl) ?_
  refine J_getF (ov := 1) (dd := 1001) 4 rfl fl_11_12 rfl (by decide) rfl ob_0 (Ob.lt ob_0) (D_X11_river_0.at 1 rfl) ?_
  refine J_callV (d' := 1) (sr := fun z => []) (as := []) (st := []) (o := 1) 7 rfl ok_X10_begin im_X10_begin se_X10_begin ml_11_125 isC_10 ob_1 (Ob.lt ob_1) rfl (by decide) ⟨Nat.le_refl _, Nat.le_refl _⟩ (Nat.le_of_ble_eq_true rfl) (D_X11_river_0.at 2 rfl) (fun _ => rfl) T (fun r1 h2 T b3 => ?_)
  refine J_aload_n 8 rfl 0 0 rfl ⟨by decide, by decide⟩ (D_X11_river_0.at 3 rfl) ?_
  refine J_getF (ov := 60) (dd := 1060) 11 rfl fl_11_88 rfl (by decide) rfl ob_0 (Ob.lt ob_0) (D_X11_river_0.at 4 rfl) ?_
  refine J_aload_n 12 rfl 0 0 rfl ⟨by decide, by decide⟩ (D_X11_river_0.at 5 rfl) ?_
  obtain ⟨s4, T⟩ := T
  refine J_getR (z := (h2 0 5)) 15 rfl fl_11_39 rfl ob_0 (Ob.lt ob_0) (D_X11_river_0.at 6 rfl) rfl ?_
  refine J_callV (d' := 63) (sr := fun z => [vI z]) (as := [vR (h2 0 5)]) (st := []) (o := 60) 18 rfl ok_X8_read im_X8_read se_X8_read ml_11_128 isC_8 ob_60 (Ob.lt ob_60) rfl (by decide) ⟨Nat.le_refl _, Nat.le_refl _⟩ (Nat.le_of_ble_eq_true rfl) (D_X11_river_0.at 7 rfl) (fun _ => rfl) T (fun r5 h6 T b7 => ?_)
  replace T := T b7
  refine J_istore_n (lv' := [(1, vI r5), (0, vR 0)]) 19 rfl 1 (by decide) rfl (D_X11_river_0.at 8 rfl) ?_
  refine J_aload_n 20 rfl 0 1 rfl ⟨by decide, by decide⟩ (D_X11_river_0.at 9 rfl) ?_
  refine J_callV (d' := 1) (sr := fun z => []) (as := []) (st := []) (o := 0) 23 rfl ok_X11_keepFault im_X11_keepFault se_X11_keepFault ml_11_132 isC_11 ob_0 (Ob.lt ob_0) rfl (by decide) ⟨Nat.le_refl _, Nat.le_refl _⟩ (Nat.le_of_ble_eq_true rfl) (D_X11_river_0.at 10 rfl) (fun _ => rfl) T (fun r8 h9 T b10 => ?_)
  refine J_aload_n 24 rfl 0 1 rfl ⟨by decide, by decide⟩ (D_X11_river_0.at 11 rfl) ?_
  refine J_getF (ov := 1) (dd := 1001) 27 rfl fl_11_12 rfl (by decide) rfl ob_0 (Ob.lt ob_0) (D_X11_river_0.at 12 rfl) ?_
  refine J_iconst 28 rfl (D_X11_river_0.at 13 rfl) ?_
  refine J_putI 31 rfl fl_11_110 rfl rfl ob_1 (Ob.lt ob_1) (D_X11_river_0.at 14 rfl) (fun h11 e12 => ?_)
  replace T := T h11 e12
  refine J_iload_n 32 rfl 1 0 rfl (D_X11_river_0.at 15 rfl) ?_
  refine J_if_ne 35 rfl 41 (inR_b b7) (D_X11_river_0.at 16 rfl) (by decide) (fun c31 => ?_) (fun c31 => ?_)
  · replace T := T.1 c31
    refine J_aload_n 42 rfl 0 1 rfl ⟨by decide, by decide⟩ (D_X11_river_0.at 21 rfl) ?_
    obtain ⟨s13, T⟩ := T
    refine J_getR (z := (h11 0 4)) 45 rfl fl_11_35 rfl ob_0 (Ob.lt ob_0) (D_X11_river_0.at 22 rfl) rfl ?_
    refine J_astore_n (lv' := [(2, vR (h11 0 4)), (1, vI r5), (0, vR 0)]) 46 rfl 2 (Ob.rng s13) (by decide) rfl (D_X11_river_0.at 23 rfl) ?_
    refine J_aload_n 47 rfl 0 2 rfl ⟨by decide, by decide⟩ (D_X11_river_0.at 24 rfl) ?_
    refine J_aload_n 48 rfl 0 2 rfl ⟨by decide, by decide⟩ (D_X11_river_0.at 25 rfl) ?_
    obtain ⟨s14, T⟩ := T
    refine J_getR (z := (h11 0 5)) 51 rfl fl_11_39 rfl ob_0 (Ob.lt ob_0) (D_X11_river_0.at 26 rfl) rfl ?_
    refine J_putR 54 rfl fl_11_35 rfl rfl (Ob.rng s14) ob_0 (Ob.lt ob_0) (D_X11_river_0.at 27 rfl) (fun h15 e16 => ?_)
    replace T := T h15 e16
    refine J_aload_n 55 rfl 0 2 rfl ⟨by decide, by decide⟩ (D_X11_river_0.at 28 rfl) ?_
    refine J_aload_n 56 rfl 2 0 rfl (Ob.rng s13) (D_X11_river_0.at 29 rfl) ?_
    refine J_putR 59 rfl fl_11_39 rfl rfl (Ob.rng s13) ob_0 (Ob.lt ob_0) (D_X11_river_0.at 30 rfl) (fun h17 e18 => ?_)
    replace T := T h17 e18
    refine J_aload_n 60 rfl 0 2 rfl ⟨by decide, by decide⟩ (D_X11_river_0.at 31 rfl) ?_
    refine J_getF (ov := 40) (dd := 1040) 63 rfl fl_11_45 rfl (by decide) rfl ob_0 (Ob.lt ob_0) (D_X11_river_0.at 32 rfl) ?_
    refine J_aload_n 64 rfl 0 2 rfl ⟨by decide, by decide⟩ (D_X11_river_0.at 33 rfl) ?_
    obtain ⟨s19, T⟩ := T
    refine J_getR (z := (h17 0 4)) 67 rfl fl_11_35 rfl ob_0 (Ob.lt ob_0) (D_X11_river_0.at 34 rfl) rfl ?_
    refine J_callV (d' := 1) (sr := fun z => []) (as := [vR (h17 0 4)]) (st := []) (o := 40) 70 rfl ok_X9_clear im_X9_clear se_X9_clear ml_11_135 isC_9 ob_40 (Ob.lt ob_40) rfl (by decide) ⟨Nat.le_refl _, Nat.le_refl _⟩ (Nat.le_of_ble_eq_true rfl) (D_X11_river_0.at 35 rfl) (fun _ => rfl) T (fun r20 h21 T b22 => ?_)
    refine J_aload_n 71 rfl 0 2 rfl ⟨by decide, by decide⟩ (D_X11_river_0.at 36 rfl) ?_
    refine J_getF (ov := 50) (dd := 1050) 74 rfl fl_11_55 rfl (by decide) rfl ob_0 (Ob.lt ob_0) (D_X11_river_0.at 37 rfl) ?_
    refine J_callV (d' := 1) (K1 := fun z h0 => rok (none) z → JG w true m_X11_river 64 NT NT 77 [(2, vR (h11 0 4)), (1, vI r5), (0, vR 0)] [] h0 _) (sr := fun z => []) (as := []) (st := []) (o := 50) 77 rfl ok_X5_clear im_X5_clear se_X5_clear ml_11_139 isC_5 ob_50 (Ob.lt ob_50) rfl (by decide) ⟨Nat.le_refl _, Nat.le_refl _⟩ (Nat.le_of_ble_eq_true rfl) (D_X11_river_0.at 38 rfl) (fun _ => rfl) (CGm_of2 (by decide) (by decide) trivial (Nat.le_of_ble_eq_true rfl) ?_) (fun _ _ kq hb => kq hb)
    refine J_aload_n 1 rfl 0 0 rfl ⟨by decide, by decide⟩ (D_X5_clear_0.at 0 rfl) ?_
    refine J_iconst 2 rfl (D_X5_clear_0.at 1 rfl) ?_
    refine J_putI 5 rfl fl_5_15 rfl rfl ob_50 (Ob.lt ob_50) (D_X5_clear_0.at 2 rfl) (fun h23 e24 => ?_)
    replace T := T h23 e24
    refine J_vret rfl (D_X5_clear_0.at 3 rfl) (fun _ => ?_)
    refine J_aload_n 78 rfl 0 2 rfl ⟨by decide, by decide⟩ (D_X11_river_0.at 39 rfl) ?_
    refine J_iconst 79 rfl (D_X11_river_0.at 40 rfl) ?_
    refine J_putZ 82 rfl fl_11_141 rfl rfl (Or.inl rfl) ob_0 (Ob.lt ob_0) (D_X11_river_0.at 41 rfl) (fun h25 e26 => ?_)
    replace T := T h25 e26
    refine J_aload_n 83 rfl 0 2 rfl ⟨by decide, by decide⟩ (D_X11_river_0.at 42 rfl) ?_
    obtain ⟨s27, T⟩ := T
    refine J_getR (z := (h25 0 4)) 86 rfl fl_11_35 rfl ob_0 (Ob.lt ob_0) (D_X11_river_0.at 43 rfl) rfl ?_
    refine J_getI (z := (h25 (h25 0 4) 11)) 89 rfl fl_11_145 rfl s27 (Ob.lt s27) (D_X11_river_0.at 44 rfl) rfl ?_
    exact J_iret rfl (D_X11_river_0.at 45 rfl) T
  replace T := T.2 c31
  refine J_aload_n 36 rfl 0 1 rfl ⟨by decide, by decide⟩ (D_X11_river_0.at 17 rfl) ?_
  refine J_iconst 37 rfl (D_X11_river_0.at 18 rfl) ?_
  refine J_callV (d' := 1) (sr := fun z => [vI z]) (as := [vI 1]) (st := []) (o := 0) 40 rfl ok_X11_refuse im_X11_refuse se_X11_refuse ml_11_113 isC_11 ob_0 (Ob.lt ob_0) rfl (by decide) ⟨Nat.le_refl _, Nat.le_refl _⟩ (Nat.le_of_ble_eq_true rfl) (D_X11_river_0.at 19 rfl) (fun _ => rfl) T (fun r28 h29 T b30 => ?_)
  exact J_iret rfl (D_X11_river_0.at 20 rfl) T
