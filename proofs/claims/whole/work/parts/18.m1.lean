def C_X12_feed (w : Wd) (a1 a2 a3 a4 a5 : Int) (h : Hp) (K : Int → Hp → Prop) : Prop := CGm w true m_X12_feed 1 NT NT [vR 68, vI a1, vI a2, vI a3, vI a4, vI a5] h K
def L_X12_feed_28 (w : Wd) (v1 v2 v3 v4 v5 v6 : Int) (h : Hp) (K : Int → Hp → Prop) : Prop := JG w true m_X12_feed 1 NT NT 28 [(0, vR 68), (1, vI v1), (2, vI v2), (3, vI v3), (4, vI v4), (5, vI v5), (6, vI v6)] [] h K
def C_X12_end (w : Wd) (a1 : Int) (h : Hp) (K : Int → Hp → Prop) : Prop := CGm w true m_X12_end 1 NT NT [vR 68, vI a1] h K
def C_X12_look (w : Wd) (h : Hp) (K : Int → Hp → Prop) : Prop := CGm w true m_X12_look 1 NT NT [vR 68] h K
def L_X12_look_0 (w : Wd) (h : Hp) (K : Int → Hp → Prop) : Prop := JG w true m_X12_look 1 NT NT 0 [(0, vR 68)] [] h K
def C_X12_isLetter (w : Wd) (a1 : Int) (h : Hp) (K : Int → Hp → Prop) : Prop := CGm w true m_X12_isLetter 1 NT NT [vI a1] h K
def C_X12_fail (w : Wd) (a1 a2 : Int) (h : Hp) (K : Int → Hp → Prop) : Prop := CGm w true m_X12_fail 1 NT NT [vR 68, vI a1, vI a2] h K
def C_X12_isDigit (w : Wd) (a1 : Int) (h : Hp) (K : Int → Hp → Prop) : Prop := CGm w true m_X12_isDigit 1 NT NT [vI a1] h K
def C_X12_isIn (w : Wd) (a1 a2 a3 : Int) (h : Hp) (K : Int → Hp → Prop) : Prop := CGm w true m_X12_isIn 1 NT NT [vL a1, vL a2, vL a3] h K
def C_X12_nameOf (w : Wd) (a1 a2 : Int) (h : Hp) (K : Int → Hp → Prop) : Prop := CGm w true m_X12_nameOf 1 NT NT [vR 68, vI a1, vL a2] h K
def L_X12_nameOf_3 (w : Wd) (v1 v2 v4 : Int) (h : Hp) (K : Int → Hp → Prop) : Prop := JG w true m_X12_nameOf 1 NT NT 3 [(0, vR 68), (1, vI v1), (2, vL v2), (4, vI v4)] [] h K
def C_X12_code (w : Wd) (a1 : Int) (h : Hp) (K : Int → Hp → Prop) : Prop := CGm w true m_X12_code 1 NT NT [vR 68, vI a1] h K
def C_X12_isMark (w : Wd) (a1 : Int) (h : Hp) (K : Int → Hp → Prop) : Prop := CGm w true m_X12_isMark 1 NT NT [vR 68, vI a1] h K
def C_X12_isOn (w : Wd) (a1 : Int) (h : Hp) (K : Int → Hp → Prop) : Prop := CGm w true m_X12_isOn 1 NT NT [vR 68, vI a1] h K
def C_X12_stands (w : Wd) (h : Hp) (K : Int → Hp → Prop) : Prop := CGm w true m_X12_stands 1 NT NT [vR 68] h K
def L_X12_stands_10 (w : Wd) (v1 : Int) (h : Hp) (K : Int → Hp → Prop) : Prop := JG w true m_X12_stands 1 NT NT 10 [(0, vR 68), (1, vI v1)] [] h K
def L_X12_stands_51 (w : Wd) (v1 : Int) (h : Hp) (K : Int → Hp → Prop) : Prop := JG w true m_X12_stands 1 NT NT 51 [(0, vR 68), (1, vI v1)] [] h K
def L_X12_stands_80 (w : Wd) (v1 : Int) (h : Hp) (K : Int → Hp → Prop) : Prop := JG w true m_X12_stands 1 NT NT 80 [(0, vR 68), (1, vI v1)] [] h K
def L_X12_stands_109 (w : Wd) (v1 : Int) (h : Hp) (K : Int → Hp → Prop) : Prop := JG w true m_X12_stands 1 NT NT 109 [(0, vR 68), (1, vI v1)] [] h K
def L_X12_stands_138 (w : Wd) (v1 : Int) (h : Hp) (K : Int → Hp → Prop) : Prop := JG w true m_X12_stands 1 NT NT 138 [(0, vR 68), (1, vI v1)] [] h K
def L_X12_stands_179 (w : Wd) (v1 : Int) (h : Hp) (K : Int → Hp → Prop) : Prop := JG w true m_X12_stands 1 NT NT 179 [(0, vR 68), (1, vI v1)] [] h K
def L_X12_stands_211 (w : Wd) (v1 : Int) (h : Hp) (K : Int → Hp → Prop) : Prop := JG w true m_X12_stands 1 NT NT 211 [(0, vR 68), (1, vI v1)] [] h K
def L_X12_stands_232 (w : Wd) (v1 : Int) (h : Hp) (K : Int → Hp → Prop) : Prop := JG w true m_X12_stands 1 NT NT 232 [(0, vR 68), (1, vI v1)] [] h K
def C_X12_fault (w : Wd) (a1 : Int) (h : Hp) (K : Int → Hp → Prop) : Prop := CGm w true m_X12_fault 1 NT NT [vR 68, vI a1] h K
def C_X12_ownerMany (w : Wd) (h : Hp) (K : Int → Hp → Prop) : Prop := CGm w true m_X12_ownerMany 1 NT NT [vR 68] h K
def C_X12_colourMany (w : Wd) (h : Hp) (K : Int → Hp → Prop) : Prop := CGm w true m_X12_colourMany 1 NT NT [vR 68] h K
def C_X12_bankMany (w : Wd) (h : Hp) (K : Int → Hp → Prop) : Prop := CGm w true m_X12_bankMany 1 NT NT [vR 68] h K
def C_X12_settingOf (w : Wd) (a1 : Int) (h : Hp) (K : Int → Hp → Prop) : Prop := CGm w true m_X12_settingOf 1 NT NT [vR 68, vI a1] h K
def C_X12_sumNow (w : Wd) (a1 a2 : Int) (h : Hp) (K : Int → Hp → Prop) : Prop := CGm w true m_X12_sumNow 1 NT NT [vR 68, vI a1, vI a2] h K
def L_X12_sumNow_5 (w : Wd) (v1 v2 v3 v4 : Int) (h : Hp) (K : Int → Hp → Prop) : Prop := JG w true m_X12_sumNow 1 NT NT 5 [(0, vR 68), (1, vI v1), (2, vI v2), (3, vI v3), (4, vI v4)] [] h K
def C_X12_bankOf (w : Wd) (a1 a2 : Int) (h : Hp) (K : Int → Hp → Prop) : Prop := CGm w true m_X12_bankOf 1 NT NT [vR 68, vI a1, vI a2] h K
def C_X12_liesIn (w : Wd) (a1 a2 : Int) (h : Hp) (K : Int → Hp → Prop) : Prop := CGm w true m_X12_liesIn 1 NT NT [vR 68, vI a1, vI a2] h K
def C_X12_stonesAsNow (w : Wd) (h : Hp) (K : Int → Hp → Prop) : Prop := CGm w true m_X12_stonesAsNow 1 NT NT [vR 68] h K
def L_X12_stonesAsNow_2 (w : Wd) (v1 : Int) (h : Hp) (K : Int → Hp → Prop) : Prop := JG w true m_X12_stonesAsNow 1 NT NT 2 [(0, vR 68), (1, vI v1)] [] h K
def C_X12_flowOf (w : Wd) (a1 a2 : Int) (h : Hp) (K : Int → Hp → Prop) : Prop := CGm w true m_X12_flowOf 1 NT NT [vR 68, vI a1, vI a2] h K
def C_X12_puts (w : Wd) (a1 : Int) (h : Hp) (K : Int → Hp → Prop) : Prop := CGm w true m_X12_puts 1 NT NT [vR 68, vL a1] h K
def C_X12_clip (w : Wd) (a1 : Int) (h : Hp) (K : Int → Hp → Prop) : Prop := CGm w true m_X12_clip 1 NT NT [vL a1] h K
def C_X12_floor (w : Wd) (a1 a2 : Int) (h : Hp) (K : Int → Hp → Prop) : Prop := CGm w true m_X12_floor 1 NT NT [vL a1, vL a2] h K
def C_X12_sumOf (w : Wd) (a1 : Int) (h : Hp) (K : Int → Hp → Prop) : Prop := CGm w true m_X12_sumOf 1 NT NT [vR a1] h K
def L_X12_sumOf_4 (w : Wd) (v0 v1 v2 : Int) (h : Hp) (K : Int → Hp → Prop) : Prop := JG w true m_X12_sumOf 1 NT NT 4 [(0, vR v0), (1, vI v1), (2, vI v2)] [] h K
def C_X12_undo (w : Wd) (h : Hp) (K : Int → Hp → Prop) : Prop := CGm w true m_X12_undo 1 NT NT [vR 68] h K
def L_X12_undo_21 (w : Wd) (v1 : Int) (h : Hp) (K : Int → Hp → Prop) : Prop := JG w true m_X12_undo 1 NT NT 21 [(0, vR 68), (1, vI v1)] [] h K
def C_X12_keeps (w : Wd) (h : Hp) (K : Int → Hp → Prop) : Prop := CGm w true m_X12_keeps 1 NT NT [vR 68] h K
def L_X12_keeps_15 (w : Wd) (v1 : Int) (h : Hp) (K : Int → Hp → Prop) : Prop := JG w true m_X12_keeps 1 NT NT 15 [(0, vR 68), (1, vI v1)] [] h K
def C_X12_seed (w : Wd) (a1 : Int) (h : Hp) (K : Int → Hp → Prop) : Prop := CGm w true m_X12_seed 1 NT NT [vR 68, vI a1] h K
def C_X12_drawOf (w : Wd) (a1 : Int) (h : Hp) (K : Int → Hp → Prop) : Prop := CGm w true m_X12_drawOf 1 NT NT [vR 68, vI a1] h K
def C_X12_laysStones (w : Wd) (a1 : Int) (h : Hp) (K : Int → Hp → Prop) : Prop := CGm w true m_X12_laysStones 1 NT NT [vR 68, vI a1] h K
def L_X12_laysStones_12 (w : Wd) (v2 v3 v4 : Int) (h : Hp) (K : Int → Hp → Prop) : Prop := JG w true m_X12_laysStones 1 NT NT 12 [(0, vR 68), (2, vI v2), (3, vI v3), (4, vI v4)] [] h K
def C_X12_stonesTold (w : Wd) (a1 : Int) (h : Hp) (K : Int → Hp → Prop) : Prop := CGm w true m_X12_stonesTold 1 NT NT [vR 68, vI a1] h K
def C_X12_find (w : Wd) (h : Hp) (K : Int → Hp → Prop) : Prop := CGm w true m_X12_find 1 NT NT [vR 68] h K
def L_X12_find_31 (w : Wd) (v2 : Int) (h : Hp) (K : Int → Hp → Prop) : Prop := JG w true m_X12_find 1 NT NT 31 [(0, vR 68), (2, vI v2)] [] h K
def C_X12_writes (w : Wd) (a1 : Int) (h : Hp) (K : Int → Hp → Prop) : Prop := CGm w true m_X12_writes 1 NT NT [vR 68, vI a1] h K
def C_X12_checked (w : Wd) (a1 a2 : Int) (h : Hp) (K : Int → Hp → Prop) : Prop := CGm w true m_X12_checked 1 NT NT [vR a1, vI a2] h K
def L_X12_checked_6 (w : Wd) (v0 v1 v2 v3 : Int) (h : Hp) (K : Int → Hp → Prop) : Prop := JG w true m_X12_checked 1 NT NT 6 [(0, vR v0), (1, vI v1), (2, vI v2), (3, vI v3)] [] h K
def C_X12_octet (w : Wd) (a1 : Int) (h : Hp) (K : Int → Hp → Prop) : Prop := CGm w true m_X12_octet 1 NT NT [vR 68, vI a1] h K
def C_X12_two (w : Wd) (a1 : Int) (h : Hp) (K : Int → Hp → Prop) : Prop := CGm w true m_X12_two 1 NT NT [vR 68, vI a1] h K
def C_X12_isHere (w : Wd) (a1 : Int) (h : Hp) (K : Int → Hp → Prop) : Prop := CGm w true m_X12_isHere 2 NT NT [vR 68, vR a1] h K
def L_X12_isHere_35 (w : Wd) (v1 v2 : Int) (h : Hp) (K : Int → Hp → Prop) : Prop := JG w true m_X12_isHere 2 NT NT 35 [(0, vR 68), (1, vR v1), (2, vI v2)] [] h K
def L_X12_isHere_76 (w : Wd) (v1 v3 : Int) (h : Hp) (K : Int → Hp → Prop) : Prop := JG w true m_X12_isHere 2 NT NT 76 [(0, vR 68), (1, vR v1), (3, vI v3)] [] h K
def C_X12_number (w : Wd) (a1 a2 : Int) (h : Hp) (K : Int → Hp → Prop) : Prop := CGm w true m_X12_number 2 NT NT [vR 68, vI a1, vI a2] h K
def L_X12_number_30 (w : Wd) (h : Hp) (K : Int → Hp → Prop) : Prop := JG w true m_X12_number 2 NT NT 30 [(0, vR 68)] [] h K
def L_X12_number_49 (w : Wd) (v1 v2 v3 v4 : Int) (h : Hp) (K : Int → Hp → Prop) : Prop := JG w true m_X12_number 2 NT NT 49 [(0, vR 68), (1, vI v1), (2, vI v2), (3, vI v3), (4, vI v4)] [] h K
def L_X12_number_129 (w : Wd) (v1 v2 v3 v4 : Int) (h : Hp) (K : Int → Hp → Prop) : Prop := JG w true m_X12_number 2 NT NT 129 [(0, vR 68), (1, vI v1), (2, vI v2), (3, vI v3), (4, vI v4)] [] h K
def L_X12_number_156 (w : Wd) (v4 : Int) (h : Hp) (K : Int → Hp → Prop) : Prop := JG w true m_X12_number 2 NT NT 156 [(4, vI v4)] [] h K
def C_X12_takesSign (w : Wd) (a1 : Int) (h : Hp) (K : Int → Hp → Prop) : Prop := CGm w true m_X12_takesSign 2 NT NT [vR 68, vI a1] h K
def C_X12_isFull (w : Wd) (a1 a2 a3 : Int) (h : Hp) (K : Int → Hp → Prop) : Prop := CGm w true m_X12_isFull 2 NT NT [vR 68, vI a1, vI a2, vI a3] h K
def C_X12_opens (w : Wd) (a1 a2 : Int) (h : Hp) (K : Int → Hp → Prop) : Prop := CGm w true m_X12_opens 2 NT NT [vR 68, vI a1, vI a2] h K
def C_X12_waitsLast (w : Wd) (h : Hp) (K : Int → Hp → Prop) : Prop := CGm w true m_X12_waitsLast 2 NT NT [vR 68] h K
def L_X12_waitsLast_7 (w : Wd) (v1 : Int) (h : Hp) (K : Int → Hp → Prop) : Prop := JG w true m_X12_waitsLast 2 NT NT 7 [(0, vR 68), (1, vI v1)] [] h K
def C_X12_drops (w : Wd) (h : Hp) (K : Int → Hp → Prop) : Prop := CGm w true m_X12_drops 2 NT NT [vR 68] h K
def C_X12_has (w : Wd) (a1 : Int) (h : Hp) (K : Int → Hp → Prop) : Prop := CGm w true m_X12_has 2 NT NT [vR 68, vI a1] h K
def C_X12_letter (w : Wd) (a1 a2 a3 : Int) (h : Hp) (K : Int → Hp → Prop) : Prop := CGm w true m_X12_letter 2 NT NT [vR 68, vI a1, vI a2, vI a3] h K
def L_X12_letter_69 (w : Wd) (v3 v4 v6 v7 : Int) (h : Hp) (K : Int → Hp → Prop) : Prop := JG w true m_X12_letter 2 NT NT 69 [(3, vI v3), (4, vL v4), (6, vI v6), (7, vL v7)] [] h K
def L_X12_letter_104 (w : Wd) (v3 v4 v7 : Int) (h : Hp) (K : Int → Hp → Prop) : Prop := JG w true m_X12_letter 2 NT NT 104 [(3, vI v3), (4, vL v4), (7, vI v7)] [] h K
def C_X12_isBank (w : Wd) (a1 : Int) (h : Hp) (K : Int → Hp → Prop) : Prop := CGm w true m_X12_isBank 2 NT NT [vR 68, vI a1] h K
def C_X12_lyingOf (w : Wd) (a1 : Int) (h : Hp) (K : Int → Hp → Prop) : Prop := CGm w true m_X12_lyingOf 2 NT NT [vR 68, vI a1] h K
def L_X12_lyingOf_4 (w : Wd) (v1 v2 v3 : Int) (h : Hp) (K : Int → Hp → Prop) : Prop := JG w true m_X12_lyingOf 2 NT NT 4 [(0, vR 68), (1, vI v1), (2, vI v2), (3, vI v3)] [] h K
def C_X12_isReach (w : Wd) (a1 : Int) (h : Hp) (K : Int → Hp → Prop) : Prop := CGm w true m_X12_isReach 2 NT NT [vR 68, vI a1] h K
def C_X12_liesAll (w : Wd) (a1 : Int) (h : Hp) (K : Int → Hp → Prop) : Prop := CGm w true m_X12_liesAll 2 NT NT [vR 68, vI a1] h K
def L_X12_liesAll_4 (w : Wd) (v1 v2 v3 : Int) (h : Hp) (K : Int → Hp → Prop) : Prop := JG w true m_X12_liesAll 2 NT NT 4 [(0, vR 68), (1, vI v1), (2, vI v2), (3, vI v3)] [] h K
def C_X12_ownersIn (w : Wd) (a1 a2 : Int) (h : Hp) (K : Int → Hp → Prop) : Prop := CGm w true m_X12_ownersIn 2 NT NT [vR 68, vI a1, vI a2] h K
def L_X12_ownersIn_5 (w : Wd) (v1 v2 v3 v4 : Int) (h : Hp) (K : Int → Hp → Prop) : Prop := JG w true m_X12_ownersIn 2 NT NT 5 [(0, vR 68), (1, vI v1), (2, vI v2), (3, vI v3), (4, vI v4)] [] h K
def C_X12_isOwner (w : Wd) (a1 : Int) (h : Hp) (K : Int → Hp → Prop) : Prop := CGm w true m_X12_isOwner 2 NT NT [vR 68, vI a1] h K
def C_X12_tintOf (w : Wd) (a1 a2 : Int) (h : Hp) (K : Int → Hp → Prop) : Prop := CGm w true m_X12_tintOf 2 NT NT [vR 68, vI a1, vI a2] h K
def L_X12_tintOf_5 (w : Wd) (v1 v2 v3 v4 : Int) (h : Hp) (K : Int → Hp → Prop) : Prop := JG w true m_X12_tintOf 2 NT NT 5 [(0, vR 68), (1, vI v1), (2, vI v2), (3, vI v3), (4, vI v4)] [] h K
def C_X12_isLevel (w : Wd) (a1 : Int) (h : Hp) (K : Int → Hp → Prop) : Prop := CGm w true m_X12_isLevel 2 NT NT [vI a1] h K
def C_X12_asksOf (w : Wd) (a1 a2 a3 a4 : Int) (h : Hp) (K : Int → Hp → Prop) : Prop := CGm w true m_X12_asksOf 2 NT NT [vR 68, vI a1, vI a2, vI a3, vI a4] h K
def C_X12_joins (w : Wd) (a1 : Int) (h : Hp) (K : Int → Hp → Prop) : Prop := CGm w true m_X12_joins 2 NT NT [vR 68, vI a1] h K
def C_X12_settledIn (w : Wd) (a1 : Int) (h : Hp) (K : Int → Hp → Prop) : Prop := CGm w true m_X12_settledIn 2 NT NT [vR 68, vI a1] h K
def L_X12_settledIn_4 (w : Wd) (v1 v2 v3 : Int) (h : Hp) (K : Int → Hp → Prop) : Prop := JG w true m_X12_settledIn 2 NT NT 4 [(0, vR 68), (1, vI v1), (2, vI v2), (3, vI v3)] [] h K
def C_X12_writesTwo (w : Wd) (a1 : Int) (h : Hp) (K : Int → Hp → Prop) : Prop := CGm w true m_X12_writesTwo 2 NT NT [vR 68, vI a1] h K
def C_X12_isTold (w : Wd) (a1 : Int) (h : Hp) (K : Int → Hp → Prop) : Prop := CGm w true m_X12_isTold 2 NT NT [vR 68, vI a1] h K
def L_X12_isTold_71 (w : Wd) (h : Hp) (K : Int → Hp → Prop) : Prop := JG w true m_X12_isTold 2 NT NT 71 [] [] h K
def L_X12_isTold_79 (w : Wd) (v2 v3 v4 v5 : Int) (h : Hp) (K : Int → Hp → Prop) : Prop := JG w true m_X12_isTold 2 NT NT 79 [(0, vR 68), (2, vI v2), (3, vI v3), (4, vI v4), (5, vI v5)] [] h K
def L_X12_isTold_152 (w : Wd) (v3 v4 v5 : Int) (h : Hp) (K : Int → Hp → Prop) : Prop := JG w true m_X12_isTold 2 NT NT 152 [(0, vR 68), (3, vI v3), (4, vI v4), (5, vI v5)] [] h K
def L_X12_isTold_108 (w : Wd) (v2 v3 v4 v5 v6 : Int) (h : Hp) (K : Int → Hp → Prop) : Prop := JG w true m_X12_isTold 2 NT NT 108 [(0, vR 68), (2, vI v2), (3, vI v3), (4, vI v4), (5, vI v5), (6, vI v6)] [] h K
def C_X12_status (w : Wd) (a1 : Int) (h : Hp) (K : Int → Hp → Prop) : Prop := CGm w true m_X12_status 2 NT NT [vR 68, vI a1] h K
def C_X12_takes (w : Wd) (a1 : Int) (h : Hp) (K : Int → Hp → Prop) : Prop := CGm w true m_X12_takes 3 NT NT [vR 68, vR a1] h K
def C_X12_asksSign (w : Wd) (a1 : Int) (h : Hp) (K : Int → Hp → Prop) : Prop := CGm w true m_X12_asksSign 3 NT NT [vR 68, vI a1] h K
def C_X12_isOwnHere (w : Wd) (h : Hp) (K : Int → Hp → Prop) : Prop := CGm w true m_X12_isOwnHere 3 NT NT [vR 68] h K
def L_X12_isOwnHere_66 (w : Wd) (h : Hp) (K : Int → Hp → Prop) : Prop := JG w true m_X12_isOwnHere 3 NT NT 66 [(0, vR 68)] [] h K
def L_X12_isOwnHere_142 (w : Wd) (h : Hp) (K : Int → Hp → Prop) : Prop := JG w true m_X12_isOwnHere 3 NT NT 142 [(0, vR 68)] [] h K
def L_X12_isOwnHere_218 (w : Wd) (h : Hp) (K : Int → Hp → Prop) : Prop := JG w true m_X12_isOwnHere 3 NT NT 218 [(0, vR 68)] [] h K
def L_X12_isOwnHere_272 (w : Wd) (h : Hp) (K : Int → Hp → Prop) : Prop := JG w true m_X12_isOwnHere 3 NT NT 272 [] [] h K
def C_X12_dropsToMark (w : Wd) (h : Hp) (K : Int → Hp → Prop) : Prop := CGm w true m_X12_dropsToMark 3 NT NT [vR 68] h K
def L_X12_dropsToMark_0 (w : Wd) (h : Hp) (K : Int → Hp → Prop) : Prop := JG w true m_X12_dropsToMark 3 NT NT 0 [(0, vR 68)] [] h K
def C_X12_bank (w : Wd) (a1 a2 : Int) (h : Hp) (K : Int → Hp → Prop) : Prop := CGm w true m_X12_bank 3 NT NT [vR 68, vI a1, vI a2] h K
def C_X12_isIsland (w : Wd) (a1 : Int) (h : Hp) (K : Int → Hp → Prop) : Prop := CGm w true m_X12_isIsland 3 NT NT [vR 68, vI a1] h K
def C_X12_majorityIn (w : Wd) (a1 : Int) (h : Hp) (K : Int → Hp → Prop) : Prop := CGm w true m_X12_majorityIn 3 NT NT [vR 68, vI a1] h K
def L_X12_majorityIn_2 (w : Wd) (v1 v2 : Int) (h : Hp) (K : Int → Hp → Prop) : Prop := JG w true m_X12_majorityIn 3 NT NT 2 [(0, vR 68), (1, vI v1), (2, vI v2)] [] h K
def C_X12_lies (w : Wd) (a1 a2 : Int) (h : Hp) (K : Int → Hp → Prop) : Prop := CGm w true m_X12_lies 3 NT NT [vR 68, vI a1, vI a2] h K
def C_X12_share (w : Wd) (a1 a2 : Int) (h : Hp) (K : Int → Hp → Prop) : Prop := CGm w true m_X12_share 3 NT NT [vR 68, vI a1, vI a2] h K
def C_X12_tint (w : Wd) (a1 a2 : Int) (h : Hp) (K : Int → Hp → Prop) : Prop := CGm w true m_X12_tint 3 NT NT [vR 68, vI a1, vI a2] h K
def C_X12_flow (w : Wd) (a1 a2 : Int) (h : Hp) (K : Int → Hp → Prop) : Prop := CGm w true m_X12_flow 3 NT NT [vR 68, vI a1, vI a2] h K
def C_X12_told (w : Wd) (a1 a2 : Int) (h : Hp) (K : Int → Hp → Prop) : Prop := CGm w true m_X12_told 3 NT NT [vR 68, vI a1, vI a2] h K
def L_X12_told_14 (w : Wd) (v1 v2 v3 : Int) (h : Hp) (K : Int → Hp → Prop) : Prop := JG w true m_X12_told 3 NT NT 14 [(0, vR 68), (1, vI v1), (2, vI v2), (3, vI v3)] [] h K
def C_X12_settledAll (w : Wd) (h : Hp) (K : Int → Hp → Prop) : Prop := CGm w true m_X12_settledAll 3 NT NT [vR 68] h K
def L_X12_settledAll_4 (w : Wd) (v1 v2 : Int) (h : Hp) (K : Int → Hp → Prop) : Prop := JG w true m_X12_settledAll 3 NT NT 4 [(0, vR 68), (1, vI v1), (2, vI v2)] [] h K
def C_X12_mostSettled (w : Wd) (h : Hp) (K : Int → Hp → Prop) : Prop := CGm w true m_X12_mostSettled 3 NT NT [vR 68] h K
def L_X12_mostSettled_6 (w : Wd) (v1 v2 v3 : Int) (h : Hp) (K : Int → Hp → Prop) : Prop := JG w true m_X12_mostSettled 3 NT NT 6 [(0, vR 68), (1, vI v1), (2, vI v2), (3, vI v3)] [] h K
def C_X12_stone (w : Wd) (a1 a2 : Int) (h : Hp) (K : Int → Hp → Prop) : Prop := CGm w true m_X12_stone 3 NT NT [vR 68, vI a1, vI a2] h K
def C_X12_rake (w : Wd) (a1 a2 a3 a4 : Int) (h : Hp) (K : Int → Hp → Prop) : Prop := CGm w true m_X12_rake 3 NT NT [vR 68, vI a1, vI a2, vI a3, vI a4] h K
def L_X12_rake_46 (w : Wd) (h : Hp) (K : Int → Hp → Prop) : Prop := JG w true m_X12_rake 3 NT NT 46 [(0, vR 68)] [] h K
def C_X12_wouldLie (w : Wd) (a1 : Int) (h : Hp) (K : Int → Hp → Prop) : Prop := CGm w true m_X12_wouldLie 3 NT NT [vR 68, vI a1] h K
def C_X12_forged (w : Wd) (a1 : Int) (h : Hp) (K : Int → Hp → Prop) : Prop := CGm w true m_X12_forged 3 NT NT [vR 68, vI a1] h K
def L_X12_forged_35 (w : Wd) (v1 v3 v4 : Int) (h : Hp) (K : Int → Hp → Prop) : Prop := JG w true m_X12_forged 3 NT NT 35 [(0, vR 68), (1, vI v1), (3, vI v3), (4, vI v4)] [] h K
def C_X12_image (w : Wd) (h : Hp) (K : Int → Hp → Prop) : Prop := CGm w true m_X12_image 3 NT NT [vR 68] h K
def L_X12_image_17 (w : Wd) (v1 : Int) (h : Hp) (K : Int → Hp → Prop) : Prop := JG w true m_X12_image 3 NT NT 17 [(0, vR 68), (1, vI v1)] [] h K
def L_X12_image_71 (w : Wd) (v1 : Int) (h : Hp) (K : Int → Hp → Prop) : Prop := JG w true m_X12_image 3 NT NT 71 [(0, vR 68), (1, vI v1)] [] h K
def L_X12_image_39 (w : Wd) (v1 v2 : Int) (h : Hp) (K : Int → Hp → Prop) : Prop := JG w true m_X12_image 3 NT NT 39 [(0, vR 68), (1, vI v1), (2, vI v2)] [] h K
def C_X12_on (w : Wd) (h : Hp) (K : Int → Hp → Prop) : Prop := CGm w true m_X12_on 3 NT NT [vR 68] h K
def L_X12_on_62 (w : Wd) (v2 v3 v4 : Int) (h : Hp) (K : Int → Hp → Prop) : Prop := JG w true m_X12_on 3 NT NT 62 [(0, vR 68), (2, vI v2), (3, vI v3), (4, vI v4)] [] h K
def L_X12_on_149 (w : Wd) (v3 v4 : Int) (h : Hp) (K : Int → Hp → Prop) : Prop := JG w true m_X12_on 3 NT NT 149 [(0, vR 68), (3, vI v3), (4, vI v4)] [] h K
def L_X12_on_94 (w : Wd) (v2 v3 v4 v5 : Int) (h : Hp) (K : Int → Hp → Prop) : Prop := JG w true m_X12_on 3 NT NT 94 [(0, vR 68), (2, vI v2), (3, vI v3), (4, vI v4), (5, vI v5)] [] h K
def C_X12_asks (w : Wd) (a1 : Int) (h : Hp) (K : Int → Hp → Prop) : Prop := CGm w true m_X12_asks 4 NT NT [vR 68, vR a1] h K
def C_X12_name (w : Wd) (h : Hp) (K : Int → Hp → Prop) : Prop := CGm w true m_X12_name 4 NT NT [vR 68] h K
def L_X12_name_58 (w : Wd) (v1 : Int) (h : Hp) (K : Int → Hp → Prop) : Prop := JG w true m_X12_name 4 NT NT 58 [(0, vR 68), (1, vL v1)] [] h K
def C_X12_goesOn (w : Wd) (h : Hp) (K : Int → Hp → Prop) : Prop := CGm w true m_X12_goesOn 4 NT NT [vR 68] h K
def L_X12_goesOn_0 (w : Wd) (h : Hp) (K : Int → Hp → Prop) : Prop := JG w true m_X12_goesOn 4 NT NT 0 [(0, vR 68)] [] h K
def L_X12_goesOn_118 (w : Wd) (h : Hp) (K : Int → Hp → Prop) : Prop := JG w true m_X12_goesOn 4 NT NT 118 [(0, vR 68)] [] h K
def L_X12_goesOn_43 (w : Wd) (h : Hp) (K : Int → Hp → Prop) : Prop := JG w true m_X12_goesOn 4 NT NT 43 [(0, vR 68)] [] h K
def L_X12_goesOn_136 (w : Wd) (h : Hp) (K : Int → Hp → Prop) : Prop := JG w true m_X12_goesOn 4 NT NT 136 [(0, vR 68)] [] h K
def L_X12_goesOn_221 (w : Wd) (h : Hp) (K : Int → Hp → Prop) : Prop := JG w true m_X12_goesOn 4 NT NT 221 [(0, vR 68)] [] h K
def L_X12_goesOn_322 (w : Wd) (h : Hp) (K : Int → Hp → Prop) : Prop := JG w true m_X12_goesOn 4 NT NT 322 [(0, vR 68)] [] h K
def L_X12_goesOn_382 (w : Wd) (h : Hp) (K : Int → Hp → Prop) : Prop := JG w true m_X12_goesOn 4 NT NT 382 [] [] h K
def L_X12_goesOn_243 (w : Wd) (v1 : Int) (h : Hp) (K : Int → Hp → Prop) : Prop := JG w true m_X12_goesOn 4 NT NT 243 [(0, vR 68), (1, vI v1)] [] h K
def L_X12_goesOn_275 (w : Wd) (v1 : Int) (h : Hp) (K : Int → Hp → Prop) : Prop := JG w true m_X12_goesOn 4 NT NT 275 [(0, vR 68), (1, vI v1)] [] h K
def L_X12_goesOn_158 (w : Wd) (v1 : Int) (h : Hp) (K : Int → Hp → Prop) : Prop := JG w true m_X12_goesOn 4 NT NT 158 [(0, vR 68), (1, vI v1)] [] h K
def L_X12_goesOn_174 (w : Wd) (v1 : Int) (h : Hp) (K : Int → Hp → Prop) : Prop := JG w true m_X12_goesOn 4 NT NT 174 [(0, vR 68), (1, vI v1)] [] h K
def C_X12_areJoined (w : Wd) (a1 : Int) (h : Hp) (K : Int → Hp → Prop) : Prop := CGm w true m_X12_areJoined 4 NT NT [vR 68, vI a1] h K
def C_X12_isCut (w : Wd) (a1 a2 a3 : Int) (h : Hp) (K : Int → Hp → Prop) : Prop := CGm w true m_X12_isCut 4 NT NT [vR 68, vI a1, vI a2, vI a3] h K
def C_X12_settlesOf (w : Wd) (a1 a2 a3 : Int) (h : Hp) (K : Int → Hp → Prop) : Prop := CGm w true m_X12_settlesOf 4 NT NT [vR 68, vI a1, vI a2, vI a3] h K
def C_X12_shareThen (w : Wd) (a1 a2 : Int) (h : Hp) (K : Int → Hp → Prop) : Prop := CGm w true m_X12_shareThen 4 NT NT [vR 68, vI a1, vI a2] h K
def L_X12_shareThen_5 (w : Wd) (v1 v2 v3 v4 : Int) (h : Hp) (K : Int → Hp → Prop) : Prop := JG w true m_X12_shareThen 4 NT NT 5 [(0, vR 68), (1, vI v1), (2, vI v2), (3, vI v3), (4, vI v4)] [] h K
def C_X12_isAsFound (w : Wd) (h : Hp) (K : Int → Hp → Prop) : Prop := CGm w true m_X12_isAsFound 4 NT NT [vR 68] h K
def L_X12_isAsFound_2 (w : Wd) (v1 : Int) (h : Hp) (K : Int → Hp → Prop) : Prop := JG w true m_X12_isAsFound 4 NT NT 2 [(0, vR 68), (1, vI v1)] [] h K
def C_X12_slopeTold (w : Wd) (h : Hp) (K : Int → Hp → Prop) : Prop := CGm w true m_X12_slopeTold 5 NT NT [vR 68] h K
def C_X12_newName (w : Wd) (h : Hp) (K : Int → Hp → Prop) : Prop := CGm w true m_X12_newName 5 NT NT [vR 68] h K
def L_X12_newName_7 (w : Wd) (v1 v3 : Int) (h : Hp) (K : Int → Hp → Prop) : Prop := JG w true m_X12_newName 5 NT NT 7 [(0, vR 68), (1, vL v1), (3, vI v3)] [] h K
def C_X12_oneOf (w : Wd) (a1 : Int) (h : Hp) (K : Int → Hp → Prop) : Prop := CGm w true m_X12_oneOf 5 NT NT [vR 68, vI a1] h K
def C_X12_onePart (w : Wd) (h : Hp) (K : Int → Hp → Prop) : Prop := CGm w true m_X12_onePart 5 NT NT [vR 68] h K
def L_X12_onePart_2 (w : Wd) (v1 : Int) (h : Hp) (K : Int → Hp → Prop) : Prop := JG w true m_X12_onePart 5 NT NT 2 [(0, vR 68), (1, vI v1)] [] h K
def L_X12_onePart_146 (w : Wd) (h : Hp) (K : Int → Hp → Prop) : Prop := JG w true m_X12_onePart 5 NT NT 146 [(0, vR 68)] [] h K
def L_X12_onePart_69 (w : Wd) (v1 : Int) (h : Hp) (K : Int → Hp → Prop) : Prop := JG w true m_X12_onePart 5 NT NT 69 [(0, vR 68), (1, vI v1)] [] h K
def L_X12_onePart_143 (w : Wd) (v1 : Int) (h : Hp) (K : Int → Hp → Prop) : Prop := JG w true m_X12_onePart 5 NT NT 143 [(0, vR 68), (1, vI v1)] [] h K
def L_X12_onePart_90 (w : Wd) (v1 v3 : Int) (h : Hp) (K : Int → Hp → Prop) : Prop := JG w true m_X12_onePart 5 NT NT 90 [(0, vR 68), (1, vI v1), (3, vI v3)] [] h K
def L_X12_onePart_132 (w : Wd) (v1 : Int) (h : Hp) (K : Int → Hp → Prop) : Prop := JG w true m_X12_onePart 5 NT NT 132 [(0, vR 68), (1, vI v1)] [] h K
def C_X12_endOf (w : Wd) (a1 a2 : Int) (h : Hp) (K : Int → Hp → Prop) : Prop := CGm w true m_X12_endOf 5 NT NT [vR 68, vI a1, vI a2] h K
def L_X12_endOf_12 (w : Wd) (v2 v3 : Int) (h : Hp) (K : Int → Hp → Prop) : Prop := JG w true m_X12_endOf 5 NT NT 12 [(0, vR 68), (2, vI v2), (3, vI v3)] [] h K
def C_X12_floods (w : Wd) (a1 : Int) (h : Hp) (K : Int → Hp → Prop) : Prop := CGm w true m_X12_floods 5 NT NT [vR 68, vI a1] h K
def L_X12_floods_2 (w : Wd) (v1 v2 : Int) (h : Hp) (K : Int → Hp → Prop) : Prop := JG w true m_X12_floods 5 NT NT 2 [(0, vR 68), (1, vI v1), (2, vI v2)] [] h K
def L_X12_floods_52 (w : Wd) (v1 v2 : Int) (h : Hp) (K : Int → Hp → Prop) : Prop := JG w true m_X12_floods 5 NT NT 52 [(0, vR 68), (1, vI v1), (2, vI v2)] [] h K
def L_X12_floods_80 (w : Wd) (v1 v2 : Int) (h : Hp) (K : Int → Hp → Prop) : Prop := JG w true m_X12_floods 5 NT NT 80 [(0, vR 68), (1, vI v1), (2, vI v2)] [] h K
def L_X12_floods_189 (w : Wd) (v2 : Int) (h : Hp) (K : Int → Hp → Prop) : Prop := JG w true m_X12_floods 5 NT NT 189 [(0, vR 68), (2, vI v2)] [] h K
def L_X12_floods_94 (w : Wd) (v1 v2 v3 : Int) (h : Hp) (K : Int → Hp → Prop) : Prop := JG w true m_X12_floods 5 NT NT 94 [(0, vR 68), (1, vI v1), (2, vI v2), (3, vI v3)] [] h K
def L_X12_floods_117 (w : Wd) (v1 v2 v3 : Int) (h : Hp) (K : Int → Hp → Prop) : Prop := JG w true m_X12_floods 5 NT NT 117 [(0, vR 68), (1, vI v1), (2, vI v2), (3, vI v3)] [] h K
def C_X12_newNamed (w : Wd) (a1 a2 a3 : Int) (h : Hp) (K : Int → Hp → Prop) : Prop := CGm w true m_X12_newNamed 6 NT NT [vR 68, vI a1, vI a2, vI a3] h K
def C_X12_bankTold (w : Wd) (a1 : Int) (h : Hp) (K : Int → Hp → Prop) : Prop := CGm w true m_X12_bankTold 6 NT NT [vR 68, vI a1] h K
def C_X12_sumsTold (w : Wd) (h : Hp) (K : Int → Hp → Prop) : Prop := CGm w true m_X12_sumsTold 6 NT NT [vR 68] h K
def L_X12_sumsTold_15 (w : Wd) (v1 v2 : Int) (h : Hp) (K : Int → Hp → Prop) : Prop := JG w true m_X12_sumsTold 6 NT NT 15 [(0, vR 68), (1, vI v1), (2, vI v2)] [] h K
def L_X12_sumsTold_53 (w : Wd) (v1 : Int) (h : Hp) (K : Int → Hp → Prop) : Prop := JG w true m_X12_sumsTold 6 NT NT 53 [(0, vR 68), (1, vI v1)] [] h K
def C_X12_voteOf (w : Wd) (a1 : Int) (h : Hp) (K : Int → Hp → Prop) : Prop := CGm w true m_X12_voteOf 6 NT NT [vR 68, vI a1] h K
def L_X12_voteOf_17 (w : Wd) (v1 v2 v3 v4 : Int) (h : Hp) (K : Int → Hp → Prop) : Prop := JG w true m_X12_voteOf 6 NT NT 17 [(0, vR 68), (1, vI v1), (2, vI v2), (3, vI v3), (4, vI v4)] [] h K
def L_X12_voteOf_37 (w : Wd) (v1 v2 v3 v4 v5 v6 : Int) (h : Hp) (K : Int → Hp → Prop) : Prop := JG w true m_X12_voteOf 6 NT NT 37 [(0, vR 68), (1, vI v1), (2, vI v2), (3, vI v3), (4, vI v4), (5, vI v5), (6, vI v6)] [] h K
def C_X12_wouldBe (w : Wd) (a1 : Int) (h : Hp) (K : Int → Hp → Prop) : Prop := CGm w true m_X12_wouldBe 6 NT NT [vR 68, vI a1] h K
def C_X12_seeksStones (w : Wd) (a1 a2 a3 a4 a5 : Int) (h : Hp) (K : Int → Hp → Prop) : Prop := CGm w true m_X12_seeksStones 6 NT NT [vR 68, vI a1, vI a2, vI a3, vI a4, vI a5] h K
def L_X12_seeksStones_6 (w : Wd) (v1 v2 v3 v4 v5 v6 v7 : Int) (h : Hp) (K : Int → Hp → Prop) : Prop := JG w true m_X12_seeksStones 6 NT NT 6 [(0, vR 68), (1, vI v1), (2, vI v2), (3, vI v3), (4, vI v4), (5, vI v5), (6, vI v6), (7, vI v7)] [] h K
def L_X12_seeksStones_35 (w : Wd) (v1 v2 v3 v4 v5 v6 v7 : Int) (h : Hp) (K : Int → Hp → Prop) : Prop := JG w true m_X12_seeksStones 6 NT NT 35 [(0, vR 68), (1, vI v1), (2, vI v2), (3, vI v3), (4, vI v4), (5, vI v5), (6, vI v6), (7, vI v7)] [] h K
def L_X12_seeksStones_113 (w : Wd) (v1 v2 v3 v4 v5 v6 v7 v9 : Int) (h : Hp) (K : Int → Hp → Prop) : Prop := JG w true m_X12_seeksStones 6 NT NT 113 [(0, vR 68), (1, vI v1), (2, vI v2), (3, vI v3), (4, vI v4), (5, vI v5), (6, vI v6), (7, vI v7), (9, vI v9)] [] h K
def C_X12_sumIsTold (w : Wd) (a1 a2 : Int) (h : Hp) (K : Int → Hp → Prop) : Prop := CGm w true m_X12_sumIsTold 7 NT NT [vR 68, vI a1, vI a2] h K
def C_X12_reach (w : Wd) (a1 a2 : Int) (h : Hp) (K : Int → Hp → Prop) : Prop := CGm w true m_X12_reach 7 NT NT [vR 68, vI a1, vI a2] h K
def C_X12_cuts (w : Wd) (a1 a2 : Int) (h : Hp) (K : Int → Hp → Prop) : Prop := CGm w true m_X12_cuts 7 NT NT [vR 68, vI a1, vI a2] h K
def C_X12_settles (w : Wd) (a1 a2 a3 : Int) (h : Hp) (K : Int → Hp → Prop) : Prop := CGm w true m_X12_settles 7 NT NT [vR 68, vI a1, vI a2, vI a3] h K
def C_X12_carries (w : Wd) (a1 a2 a3 : Int) (h : Hp) (K : Int → Hp → Prop) : Prop := CGm w true m_X12_carries 7 NT NT [vR 68, vI a1, vI a2, vI a3] h K
def C_X12_would (w : Wd) (a1 a2 : Int) (h : Hp) (K : Int → Hp → Prop) : Prop := CGm w true m_X12_would 7 NT NT [vR 68, vI a1, vI a2] h K
def C_X12_yearGoes (w : Wd) (a1 : Int) (h : Hp) (K : Int → Hp → Prop) : Prop := CGm w true m_X12_yearGoes 7 NT NT [vR 68, vI a1] h K
def L_X12_yearGoes_7 (w : Wd) (v2 : Int) (h : Hp) (K : Int → Hp → Prop) : Prop := JG w true m_X12_yearGoes 7 NT NT 7 [(0, vR 68), (2, vI v2)] [] h K
def L_X12_yearGoes_54 (w : Wd) (v2 : Int) (h : Hp) (K : Int → Hp → Prop) : Prop := JG w true m_X12_yearGoes 7 NT NT 54 [(0, vR 68), (2, vI v2)] [] h K
def C_X12_mine (w : Wd) (a1 a2 a3 a4 a5 : Int) (h : Hp) (K : Int → Hp → Prop) : Prop := CGm w true m_X12_mine 7 NT NT [vR 68, vI a1, vI a2, vI a3, vI a4, vI a5] h K
def C_X12_keep (w : Wd) (a1 a2 a3 a4 : Int) (h : Hp) (K : Int → Hp → Prop) : Prop := CGm w true m_X12_keep 7 NT NT [vR 68, vI a1, vI a2, vI a3, vI a4] h K
def C_X12_levels (w : Wd) (h : Hp) (K : Int → Hp → Prop) : Prop := CGm w true m_X12_levels 7 NT NT [vR 68] h K
def L_X12_levels_13 (w : Wd) (v1 v2 : Int) (h : Hp) (K : Int → Hp → Prop) : Prop := JG w true m_X12_levels 7 NT NT 13 [(0, vR 68), (1, vI v1), (2, vI v2)] [] h K
def C_X12_statementTold (w : Wd) (h : Hp) (K : Int → Hp → Prop) : Prop := CGm w true m_X12_statementTold 8 NT NT [vR 68] h K
def L_X12_statementTold_215 (w : Wd) (h : Hp) (K : Int → Hp → Prop) : Prop := JG w true m_X12_statementTold 8 NT NT 215 [(0, vR 68)] [] h K
def C_X12_flood (w : Wd) (a1 : Int) (h : Hp) (K : Int → Hp → Prop) : Prop := CGm w true m_X12_flood 8 NT NT [vR 68, vI a1] h K
def C_X12_years (w : Wd) (a1 : Int) (h : Hp) (K : Int → Hp → Prop) : Prop := CGm w true m_X12_years 8 NT NT [vR 68, vI a1] h K
def L_X12_years_53 (w : Wd) (v1 v2 v3 : Int) (h : Hp) (K : Int → Hp → Prop) : Prop := JG w true m_X12_years 8 NT NT 53 [(0, vR 68), (1, vI v1), (2, vI v2), (3, vI v3)] [] h K
def C_X12_until (w : Wd) (a1 a2 a3 : Int) (h : Hp) (K : Int → Hp → Prop) : Prop := CGm w true m_X12_until 8 NT NT [vR 68, vI a1, vI a2, vI a3] h K
def L_X12_until_23 (w : Wd) (h : Hp) (K : Int → Hp → Prop) : Prop := JG w true m_X12_until 8 NT NT 23 [] [] h K
def L_X12_until_28 (w : Wd) (v1 v2 v3 v4 : Int) (h : Hp) (K : Int → Hp → Prop) : Prop := JG w true m_X12_until 8 NT NT 28 [(0, vR 68), (1, vI v1), (2, vI v2), (3, vI v3), (4, vI v4)] [] h K
def L_X12_until_58 (w : Wd) (v1 v2 v3 v4 : Int) (h : Hp) (K : Int → Hp → Prop) : Prop := JG w true m_X12_until 8 NT NT 58 [(0, vR 68), (1, vI v1), (2, vI v2), (3, vI v3), (4, vI v4)] [] h K
def L_X12_until_107 (w : Wd) (v1 v2 v4 : Int) (h : Hp) (K : Int → Hp → Prop) : Prop := JG w true m_X12_until 8 NT NT 107 [(0, vR 68), (1, vI v1), (2, vI v2), (4, vI v4)] [] h K
def L_X12_until_126 (w : Wd) (v4 v5 v6 : Int) (h : Hp) (K : Int → Hp → Prop) : Prop := JG w true m_X12_until 8 NT NT 126 [(0, vR 68), (4, vI v4), (5, vI v5), (6, vI v6)] [] h K
def C_X12_river (w : Wd) (h : Hp) (K : Int → Hp → Prop) : Prop := CGm w true m_X12_river 9 NT NT [vR 68] h K
def L_X12_river_40 (w : Wd) (v1 : Int) (h : Hp) (K : Int → Hp → Prop) : Prop := JG w true m_X12_river 9 NT NT 40 [(0, vR 68), (1, vI v1)] [] h K
def L_X12_river_60 (w : Wd) (v1 : Int) (h : Hp) (K : Int → Hp → Prop) : Prop := JG w true m_X12_river 9 NT NT 60 [(0, vR 68), (1, vI v1)] [] h K
def L_X12_river_146 (w : Wd) (h : Hp) (K : Int → Hp → Prop) : Prop := JG w true m_X12_river 9 NT NT 146 [(0, vR 68)] [] h K
theorem c_X12_feed {w : Wd} {a1 a2 a3 a4 a5 : Int} {h : Hp} {K : Int → Hp → Prop} (T : (inR ((h 68 1) + 20)) ∧ (((((h 68 1) + 20) ≤ 1600) → (L_X12_feed_28 w a1 a2 a3 a4 a5 0 h K)) ∧ (¬ (((h 68 1) + 20) ≤ 1600) → (∀ h2 : Hp, h2 = hu h 70 0 ((h 70 0) + 1) → K (-1) h2)))) : C_X12_feed w a1 a2 a3 a4 a5 h K := by
  refine CGm_of2 (by decide) (by decide) trivial (Nat.le_of_ble_eq_true rfl) ?_
  refine J_aload_n 1 rfl 0 0 rfl ⟨by decide, by decide⟩ (D_X12_feed_0.at 0 rfl) ?_
  refine J_getI (z := (h 68 1)) 4 rfl fl_12_224 rfl ob_68 (Ob.lt ob_68) (D_X12_feed_0.at 1 rfl) rfl ?_
  refine J_bipush 6 rfl ⟨by decide, by decide⟩ (D_X12_feed_0.at 2 rfl) ?_
  refine J_iadd 7 rfl (D_X12_feed_0.at 3 rfl) ?_
  refine J_sipush 10 rfl ⟨by decide, by decide⟩ (D_X12_feed_0.at 4 rfl) ?_
  obtain ⟨s1, T⟩ := T
  refine J_icmp_le 13 rfl 25 s1 ⟨by decide, by decide⟩ (D_X12_feed_0.at 5 rfl) (by decide) (fun c4 => ?_) (fun c4 => ?_)
  · replace T := T.1 c4
    refine J_iconst 26 rfl (D_X12_feed_0.at 16 rfl) ?_
    refine J_istore (lv' := [(6, vI 0), (0, vR 68), (1, vI a1), (2, vI a2), (3, vI a3), (4, vI a4), (5, vI a5)]) 28 rfl 6 (by decide) rfl (D_X12_feed_0.at 17 rfl) ?_
    exact J_sub (lv' := [(0, vR 68), (1, vI a1), (2, vI a2), (3, vI a3), (4, vI a4), (5, vI a5), (6, vI 0)]) [1, 2, 3, 4, 5, 6, 0] rfl T
  replace T := T.2 c4
  refine J_aload_n 14 rfl 0 0 rfl ⟨by decide, by decide⟩ (D_X12_feed_0.at 6 rfl) ?_
  refine J_getF (ov := 70) (dd := 1002) 17 rfl fl_12_17 rfl (by decide) rfl ob_68 (Ob.lt ob_68) (D_X12_feed_0.at 7 rfl) ?_
  refine J_iconst 18 rfl (D_X12_feed_0.at 8 rfl) ?_
  refine J_dup2 19 rfl rfl rfl (D_X12_feed_0.at 9 rfl) ?_
  refine J_iald 20 rfl ar_70 (Ar.lt ar_70) ⟨by decide, by decide⟩ (D_X12_feed_0.at 10 rfl) ?_
  refine J_iconst 21 rfl (D_X12_feed_0.at 11 rfl) ?_
  refine J_iadd 22 rfl (D_X12_feed_0.at 12 rfl) ?_
  refine J_iastH 23 rfl ar_70 (Ar.lt ar_70) ⟨by decide, by decide⟩ trivial (D_X12_feed_0.at 13 rfl) (fun h2 e3 => ?_)
  replace T := T h2 e3
  refine J_iconst 24 rfl (D_X12_feed_0.at 14 rfl) ?_
  exact J_iret rfl (D_X12_feed_0.at 15 rfl) T
theorem l_X12_feed_28 {w : Wd} {v1 v2 v3 v4 v5 v6 : Int} {h : Hp} {K : Int → Hp → Prop} (T : (inR v6) ∧ (((v6 ≥ 20) → (K (h 68 1) h)) ∧ (¬ (v6 ≥ 20) → ((inR v6) ∧ (((v6 ≥ 4) → ((inR v6) ∧ (((v6 ≥ 8) → ((inR v6) ∧ (((v6 ≥ 12) → ((inR v6) ∧ (((v6 ≥ 16) → ((0 ≤ v6 ∧ v6 < 2147483648) ∧ ((inR v5) ∧ ((0 ≤ (8 * (3 - (v6 % 4))) ∧ (8 * (3 - (v6 % 4))) < 32) ∧ ((0 ≤ (h 68 1) ∧ (h 68 1) < 1600) ∧ (∀ h14 : Hp, h14 = hu h 69 (h 68 1) ((v5 / 2 ^ (Int.toNat (8 * (3 - (v6 % 4))))) % 256) → ∀ h16 : Hp, h16 = hu h14 68 1 ((h14 68 1) + 1) → L_X12_feed_28 w v1 v2 v3 v4 v5 (v6 + 1) h16 K)))))) ∧ (¬ (v6 ≥ 16) → ((0 ≤ v6 ∧ v6 < 2147483648) ∧ ((inR v4) ∧ ((0 ≤ (8 * (3 - (v6 % 4))) ∧ (8 * (3 - (v6 % 4))) < 32) ∧ ((0 ≤ (h 68 1) ∧ (h 68 1) < 1600) ∧ (∀ h22 : Hp, h22 = hu h 69 (h 68 1) ((v4 / 2 ^ (Int.toNat (8 * (3 - (v6 % 4))))) % 256) → ∀ h24 : Hp, h24 = hu h22 68 1 ((h22 68 1) + 1) → L_X12_feed_28 w v1 v2 v3 v4 v5 (v6 + 1) h24 K))))))))) ∧ (¬ (v6 ≥ 12) → ((0 ≤ v6 ∧ v6 < 2147483648) ∧ ((inR v3) ∧ ((0 ≤ (8 * (3 - (v6 % 4))) ∧ (8 * (3 - (v6 % 4))) < 32) ∧ ((0 ≤ (h 68 1) ∧ (h 68 1) < 1600) ∧ (∀ h31 : Hp, h31 = hu h 69 (h 68 1) ((v3 / 2 ^ (Int.toNat (8 * (3 - (v6 % 4))))) % 256) → ∀ h33 : Hp, h33 = hu h31 68 1 ((h31 68 1) + 1) → L_X12_feed_28 w v1 v2 v3 v4 v5 (v6 + 1) h33 K))))))))) ∧ (¬ (v6 ≥ 8) → ((0 ≤ v6 ∧ v6 < 2147483648) ∧ ((inR v2) ∧ ((0 ≤ (8 * (3 - (v6 % 4))) ∧ (8 * (3 - (v6 % 4))) < 32) ∧ ((0 ≤ (h 68 1) ∧ (h 68 1) < 1600) ∧ (∀ h40 : Hp, h40 = hu h 69 (h 68 1) ((v2 / 2 ^ (Int.toNat (8 * (3 - (v6 % 4))))) % 256) → ∀ h42 : Hp, h42 = hu h40 68 1 ((h40 68 1) + 1) → L_X12_feed_28 w v1 v2 v3 v4 v5 (v6 + 1) h42 K))))))))) ∧ (¬ (v6 ≥ 4) → ((0 ≤ v6 ∧ v6 < 2147483648) ∧ ((inR v1) ∧ ((0 ≤ (8 * (3 - (v6 % 4))) ∧ (8 * (3 - (v6 % 4))) < 32) ∧ ((0 ≤ (h 68 1) ∧ (h 68 1) < 1600) ∧ (∀ h49 : Hp, h49 = hu h 69 (h 68 1) ((v1 / 2 ^ (Int.toNat (8 * (3 - (v6 % 4))))) % 256) → ∀ h51 : Hp, h51 = hu h49 68 1 ((h49 68 1) + 1) → L_X12_feed_28 w v1 v2 v3 v4 v5 (v6 + 1) h51 K))))))))))) : L_X12_feed_28 w v1 v2 v3 v4 v5 v6 h K := by
  unfold L_X12_feed_28
  refine J_iload 30 rfl 6 6 rfl (D_X12_feed_0.at 18 rfl) ?_
  refine J_bipush 32 rfl ⟨by decide, by decide⟩ (D_X12_feed_0.at 19 rfl) ?_
  obtain ⟨s5, T⟩ := T
  refine J_icmp_ge 35 rfl 124 s5 ⟨by decide, by decide⟩ (D_X12_feed_0.at 20 rfl) (by decide) (fun c54 => ?_) (fun c54 => ?_)
  · replace T := T.1 c54
    refine J_aload_n 125 rfl 0 0 rfl ⟨by decide, by decide⟩ (D_X12_feed_1.at 19 rfl) ?_
    refine J_getI (z := (h 68 1)) 128 rfl fl_12_224 rfl ob_68 (Ob.lt ob_68) (D_X12_feed_1.at 20 rfl) rfl ?_
    exact J_iret rfl (D_X12_feed_1.at 21 rfl) T
  replace T := T.2 c54
  refine J_iload 37 rfl 6 6 rfl (D_X12_feed_0.at 21 rfl) ?_
  refine J_iconst 38 rfl (D_X12_feed_0.at 22 rfl) ?_
  obtain ⟨s6, T⟩ := T
  refine J_icmp_ge 41 rfl 45 s6 ⟨by decide, by decide⟩ (D_X12_feed_0.at 23 rfl) (by decide) (fun c53 => ?_) (fun c53 => ?_)
  · replace T := T.1 c53
    refine J_iload 47 rfl 6 6 rfl (D_X12_feed_0.at 26 rfl) ?_
    refine J_bipush 49 rfl ⟨by decide, by decide⟩ (D_X12_feed_0.at 27 rfl) ?_
    obtain ⟨s7, T⟩ := T
    refine J_icmp_ge 52 rfl 56 s7 ⟨by decide, by decide⟩ (D_X12_feed_0.at 28 rfl) (by decide) (fun c44 => ?_) (fun c44 => ?_)
    · replace T := T.1 c44
      refine J_iload 58 rfl 6 6 rfl (D_X12_feed_0.at 31 rfl) ?_
      refine J_bipush 60 rfl ⟨by decide, by decide⟩ (D_X12_feed_0.at 32 rfl) ?_
      obtain ⟨s8, T⟩ := T
      refine J_icmp_ge 63 rfl 67 s8 ⟨by decide, by decide⟩ (D_X12_feed_0.at 33 rfl) (by decide) (fun c35 => ?_) (fun c35 => ?_)
      · replace T := T.1 c35
        refine J_iload 69 rfl 6 6 rfl (D_X12_feed_0.at 36 rfl) ?_
        refine J_bipush 71 rfl ⟨by decide, by decide⟩ (D_X12_feed_0.at 37 rfl) ?_
        obtain ⟨s9, T⟩ := T
        refine J_icmp_ge 74 rfl 79 s9 ⟨by decide, by decide⟩ (D_X12_feed_0.at 38 rfl) (by decide) (fun c26 => ?_) (fun c26 => ?_)
        · replace T := T.1 c26
          refine J_iload 81 rfl 5 5 rfl (D_X12_feed_0.at 41 rfl) ?_
          refine J_istore (lv' := [(7, vI v5), (0, vR 68), (1, vI v1), (2, vI v2), (3, vI v3), (4, vI v4), (5, vI v5), (6, vI v6)]) 83 rfl 7 (by decide) rfl (D_X12_feed_0.at 42 rfl) ?_
          refine J_aload_n 84 rfl 0 1 rfl ⟨by decide, by decide⟩ (D_X12_feed_0.at 43 rfl) ?_
          refine J_getF (ov := 69) (dd := 1001) 87 rfl fl_12_7 rfl (by decide) rfl ob_68 (Ob.lt ob_68) (D_X12_feed_0.at 44 rfl) ?_
          refine J_aload_n 88 rfl 0 1 rfl ⟨by decide, by decide⟩ (D_X12_feed_0.at 45 rfl) ?_
          refine J_getI (z := (h 68 1)) 91 rfl fl_12_224 rfl ob_68 (Ob.lt ob_68) (D_X12_feed_0.at 46 rfl) rfl ?_
          refine J_iload 93 rfl 7 0 rfl (D_X12_feed_0.at 47 rfl) ?_
          refine J_bipush 95 rfl ⟨by decide, by decide⟩ (D_X12_feed_1.at 0 rfl) ?_
          refine J_iconst 96 rfl (D_X12_feed_1.at 1 rfl) ?_
          refine J_iload 98 rfl 6 7 rfl (D_X12_feed_1.at 2 rfl) ?_
          refine J_iconst 99 rfl (D_X12_feed_1.at 3 rfl) ?_
          obtain ⟨s10, T⟩ := T
          refine J_irem 100 rfl s10 ⟨by decide, by decide⟩ (D_X12_feed_1.at 4 rfl) ?_
          refine J_isub 101 rfl (D_X12_feed_1.at 5 rfl) ?_
          refine J_imul 102 rfl (D_X12_feed_1.at 6 rfl) ?_
          obtain ⟨s11, T⟩ := T
          obtain ⟨s12, T⟩ := T
          refine J_ishrE (v := (v5 / 2 ^ (Int.toNat (8 * (3 - (v6 % 4)))))) 103 rfl s11 s12 rfl (D_X12_feed_1.at 7 rfl) ?_
          refine J_sipush 106 rfl ⟨by decide, by decide⟩ (D_X12_feed_1.at 8 rfl) ?_
          refine J_maskE (mm := 256) 107 rfl 8 (by decide) rfl rfl (D_X12_feed_1.at 9 rfl) ?_
          obtain ⟨s13, T⟩ := T
          refine J_iastH 108 rfl ar_69 (Ar.lt ar_69) s13 trivial (D_X12_feed_1.at 10 rfl) (fun h14 e15 => ?_)
          replace T := T h14 e15
          refine J_aload_n 109 rfl 0 1 rfl ⟨by decide, by decide⟩ (D_X12_feed_1.at 11 rfl) ?_
          refine J_dup 110 rfl rfl (D_X12_feed_1.at 12 rfl) ?_
          refine J_getI (z := (h14 68 1)) 113 rfl fl_12_224 rfl ob_68 (Ob.lt ob_68) (D_X12_feed_1.at 13 rfl) rfl ?_
          refine J_iconst 114 rfl (D_X12_feed_1.at 14 rfl) ?_
          refine J_iadd 115 rfl (D_X12_feed_1.at 15 rfl) ?_
          refine J_putI 118 rfl fl_12_224 rfl rfl ob_68 (Ob.lt ob_68) (D_X12_feed_1.at 16 rfl) (fun h16 e17 => ?_)
          replace T := T h16 e17
          refine J_iinc (v := (v6 + 1)) (lv' := [(6, vI (v6 + 1)), (7, vI v5), (0, vR 68), (1, vI v1), (2, vI v2), (3, vI v3), (4, vI v4), (5, vI v5)]) 121 rfl 6 7 1 rfl rfl (by decide) rfl (D_X12_feed_1.at 17 rfl) ?_
          refine J_goto 28 (D_X12_feed_1.at 18 rfl) (by decide) ?_
          exact J_sub (lv' := [(0, vR 68), (1, vI v1), (2, vI v2), (3, vI v3), (4, vI v4), (5, vI v5), (6, vI (v6 + 1))]) [2, 3, 4, 5, 6, 7, 0] rfl T
        replace T := T.2 c26
        refine J_iload 76 rfl 4 4 rfl (D_X12_feed_0.at 39 rfl) ?_
        refine J_goto 81 (D_X12_feed_0.at 40 rfl) (by decide) ?_
        refine J_istore (lv' := [(7, vI v4), (0, vR 68), (1, vI v1), (2, vI v2), (3, vI v3), (4, vI v4), (5, vI v5), (6, vI v6)]) 83 rfl 7 (by decide) rfl (D_X12_feed_0.at 42 rfl) ?_
        refine J_aload_n 84 rfl 0 1 rfl ⟨by decide, by decide⟩ (D_X12_feed_0.at 43 rfl) ?_
        refine J_getF (ov := 69) (dd := 1001) 87 rfl fl_12_7 rfl (by decide) rfl ob_68 (Ob.lt ob_68) (D_X12_feed_0.at 44 rfl) ?_
        refine J_aload_n 88 rfl 0 1 rfl ⟨by decide, by decide⟩ (D_X12_feed_0.at 45 rfl) ?_
        refine J_getI (z := (h 68 1)) 91 rfl fl_12_224 rfl ob_68 (Ob.lt ob_68) (D_X12_feed_0.at 46 rfl) rfl ?_
        refine J_iload 93 rfl 7 0 rfl (D_X12_feed_0.at 47 rfl) ?_
        refine J_bipush 95 rfl ⟨by decide, by decide⟩ (D_X12_feed_1.at 0 rfl) ?_
        refine J_iconst 96 rfl (D_X12_feed_1.at 1 rfl) ?_
        refine J_iload 98 rfl 6 7 rfl (D_X12_feed_1.at 2 rfl) ?_
        refine J_iconst 99 rfl (D_X12_feed_1.at 3 rfl) ?_
        obtain ⟨s18, T⟩ := T
        refine J_irem 100 rfl s18 ⟨by decide, by decide⟩ (D_X12_feed_1.at 4 rfl) ?_
        refine J_isub 101 rfl (D_X12_feed_1.at 5 rfl) ?_
        refine J_imul 102 rfl (D_X12_feed_1.at 6 rfl) ?_
        obtain ⟨s19, T⟩ := T
        obtain ⟨s20, T⟩ := T
        refine J_ishrE (v := (v4 / 2 ^ (Int.toNat (8 * (3 - (v6 % 4)))))) 103 rfl s19 s20 rfl (D_X12_feed_1.at 7 rfl) ?_
        refine J_sipush 106 rfl ⟨by decide, by decide⟩ (D_X12_feed_1.at 8 rfl) ?_
        refine J_maskE (mm := 256) 107 rfl 8 (by decide) rfl rfl (D_X12_feed_1.at 9 rfl) ?_
        obtain ⟨s21, T⟩ := T
        refine J_iastH 108 rfl ar_69 (Ar.lt ar_69) s21 trivial (D_X12_feed_1.at 10 rfl) (fun h22 e23 => ?_)
        replace T := T h22 e23
        refine J_aload_n 109 rfl 0 1 rfl ⟨by decide, by decide⟩ (D_X12_feed_1.at 11 rfl) ?_
        refine J_dup 110 rfl rfl (D_X12_feed_1.at 12 rfl) ?_
        refine J_getI (z := (h22 68 1)) 113 rfl fl_12_224 rfl ob_68 (Ob.lt ob_68) (D_X12_feed_1.at 13 rfl) rfl ?_
        refine J_iconst 114 rfl (D_X12_feed_1.at 14 rfl) ?_
        refine J_iadd 115 rfl (D_X12_feed_1.at 15 rfl) ?_
        refine J_putI 118 rfl fl_12_224 rfl rfl ob_68 (Ob.lt ob_68) (D_X12_feed_1.at 16 rfl) (fun h24 e25 => ?_)
        replace T := T h24 e25
        refine J_iinc (v := (v6 + 1)) (lv' := [(6, vI (v6 + 1)), (7, vI v4), (0, vR 68), (1, vI v1), (2, vI v2), (3, vI v3), (4, vI v4), (5, vI v5)]) 121 rfl 6 7 1 rfl rfl (by decide) rfl (D_X12_feed_1.at 17 rfl) ?_
        refine J_goto 28 (D_X12_feed_1.at 18 rfl) (by decide) ?_
        exact J_sub (lv' := [(0, vR 68), (1, vI v1), (2, vI v2), (3, vI v3), (4, vI v4), (5, vI v5), (6, vI (v6 + 1))]) [2, 3, 4, 5, 6, 7, 0] rfl T
      replace T := T.2 c35
      refine J_iload_n 64 rfl 3 3 rfl (D_X12_feed_0.at 34 rfl) ?_
      refine J_goto 81 (D_X12_feed_0.at 35 rfl) (by decide) ?_
      refine J_istore (lv' := [(7, vI v3), (0, vR 68), (1, vI v1), (2, vI v2), (3, vI v3), (4, vI v4), (5, vI v5), (6, vI v6)]) 83 rfl 7 (by decide) rfl (D_X12_feed_0.at 42 rfl) ?_
      refine J_aload_n 84 rfl 0 1 rfl ⟨by decide, by decide⟩ (D_X12_feed_0.at 43 rfl) ?_
      refine J_getF (ov := 69) (dd := 1001) 87 rfl fl_12_7 rfl (by decide) rfl ob_68 (Ob.lt ob_68) (D_X12_feed_0.at 44 rfl) ?_
      refine J_aload_n 88 rfl 0 1 rfl ⟨by decide, by decide⟩ (D_X12_feed_0.at 45 rfl) ?_
      refine J_getI (z := (h 68 1)) 91 rfl fl_12_224 rfl ob_68 (Ob.lt ob_68) (D_X12_feed_0.at 46 rfl) rfl ?_
      refine J_iload 93 rfl 7 0 rfl (D_X12_feed_0.at 47 rfl) ?_
      refine J_bipush 95 rfl ⟨by decide, by decide⟩ (D_X12_feed_1.at 0 rfl) ?_
      refine J_iconst 96 rfl (D_X12_feed_1.at 1 rfl) ?_
      refine J_iload 98 rfl 6 7 rfl (D_X12_feed_1.at 2 rfl) ?_
      refine J_iconst 99 rfl (D_X12_feed_1.at 3 rfl) ?_
      obtain ⟨s27, T⟩ := T
      refine J_irem 100 rfl s27 ⟨by decide, by decide⟩ (D_X12_feed_1.at 4 rfl) ?_
      refine J_isub 101 rfl (D_X12_feed_1.at 5 rfl) ?_
      refine J_imul 102 rfl (D_X12_feed_1.at 6 rfl) ?_
      obtain ⟨s28, T⟩ := T
      obtain ⟨s29, T⟩ := T
      refine J_ishrE (v := (v3 / 2 ^ (Int.toNat (8 * (3 - (v6 % 4)))))) 103 rfl s28 s29 rfl (D_X12_feed_1.at 7 rfl) ?_
      refine J_sipush 106 rfl ⟨by decide, by decide⟩ (D_X12_feed_1.at 8 rfl) ?_
      refine J_maskE (mm := 256) 107 rfl 8 (by decide) rfl rfl (D_X12_feed_1.at 9 rfl) ?_
      obtain ⟨s30, T⟩ := T
      refine J_iastH 108 rfl ar_69 (Ar.lt ar_69) s30 trivial (D_X12_feed_1.at 10 rfl) (fun h31 e32 => ?_)
      replace T := T h31 e32
      refine J_aload_n 109 rfl 0 1 rfl ⟨by decide, by decide⟩ (D_X12_feed_1.at 11 rfl) ?_
      refine J_dup 110 rfl rfl (D_X12_feed_1.at 12 rfl) ?_
      refine J_getI (z := (h31 68 1)) 113 rfl fl_12_224 rfl ob_68 (Ob.lt ob_68) (D_X12_feed_1.at 13 rfl) rfl ?_
      refine J_iconst 114 rfl (D_X12_feed_1.at 14 rfl) ?_
      refine J_iadd 115 rfl (D_X12_feed_1.at 15 rfl) ?_
      refine J_putI 118 rfl fl_12_224 rfl rfl ob_68 (Ob.lt ob_68) (D_X12_feed_1.at 16 rfl) (fun h33 e34 => ?_)
      replace T := T h33 e34
      refine J_iinc (v := (v6 + 1)) (lv' := [(6, vI (v6 + 1)), (7, vI v3), (0, vR 68), (1, vI v1), (2, vI v2), (3, vI v3), (4, vI v4), (5, vI v5)]) 121 rfl 6 7 1 rfl rfl (by decide) rfl (D_X12_feed_1.at 17 rfl) ?_
      refine J_goto 28 (D_X12_feed_1.at 18 rfl) (by decide) ?_
      exact J_sub (lv' := [(0, vR 68), (1, vI v1), (2, vI v2), (3, vI v3), (4, vI v4), (5, vI v5), (6, vI (v6 + 1))]) [2, 3, 4, 5, 6, 7, 0] rfl T
    replace T := T.2 c44
    refine J_iload_n 53 rfl 2 2 rfl (D_X12_feed_0.at 29 rfl) ?_
    refine J_goto 81 (D_X12_feed_0.at 30 rfl) (by decide) ?_
    refine J_istore (lv' := [(7, vI v2), (0, vR 68), (1, vI v1), (2, vI v2), (3, vI v3), (4, vI v4), (5, vI v5), (6, vI v6)]) 83 rfl 7 (by decide) rfl (D_X12_feed_0.at 42 rfl) ?_
    refine J_aload_n 84 rfl 0 1 rfl ⟨by decide, by decide⟩ (D_X12_feed_0.at 43 rfl) ?_
    refine J_getF (ov := 69) (dd := 1001) 87 rfl fl_12_7 rfl (by decide) rfl ob_68 (Ob.lt ob_68) (D_X12_feed_0.at 44 rfl) ?_
    refine J_aload_n 88 rfl 0 1 rfl ⟨by decide, by decide⟩ (D_X12_feed_0.at 45 rfl) ?_
    refine J_getI (z := (h 68 1)) 91 rfl fl_12_224 rfl ob_68 (Ob.lt ob_68) (D_X12_feed_0.at 46 rfl) rfl ?_
    refine J_iload 93 rfl 7 0 rfl (D_X12_feed_0.at 47 rfl) ?_
    refine J_bipush 95 rfl ⟨by decide, by decide⟩ (D_X12_feed_1.at 0 rfl) ?_
    refine J_iconst 96 rfl (D_X12_feed_1.at 1 rfl) ?_
    refine J_iload 98 rfl 6 7 rfl (D_X12_feed_1.at 2 rfl) ?_
    refine J_iconst 99 rfl (D_X12_feed_1.at 3 rfl) ?_
    obtain ⟨s36, T⟩ := T
    refine J_irem 100 rfl s36 ⟨by decide, by decide⟩ (D_X12_feed_1.at 4 rfl) ?_
    refine J_isub 101 rfl (D_X12_feed_1.at 5 rfl) ?_
    refine J_imul 102 rfl (D_X12_feed_1.at 6 rfl) ?_
    obtain ⟨s37, T⟩ := T
    obtain ⟨s38, T⟩ := T
    refine J_ishrE (v := (v2 / 2 ^ (Int.toNat (8 * (3 - (v6 % 4)))))) 103 rfl s37 s38 rfl (D_X12_feed_1.at 7 rfl) ?_
    refine J_sipush 106 rfl ⟨by decide, by decide⟩ (D_X12_feed_1.at 8 rfl) ?_
    refine J_maskE (mm := 256) 107 rfl 8 (by decide) rfl rfl (D_X12_feed_1.at 9 rfl) ?_
    obtain ⟨s39, T⟩ := T
    refine J_iastH 108 rfl ar_69 (Ar.lt ar_69) s39 trivial (D_X12_feed_1.at 10 rfl) (fun h40 e41 => ?_)
    replace T := T h40 e41
    refine J_aload_n 109 rfl 0 1 rfl ⟨by decide, by decide⟩ (D_X12_feed_1.at 11 rfl) ?_
    refine J_dup 110 rfl rfl (D_X12_feed_1.at 12 rfl) ?_
    refine J_getI (z := (h40 68 1)) 113 rfl fl_12_224 rfl ob_68 (Ob.lt ob_68) (D_X12_feed_1.at 13 rfl) rfl ?_
    refine J_iconst 114 rfl (D_X12_feed_1.at 14 rfl) ?_
    refine J_iadd 115 rfl (D_X12_feed_1.at 15 rfl) ?_
    refine J_putI 118 rfl fl_12_224 rfl rfl ob_68 (Ob.lt ob_68) (D_X12_feed_1.at 16 rfl) (fun h42 e43 => ?_)
    replace T := T h42 e43
    refine J_iinc (v := (v6 + 1)) (lv' := [(6, vI (v6 + 1)), (7, vI v2), (0, vR 68), (1, vI v1), (2, vI v2), (3, vI v3), (4, vI v4), (5, vI v5)]) 121 rfl 6 7 1 rfl rfl (by decide) rfl (D_X12_feed_1.at 17 rfl) ?_
    refine J_goto 28 (D_X12_feed_1.at 18 rfl) (by decide) ?_
    exact J_sub (lv' := [(0, vR 68), (1, vI v1), (2, vI v2), (3, vI v3), (4, vI v4), (5, vI v5), (6, vI (v6 + 1))]) [2, 3, 4, 5, 6, 7, 0] rfl T
  replace T := T.2 c53
  refine J_iload_n 42 rfl 1 1 rfl (D_X12_feed_0.at 24 rfl) ?_
  refine J_goto 81 (D_X12_feed_0.at 25 rfl) (by decide) ?_
  refine J_istore (lv' := [(7, vI v1), (0, vR 68), (1, vI v1), (2, vI v2), (3, vI v3), (4, vI v4), (5, vI v5), (6, vI v6)]) 83 rfl 7 (by decide) rfl (D_X12_feed_0.at 42 rfl) ?_
  refine J_aload_n 84 rfl 0 1 rfl ⟨by decide, by decide⟩ (D_X12_feed_0.at 43 rfl) ?_
  refine J_getF (ov := 69) (dd := 1001) 87 rfl fl_12_7 rfl (by decide) rfl ob_68 (Ob.lt ob_68) (D_X12_feed_0.at 44 rfl) ?_
  refine J_aload_n 88 rfl 0 1 rfl ⟨by decide, by decide⟩ (D_X12_feed_0.at 45 rfl) ?_
  refine J_getI (z := (h 68 1)) 91 rfl fl_12_224 rfl ob_68 (Ob.lt ob_68) (D_X12_feed_0.at 46 rfl) rfl ?_
  refine J_iload 93 rfl 7 0 rfl (D_X12_feed_0.at 47 rfl) ?_
  refine J_bipush 95 rfl ⟨by decide, by decide⟩ (D_X12_feed_1.at 0 rfl) ?_
  refine J_iconst 96 rfl (D_X12_feed_1.at 1 rfl) ?_
  refine J_iload 98 rfl 6 7 rfl (D_X12_feed_1.at 2 rfl) ?_
  refine J_iconst 99 rfl (D_X12_feed_1.at 3 rfl) ?_
  obtain ⟨s45, T⟩ := T
  refine J_irem 100 rfl s45 ⟨by decide, by decide⟩ (D_X12_feed_1.at 4 rfl) ?_
  refine J_isub 101 rfl (D_X12_feed_1.at 5 rfl) ?_
  refine J_imul 102 rfl (D_X12_feed_1.at 6 rfl) ?_
  obtain ⟨s46, T⟩ := T
  obtain ⟨s47, T⟩ := T
  refine J_ishrE (v := (v1 / 2 ^ (Int.toNat (8 * (3 - (v6 % 4)))))) 103 rfl s46 s47 rfl (D_X12_feed_1.at 7 rfl) ?_
  refine J_sipush 106 rfl ⟨by decide, by decide⟩ (D_X12_feed_1.at 8 rfl) ?_
  refine J_maskE (mm := 256) 107 rfl 8 (by decide) rfl rfl (D_X12_feed_1.at 9 rfl) ?_
  obtain ⟨s48, T⟩ := T
  refine J_iastH 108 rfl ar_69 (Ar.lt ar_69) s48 trivial (D_X12_feed_1.at 10 rfl) (fun h49 e50 => ?_)
  replace T := T h49 e50
  refine J_aload_n 109 rfl 0 1 rfl ⟨by decide, by decide⟩ (D_X12_feed_1.at 11 rfl) ?_
  refine J_dup 110 rfl rfl (D_X12_feed_1.at 12 rfl) ?_
  refine J_getI (z := (h49 68 1)) 113 rfl fl_12_224 rfl ob_68 (Ob.lt ob_68) (D_X12_feed_1.at 13 rfl) rfl ?_
  refine J_iconst 114 rfl (D_X12_feed_1.at 14 rfl) ?_
  refine J_iadd 115 rfl (D_X12_feed_1.at 15 rfl) ?_
  refine J_putI 118 rfl fl_12_224 rfl rfl ob_68 (Ob.lt ob_68) (D_X12_feed_1.at 16 rfl) (fun h51 e52 => ?_)
  replace T := T h51 e52
  refine J_iinc (v := (v6 + 1)) (lv' := [(6, vI (v6 + 1)), (7, vI v1), (0, vR 68), (1, vI v1), (2, vI v2), (3, vI v3), (4, vI v4), (5, vI v5)]) 121 rfl 6 7 1 rfl rfl (by decide) rfl (D_X12_feed_1.at 17 rfl) ?_
  refine J_goto 28 (D_X12_feed_1.at 18 rfl) (by decide) ?_
  exact J_sub (lv' := [(0, vR 68), (1, vI v1), (2, vI v2), (3, vI v3), (4, vI v4), (5, vI v5), (6, vI (v6 + 1))]) [2, 3, 4, 5, 6, 7, 0] rfl T
theorem c_X12_end {w : Wd} {a1 : Int} {h : Hp} {K : Int → Hp → Prop} (T : (inR a1) ∧ (((a1 < 0) → (∀ h2 : Hp, h2 = hu h 70 0 ((h 70 0) + 1) → K 0 h2)) ∧ (¬ (a1 < 0) → ((inR a1) ∧ ((inR (h 68 1)) ∧ (((a1 ≤ (h 68 1)) → (∀ h6 : Hp, h6 = hu h 68 1 a1 → K 1 h6)) ∧ (¬ (a1 ≤ (h 68 1)) → (∀ h8 : Hp, h8 = hu h 70 0 ((h 70 0) + 1) → K 0 h8)))))))) : C_X12_end w a1 h K := by
  refine CGm_of2 (by decide) (by decide) trivial (Nat.le_of_ble_eq_true rfl) ?_
  refine J_iload_n 1 rfl 1 1 rfl (D_X12_end_0.at 0 rfl) ?_
  obtain ⟨s1, T⟩ := T
  refine J_if_lt 4 rfl 12 s1 (D_X12_end_0.at 1 rfl) (by decide) (fun c11 => ?_) (fun c11 => ?_)
  · replace T := T.1 c11
    refine J_aload_n 13 rfl 0 0 rfl ⟨by decide, by decide⟩ (D_X12_end_0.at 6 rfl) ?_
    refine J_getF (ov := 70) (dd := 1002) 16 rfl fl_12_17 rfl (by decide) rfl ob_68 (Ob.lt ob_68) (D_X12_end_0.at 7 rfl) ?_
    refine J_iconst 17 rfl (D_X12_end_0.at 8 rfl) ?_
    refine J_dup2 18 rfl rfl rfl (D_X12_end_0.at 9 rfl) ?_
    refine J_iald 19 rfl ar_70 (Ar.lt ar_70) ⟨by decide, by decide⟩ (D_X12_end_0.at 10 rfl) ?_
    refine J_iconst 20 rfl (D_X12_end_0.at 11 rfl) ?_
    refine J_iadd 21 rfl (D_X12_end_0.at 12 rfl) ?_
    refine J_iastH 22 rfl ar_70 (Ar.lt ar_70) ⟨by decide, by decide⟩ trivial (D_X12_end_0.at 13 rfl) (fun h2 e3 => ?_)
    replace T := T h2 e3
    refine J_iconst 23 rfl (D_X12_end_0.at 14 rfl) ?_
    exact J_zret rfl (Or.inl rfl) (D_X12_end_0.at 15 rfl) T
  replace T := T.2 c11
  refine J_iload_n 5 rfl 1 1 rfl (D_X12_end_0.at 2 rfl) ?_
  refine J_aload_n 6 rfl 0 0 rfl ⟨by decide, by decide⟩ (D_X12_end_0.at 3 rfl) ?_
  refine J_getI (z := (h 68 1)) 9 rfl fl_12_224 rfl ob_68 (Ob.lt ob_68) (D_X12_end_0.at 4 rfl) rfl ?_
  obtain ⟨s4, T⟩ := T
  obtain ⟨s5, T⟩ := T
  refine J_icmp_le 12 rfl 24 s4 s5 (D_X12_end_0.at 5 rfl) (by decide) (fun c10 => ?_) (fun c10 => ?_)
  · replace T := T.1 c10
    refine J_aload_n 25 rfl 0 0 rfl ⟨by decide, by decide⟩ (D_X12_end_0.at 16 rfl) ?_
    refine J_iload_n 26 rfl 1 1 rfl (D_X12_end_0.at 17 rfl) ?_
    refine J_putI 29 rfl fl_12_224 rfl rfl ob_68 (Ob.lt ob_68) (D_X12_end_0.at 18 rfl) (fun h6 e7 => ?_)
    replace T := T h6 e7
    refine J_iconst 30 rfl (D_X12_end_0.at 19 rfl) ?_
    exact J_zret rfl (Or.inr rfl) (D_X12_end_0.at 20 rfl) T
  replace T := T.2 c10
  refine J_aload_n 13 rfl 0 0 rfl ⟨by decide, by decide⟩ (D_X12_end_0.at 6 rfl) ?_
  refine J_getF (ov := 70) (dd := 1002) 16 rfl fl_12_17 rfl (by decide) rfl ob_68 (Ob.lt ob_68) (D_X12_end_0.at 7 rfl) ?_
  refine J_iconst 17 rfl (D_X12_end_0.at 8 rfl) ?_
  refine J_dup2 18 rfl rfl rfl (D_X12_end_0.at 9 rfl) ?_
  refine J_iald 19 rfl ar_70 (Ar.lt ar_70) ⟨by decide, by decide⟩ (D_X12_end_0.at 10 rfl) ?_
  refine J_iconst 20 rfl (D_X12_end_0.at 11 rfl) ?_
  refine J_iadd 21 rfl (D_X12_end_0.at 12 rfl) ?_
  refine J_iastH 22 rfl ar_70 (Ar.lt ar_70) ⟨by decide, by decide⟩ trivial (D_X12_end_0.at 13 rfl) (fun h8 e9 => ?_)
  replace T := T h8 e9
  refine J_iconst 23 rfl (D_X12_end_0.at 14 rfl) ?_
  exact J_zret rfl (Or.inl rfl) (D_X12_end_0.at 15 rfl) T
theorem c_X12_look {w : Wd} {h : Hp} {K : Int → Hp → Prop} (T : L_X12_look_0 w h K) : C_X12_look w h K := by
  refine CGm_of2 (by decide) (by decide) trivial (Nat.le_of_ble_eq_true rfl) ?_
  exact T
theorem l_X12_look_0 {w : Wd} {h : Hp} {K : Int → Hp → Prop} (T : (inR (h 68 2)) ∧ ((inR (h 68 3)) ∧ ((((h 68 2) ≥ (h 68 3)) → ((inR (h 68 2)) ∧ ((inR (h 68 3)) ∧ ((((h 68 2) ≥ (h 68 3)) → (K (-1) h)) ∧ (¬ ((h 68 2) ≥ (h 68 3)) → ((0 ≤ (h 68 2) ∧ (h 68 2) < 1600) ∧ (K (h 69 (h 68 2)) h))))))) ∧ (¬ ((h 68 2) ≥ (h 68 3)) → ((0 ≤ (h 68 2) ∧ (h 68 2) < 1600) ∧ ((inR (h 69 (h 68 2))) ∧ ((((h 69 (h 68 2)) = 10) → (∀ h9 : Hp, h9 = hu h 68 2 ((h 68 2) + 1) → L_X12_look_0 w h9 K)) ∧ (¬ ((h 69 (h 68 2)) = 10) → ((0 ≤ (h 68 2) ∧ (h 68 2) < 1600) ∧ ((inR (h 69 (h 68 2))) ∧ ((((h 69 (h 68 2)) ≠ 32) → ((inR (h 68 2)) ∧ ((inR (h 68 3)) ∧ ((((h 68 2) ≥ (h 68 3)) → (K (-1) h)) ∧ (¬ ((h 68 2) ≥ (h 68 3)) → ((0 ≤ (h 68 2) ∧ (h 68 2) < 1600) ∧ (K (h 69 (h 68 2)) h))))))) ∧ (¬ ((h 69 (h 68 2)) ≠ 32) → (∀ h17 : Hp, h17 = hu h 68 2 ((h 68 2) + 1) → L_X12_look_0 w h17 K))))))))))))) : L_X12_look_0 w h K := by
  unfold L_X12_look_0
  refine J_aload_n 1 rfl 0 0 rfl ⟨by decide, by decide⟩ (D_X12_look_0.at 0 rfl) ?_
  refine J_getI (z := (h 68 2)) 4 rfl fl_12_233 rfl ob_68 (Ob.lt ob_68) (D_X12_look_0.at 1 rfl) rfl ?_
  refine J_aload_n 5 rfl 0 0 rfl ⟨by decide, by decide⟩ (D_X12_look_0.at 2 rfl) ?_
  refine J_getI (z := (h 68 3)) 8 rfl fl_12_236 rfl ob_68 (Ob.lt ob_68) (D_X12_look_0.at 3 rfl) rfl ?_
  obtain ⟨s1, T⟩ := T
  obtain ⟨s2, T⟩ := T
  refine J_icmp_ge 11 rfl 52 s1 s2 (D_X12_look_0.at 4 rfl) (by decide) (fun c21 => ?_) (fun c21 => ?_)
  · replace T := T.1 c21
    refine J_aload_n 53 rfl 0 0 rfl ⟨by decide, by decide⟩ (D_X12_look_0.at 26 rfl) ?_
    refine J_getI (z := (h 68 2)) 56 rfl fl_12_233 rfl ob_68 (Ob.lt ob_68) (D_X12_look_0.at 27 rfl) rfl ?_
    refine J_aload_n 57 rfl 0 0 rfl ⟨by decide, by decide⟩ (D_X12_look_0.at 28 rfl) ?_
    refine J_getI (z := (h 68 3)) 60 rfl fl_12_236 rfl ob_68 (Ob.lt ob_68) (D_X12_look_0.at 29 rfl) rfl ?_
    obtain ⟨s3, T⟩ := T
    obtain ⟨s4, T⟩ := T
    refine J_icmp_ge 63 rfl 75 s3 s4 (D_X12_look_0.at 30 rfl) (by decide) (fun c6 => ?_) (fun c6 => ?_)
    · replace T := T.1 c6
      refine J_iconst 76 rfl (D_X12_look_0.at 37 rfl) ?_
      exact J_iret rfl (D_X12_look_0.at 38 rfl) T
    replace T := T.2 c6
    refine J_aload_n 64 rfl 0 0 rfl ⟨by decide, by decide⟩ (D_X12_look_0.at 31 rfl) ?_
    refine J_getF (ov := 69) (dd := 1001) 67 rfl fl_12_7 rfl (by decide) rfl ob_68 (Ob.lt ob_68) (D_X12_look_0.at 32 rfl) ?_
    refine J_aload_n 68 rfl 0 0 rfl ⟨by decide, by decide⟩ (D_X12_look_0.at 33 rfl) ?_
    refine J_getI (z := (h 68 2)) 71 rfl fl_12_233 rfl ob_68 (Ob.lt ob_68) (D_X12_look_0.at 34 rfl) rfl ?_
    obtain ⟨s5, T⟩ := T
    refine J_iald 72 rfl ar_69 (Ar.lt ar_69) s5 (D_X12_look_0.at 35 rfl) ?_
    refine J_goto 76 (D_X12_look_0.at 36 rfl) (by decide) ?_
    exact J_iret rfl (D_X12_look_0.at 38 rfl) T
  replace T := T.2 c21
  refine J_aload_n 12 rfl 0 0 rfl ⟨by decide, by decide⟩ (D_X12_look_0.at 5 rfl) ?_
  refine J_getF (ov := 69) (dd := 1001) 15 rfl fl_12_7 rfl (by decide) rfl ob_68 (Ob.lt ob_68) (D_X12_look_0.at 6 rfl) ?_
  refine J_aload_n 16 rfl 0 0 rfl ⟨by decide, by decide⟩ (D_X12_look_0.at 7 rfl) ?_
  refine J_getI (z := (h 68 2)) 19 rfl fl_12_233 rfl ob_68 (Ob.lt ob_68) (D_X12_look_0.at 8 rfl) rfl ?_
  obtain ⟨s7, T⟩ := T
  refine J_iald 20 rfl ar_69 (Ar.lt ar_69) s7 (D_X12_look_0.at 9 rfl) ?_
  refine J_bipush 22 rfl ⟨by decide, by decide⟩ (D_X12_look_0.at 10 rfl) ?_
  obtain ⟨s8, T⟩ := T
  refine J_icmp_eq 25 rfl 39 s8 ⟨by decide, by decide⟩ (D_X12_look_0.at 11 rfl) (by decide) (fun c20 => ?_) (fun c20 => ?_)
  · replace T := T.1 c20
    refine J_aload_n 40 rfl 0 0 rfl ⟨by decide, by decide⟩ (D_X12_look_0.at 19 rfl) ?_
    refine J_dup 41 rfl rfl (D_X12_look_0.at 20 rfl) ?_
    refine J_getI (z := (h 68 2)) 44 rfl fl_12_233 rfl ob_68 (Ob.lt ob_68) (D_X12_look_0.at 21 rfl) rfl ?_
    refine J_iconst 45 rfl (D_X12_look_0.at 22 rfl) ?_
    refine J_iadd 46 rfl (D_X12_look_0.at 23 rfl) ?_
    refine J_putI 49 rfl fl_12_233 rfl rfl ob_68 (Ob.lt ob_68) (D_X12_look_0.at 24 rfl) (fun h9 e10 => ?_)
    replace T := T h9 e10
    refine J_goto 0 (D_X12_look_0.at 25 rfl) (by decide) ?_
    exact T
  replace T := T.2 c20
  refine J_aload_n 26 rfl 0 0 rfl ⟨by decide, by decide⟩ (D_X12_look_0.at 12 rfl) ?_
  refine J_getF (ov := 69) (dd := 1001) 29 rfl fl_12_7 rfl (by decide) rfl ob_68 (Ob.lt ob_68) (D_X12_look_0.at 13 rfl) ?_
  refine J_aload_n 30 rfl 0 0 rfl ⟨by decide, by decide⟩ (D_X12_look_0.at 14 rfl) ?_
  refine J_getI (z := (h 68 2)) 33 rfl fl_12_233 rfl ob_68 (Ob.lt ob_68) (D_X12_look_0.at 15 rfl) rfl ?_
  obtain ⟨s11, T⟩ := T
  refine J_iald 34 rfl ar_69 (Ar.lt ar_69) s11 (D_X12_look_0.at 16 rfl) ?_
  refine J_bipush 36 rfl ⟨by decide, by decide⟩ (D_X12_look_0.at 17 rfl) ?_
  obtain ⟨s12, T⟩ := T
  refine J_icmp_ne 39 rfl 52 s12 ⟨by decide, by decide⟩ (D_X12_look_0.at 18 rfl) (by decide) (fun c19 => ?_) (fun c19 => ?_)
  · replace T := T.1 c19
    refine J_aload_n 53 rfl 0 0 rfl ⟨by decide, by decide⟩ (D_X12_look_0.at 26 rfl) ?_
    refine J_getI (z := (h 68 2)) 56 rfl fl_12_233 rfl ob_68 (Ob.lt ob_68) (D_X12_look_0.at 27 rfl) rfl ?_
    refine J_aload_n 57 rfl 0 0 rfl ⟨by decide, by decide⟩ (D_X12_look_0.at 28 rfl) ?_
    refine J_getI (z := (h 68 3)) 60 rfl fl_12_236 rfl ob_68 (Ob.lt ob_68) (D_X12_look_0.at 29 rfl) rfl ?_
    obtain ⟨s13, T⟩ := T
    obtain ⟨s14, T⟩ := T
    refine J_icmp_ge 63 rfl 75 s13 s14 (D_X12_look_0.at 30 rfl) (by decide) (fun c16 => ?_) (fun c16 => ?_)
    · replace T := T.1 c16
      refine J_iconst 76 rfl (D_X12_look_0.at 37 rfl) ?_
      exact J_iret rfl (D_X12_look_0.at 38 rfl) T
    replace T := T.2 c16
    refine J_aload_n 64 rfl 0 0 rfl ⟨by decide, by decide⟩ (D_X12_look_0.at 31 rfl) ?_
    refine J_getF (ov := 69) (dd := 1001) 67 rfl fl_12_7 rfl (by decide) rfl ob_68 (Ob.lt ob_68) (D_X12_look_0.at 32 rfl) ?_
    refine J_aload_n 68 rfl 0 0 rfl ⟨by decide, by decide⟩ (D_X12_look_0.at 33 rfl) ?_
    refine J_getI (z := (h 68 2)) 71 rfl fl_12_233 rfl ob_68 (Ob.lt ob_68) (D_X12_look_0.at 34 rfl) rfl ?_
    obtain ⟨s15, T⟩ := T
    refine J_iald 72 rfl ar_69 (Ar.lt ar_69) s15 (D_X12_look_0.at 35 rfl) ?_
    refine J_goto 76 (D_X12_look_0.at 36 rfl) (by decide) ?_
    exact J_iret rfl (D_X12_look_0.at 38 rfl) T
  replace T := T.2 c19
  refine J_aload_n 40 rfl 0 0 rfl ⟨by decide, by decide⟩ (D_X12_look_0.at 19 rfl) ?_
  refine J_dup 41 rfl rfl (D_X12_look_0.at 20 rfl) ?_
  refine J_getI (z := (h 68 2)) 44 rfl fl_12_233 rfl ob_68 (Ob.lt ob_68) (D_X12_look_0.at 21 rfl) rfl ?_
  refine J_iconst 45 rfl (D_X12_look_0.at 22 rfl) ?_
  refine J_iadd 46 rfl (D_X12_look_0.at 23 rfl) ?_
  refine J_putI 49 rfl fl_12_233 rfl rfl ob_68 (Ob.lt ob_68) (D_X12_look_0.at 24 rfl) (fun h17 e18 => ?_)
  replace T := T h17 e18
  refine J_goto 0 (D_X12_look_0.at 25 rfl) (by decide) ?_
  exact T
theorem c_X12_isLetter {w : Wd} {a1 : Int} {h : Hp} {K : Int → Hp → Prop} (T : (inR a1) ∧ (((a1 < 97) → (K 0 h)) ∧ (¬ (a1 < 97) → ((inR a1) ∧ (((a1 > 122) → (K 0 h)) ∧ (¬ (a1 > 122) → (K 1 h))))))) : C_X12_isLetter w a1 h K := by
  refine CGm_of2 (by decide) (by decide) trivial (Nat.le_of_ble_eq_true rfl) ?_
  refine J_iload_n 1 rfl 0 0 rfl (D_X12_isLetter_0.at 0 rfl) ?_
  refine J_bipush 3 rfl ⟨by decide, by decide⟩ (D_X12_isLetter_0.at 1 rfl) ?_
  obtain ⟨s1, T⟩ := T
  refine J_icmp_lt 6 rfl 16 s1 ⟨by decide, by decide⟩ (D_X12_isLetter_0.at 2 rfl) (by decide) (fun c4 => ?_) (fun c4 => ?_)
  · replace T := T.1 c4
    refine J_iconst 17 rfl (D_X12_isLetter_0.at 8 rfl) ?_
    exact J_zret rfl (Or.inl rfl) (D_X12_isLetter_0.at 9 rfl) T
  replace T := T.2 c4
  refine J_iload_n 7 rfl 0 0 rfl (D_X12_isLetter_0.at 3 rfl) ?_
  refine J_bipush 9 rfl ⟨by decide, by decide⟩ (D_X12_isLetter_0.at 4 rfl) ?_
  obtain ⟨s2, T⟩ := T
  refine J_icmp_gt 12 rfl 16 s2 ⟨by decide, by decide⟩ (D_X12_isLetter_0.at 5 rfl) (by decide) (fun c3 => ?_) (fun c3 => ?_)
  · replace T := T.1 c3
    refine J_iconst 17 rfl (D_X12_isLetter_0.at 8 rfl) ?_
    exact J_zret rfl (Or.inl rfl) (D_X12_isLetter_0.at 9 rfl) T
  replace T := T.2 c3
  refine J_iconst 13 rfl (D_X12_isLetter_0.at 6 rfl) ?_
  refine J_goto 17 (D_X12_isLetter_0.at 7 rfl) (by decide) ?_
  exact J_zret rfl (Or.inr rfl) (D_X12_isLetter_0.at 9 rfl) T
theorem c_X12_fail {w : Wd} {a1 a2 : Int} {h : Hp} {K : Int → Hp → Prop} (T : (inR (h 68 5)) ∧ ((((h 68 5) = 0) → (∀ h2 : Hp, h2 = hu h 68 5 a1 → ∀ h4 : Hp, h4 = hu h2 68 6 a2 → K 0 h4)) ∧ (¬ ((h 68 5) = 0) → (K 0 h)))) : C_X12_fail w a1 a2 h K := by
  refine CGm_of2 (by decide) (by decide) trivial (Nat.le_of_ble_eq_true rfl) ?_
  refine J_aload_n 1 rfl 0 0 rfl ⟨by decide, by decide⟩ (D_X12_fail_0.at 0 rfl) ?_
  refine J_getI (z := (h 68 5)) 4 rfl fl_12_227 rfl ob_68 (Ob.lt ob_68) (D_X12_fail_0.at 1 rfl) rfl ?_
  obtain ⟨s1, T⟩ := T
  refine J_if_eq 7 rfl 8 s1 (D_X12_fail_0.at 2 rfl) (by decide) (fun c6 => ?_) (fun c6 => ?_)
  · replace T := T.1 c6
    refine J_aload_n 9 rfl 0 0 rfl ⟨by decide, by decide⟩ (D_X12_fail_0.at 4 rfl) ?_
    refine J_iload_n 10 rfl 1 1 rfl (D_X12_fail_0.at 5 rfl) ?_
    refine J_putI 13 rfl fl_12_227 rfl rfl ob_68 (Ob.lt ob_68) (D_X12_fail_0.at 6 rfl) (fun h2 e3 => ?_)
    replace T := T h2 e3
    refine J_aload_n 14 rfl 0 0 rfl ⟨by decide, by decide⟩ (D_X12_fail_0.at 7 rfl) ?_
    refine J_iload_n 15 rfl 2 2 rfl (D_X12_fail_0.at 8 rfl) ?_
    refine J_putI 18 rfl fl_12_230 rfl rfl ob_68 (Ob.lt ob_68) (D_X12_fail_0.at 9 rfl) (fun h4 e5 => ?_)
    replace T := T h4 e5
    exact J_vret rfl (D_X12_fail_0.at 10 rfl) T
  replace T := T.2 c6
  exact J_vret rfl (D_X12_fail_0.at 3 rfl) T
theorem c_X12_isDigit {w : Wd} {a1 : Int} {h : Hp} {K : Int → Hp → Prop} (T : (inR a1) ∧ (((a1 < 48) → (K 0 h)) ∧ (¬ (a1 < 48) → ((inR a1) ∧ (((a1 > 57) → (K 0 h)) ∧ (¬ (a1 > 57) → (K 1 h))))))) : C_X12_isDigit w a1 h K := by
  refine CGm_of2 (by decide) (by decide) trivial (Nat.le_of_ble_eq_true rfl) ?_
  refine J_iload_n 1 rfl 0 0 rfl (D_X12_isDigit_0.at 0 rfl) ?_
  refine J_bipush 3 rfl ⟨by decide, by decide⟩ (D_X12_isDigit_0.at 1 rfl) ?_
  obtain ⟨s1, T⟩ := T
  refine J_icmp_lt 6 rfl 16 s1 ⟨by decide, by decide⟩ (D_X12_isDigit_0.at 2 rfl) (by decide) (fun c4 => ?_) (fun c4 => ?_)
  · replace T := T.1 c4
    refine J_iconst 17 rfl (D_X12_isDigit_0.at 8 rfl) ?_
    exact J_zret rfl (Or.inl rfl) (D_X12_isDigit_0.at 9 rfl) T
  replace T := T.2 c4
  refine J_iload_n 7 rfl 0 0 rfl (D_X12_isDigit_0.at 3 rfl) ?_
  refine J_bipush 9 rfl ⟨by decide, by decide⟩ (D_X12_isDigit_0.at 4 rfl) ?_
  obtain ⟨s2, T⟩ := T
  refine J_icmp_gt 12 rfl 16 s2 ⟨by decide, by decide⟩ (D_X12_isDigit_0.at 5 rfl) (by decide) (fun c3 => ?_) (fun c3 => ?_)
  · replace T := T.1 c3
    refine J_iconst 17 rfl (D_X12_isDigit_0.at 8 rfl) ?_
    exact J_zret rfl (Or.inl rfl) (D_X12_isDigit_0.at 9 rfl) T
  replace T := T.2 c3
  refine J_iconst 13 rfl (D_X12_isDigit_0.at 6 rfl) ?_
  refine J_goto 17 (D_X12_isDigit_0.at 7 rfl) (by decide) ?_
  exact J_zret rfl (Or.inr rfl) (D_X12_isDigit_0.at 9 rfl) T
theorem c_X12_isIn {w : Wd} {a1 a2 a3 : Int} {h : Hp} {K : Int → Hp → Prop} (T : (inL a1) ∧ ((inL a2) ∧ (((a1 < a2) → (K 0 h)) ∧ (¬ (a1 < a2) → ((inL a1) ∧ ((inL a3) ∧ (((a1 > a3) → (K 0 h)) ∧ (¬ (a1 > a3) → (K 1 h))))))))) : C_X12_isIn w a1 a2 a3 h K := by
  refine CGm_of2 (by decide) (by decide) trivial (Nat.le_of_ble_eq_true rfl) ?_
  refine J_lload_n 1 rfl 0 0 rfl (D_X12_isIn_0.at 0 rfl) ?_
  refine J_lload_n 2 rfl 2 1 rfl (D_X12_isIn_0.at 1 rfl) ?_
  obtain ⟨s1, T⟩ := T
  obtain ⟨s2, T⟩ := T
  refine J_lcmp_lt 6 rfl 17 s1 s2 (D_X12_isIn_0.at 2 rfl) (D_X12_isIn_0.at 3 rfl) (by decide) (fun c6 => ?_) (fun c6 => ?_)
  · replace T := T.1 c6
    refine J_iconst 18 rfl (D_X12_isIn_0.at 10 rfl) ?_
    exact J_zret rfl (Or.inl rfl) (D_X12_isIn_0.at 11 rfl) T
  replace T := T.2 c6
  refine J_lload_n 7 rfl 0 0 rfl (D_X12_isIn_0.at 4 rfl) ?_
  refine J_lload 9 rfl 4 2 rfl (D_X12_isIn_0.at 5 rfl) ?_
  obtain ⟨s3, T⟩ := T
  obtain ⟨s4, T⟩ := T
  refine J_lcmp_gt 13 rfl 17 s3 s4 (D_X12_isIn_0.at 6 rfl) (D_X12_isIn_0.at 7 rfl) (by decide) (fun c5 => ?_) (fun c5 => ?_)
  · replace T := T.1 c5
    refine J_iconst 18 rfl (D_X12_isIn_0.at 10 rfl) ?_
    exact J_zret rfl (Or.inl rfl) (D_X12_isIn_0.at 11 rfl) T
  replace T := T.2 c5
  refine J_iconst 14 rfl (D_X12_isIn_0.at 8 rfl) ?_
  refine J_goto 18 (D_X12_isIn_0.at 9 rfl) (by decide) ?_
  exact J_zret rfl (Or.inr rfl) (D_X12_isIn_0.at 11 rfl) T
theorem c_X12_nameOf {w : Wd} {a1 a2 : Int} {h : Hp} {K : Int → Hp → Prop} (T : L_X12_nameOf_3 w a1 a2 0 h K) : C_X12_nameOf w a1 a2 h K := by
  refine CGm_of2 (by decide) (by decide) trivial (Nat.le_of_ble_eq_true rfl) ?_
  refine J_iconst 1 rfl (D_X12_nameOf_0.at 0 rfl) ?_
  refine J_istore (lv' := [(4, vI 0), (0, vR 68), (1, vI a1), (2, vL a2)]) 3 rfl 4 (by decide) rfl (D_X12_nameOf_0.at 1 rfl) ?_
  exact J_sub (lv' := [(0, vR 68), (1, vI a1), (2, vL a2), (4, vI 0)]) [1, 2, 3, 0] rfl T
theorem l_X12_nameOf_3 {w : Wd} {v1 v2 v4 : Int} {h : Hp} {K : Int → Hp → Prop} (T : (0 ≤ v1 ∧ v1 < 6) ∧ ((inR v4) ∧ ((inR (h 93 v1)) ∧ (((v4 ≥ (h 93 v1)) → (K (-1) h)) ∧ (¬ (v4 ≥ (h 93 v1)) → ((0 ≤ ((10 * v1) + v4) ∧ ((10 * v1) + v4) < 60) ∧ ((inL (h 94 ((10 * v1) + v4))) ∧ ((inL v2) ∧ ((((h 94 ((10 * v1) + v4)) ≠ v2) → (L_X12_nameOf_3 w v1 v2 (v4 + 1) h K)) ∧ (¬ ((h 94 ((10 * v1) + v4)) ≠ v2) → (K v4 h))))))))))) : L_X12_nameOf_3 w v1 v2 v4 h K := by
  unfold L_X12_nameOf_3
  refine J_iload 5 rfl 4 3 rfl (D_X12_nameOf_0.at 2 rfl) ?_
  refine J_aload_n 6 rfl 0 0 rfl ⟨by decide, by decide⟩ (D_X12_nameOf_0.at 3 rfl) ?_
  refine J_getF (ov := 93) (dd := 1025) 9 rfl fl_12_87 rfl (by decide) rfl ob_68 (Ob.lt ob_68) (D_X12_nameOf_0.at 4 rfl) ?_
  refine J_iload_n 10 rfl 1 1 rfl (D_X12_nameOf_0.at 5 rfl) ?_
  obtain ⟨s1, T⟩ := T
  refine J_iald 11 rfl ar_93 (Ar.lt ar_93) s1 (D_X12_nameOf_0.at 6 rfl) ?_
  obtain ⟨s2, T⟩ := T
  obtain ⟨s3, T⟩ := T
  refine J_icmp_ge 14 rfl 40 s2 s3 (D_X12_nameOf_0.at 7 rfl) (by decide) (fun c8 => ?_) (fun c8 => ?_)
  · replace T := T.1 c8
    refine J_iconst 41 rfl (D_X12_nameOf_0.at 23 rfl) ?_
    exact J_iret rfl (D_X12_nameOf_0.at 24 rfl) T
  replace T := T.2 c8
  refine J_aload_n 15 rfl 0 0 rfl ⟨by decide, by decide⟩ (D_X12_nameOf_0.at 8 rfl) ?_
  refine J_getF (ov := 94) (dd := 1026) 18 rfl fl_12_90 rfl (by decide) rfl ob_68 (Ob.lt ob_68) (D_X12_nameOf_0.at 9 rfl) ?_
  refine J_bipush 20 rfl ⟨by decide, by decide⟩ (D_X12_nameOf_0.at 10 rfl) ?_
  refine J_iload_n 21 rfl 1 1 rfl (D_X12_nameOf_0.at 11 rfl) ?_
  refine J_imul 22 rfl (D_X12_nameOf_0.at 12 rfl) ?_
  refine J_iload 24 rfl 4 3 rfl (D_X12_nameOf_0.at 13 rfl) ?_
  refine J_iadd 25 rfl (D_X12_nameOf_0.at 14 rfl) ?_
  obtain ⟨s4, T⟩ := T
  refine J_lald 26 rfl ar_94 (Ar.lt ar_94) s4 (D_X12_nameOf_0.at 15 rfl) ?_
  refine J_lload_n 27 rfl 2 2 rfl (D_X12_nameOf_0.at 16 rfl) ?_
  obtain ⟨s5, T⟩ := T
  obtain ⟨s6, T⟩ := T
  refine J_lcmp_ne 31 rfl 34 s5 s6 (D_X12_nameOf_0.at 17 rfl) (D_X12_nameOf_0.at 18 rfl) (by decide) (fun c7 => ?_) (fun c7 => ?_)
  · replace T := T.1 c7
    refine J_iinc (v := (v4 + 1)) (lv' := [(4, vI (v4 + 1)), (0, vR 68), (1, vI v1), (2, vL v2)]) 37 rfl 4 3 1 rfl rfl (by decide) rfl (D_X12_nameOf_0.at 21 rfl) ?_
    refine J_goto 3 (D_X12_nameOf_0.at 22 rfl) (by decide) ?_
    exact J_sub (lv' := [(0, vR 68), (1, vI v1), (2, vL v2), (4, vI (v4 + 1))]) [1, 2, 3, 0] rfl T
  replace T := T.2 c7
  refine J_iload 33 rfl 4 3 rfl (D_X12_nameOf_0.at 19 rfl) ?_
  exact J_iret rfl (D_X12_nameOf_0.at 20 rfl) T
theorem c_X12_code {w : Wd} {a1 : Int} {h : Hp} {K : Int → Hp → Prop} (T : (0 ≤ (0 + (h 68 44)) ∧ (0 + (h 68 44)) < 3200) ∧ (∀ h2 : Hp, h2 = hu h 100 (0 + (h 68 44)) a1 → ∀ h4 : Hp, h4 = hu h2 68 44 ((h2 68 44) + 1) → K 0 h4)) : C_X12_code w a1 h K := by
  refine CGm_of2 (by decide) (by decide) trivial (Nat.le_of_ble_eq_true rfl) ?_
  refine J_aload_n 1 rfl 0 0 rfl ⟨by decide, by decide⟩ (D_X12_code_0.at 0 rfl) ?_
  refine J_getF (ov := 100) (dd := 1032) 4 rfl fl_12_109 rfl (by decide) rfl ob_68 (Ob.lt ob_68) (D_X12_code_0.at 1 rfl) ?_
  refine J_iconst 5 rfl (D_X12_code_0.at 2 rfl) ?_
  refine J_aload_n 6 rfl 0 0 rfl ⟨by decide, by decide⟩ (D_X12_code_0.at 3 rfl) ?_
  refine J_getI (z := (h 68 44)) 9 rfl fl_12_312 rfl ob_68 (Ob.lt ob_68) (D_X12_code_0.at 4 rfl) rfl ?_
  refine J_iadd 10 rfl (D_X12_code_0.at 5 rfl) ?_
  refine J_iload_n 11 rfl 1 1 rfl (D_X12_code_0.at 6 rfl) ?_
  obtain ⟨s1, T⟩ := T
  refine J_iastH 12 rfl ar_100 (Ar.lt ar_100) s1 trivial (D_X12_code_0.at 7 rfl) (fun h2 e3 => ?_)
  replace T := T h2 e3
  refine J_aload_n 13 rfl 0 0 rfl ⟨by decide, by decide⟩ (D_X12_code_0.at 8 rfl) ?_
  refine J_dup 14 rfl rfl (D_X12_code_0.at 9 rfl) ?_
  refine J_getI (z := (h2 68 44)) 17 rfl fl_12_312 rfl ob_68 (Ob.lt ob_68) (D_X12_code_0.at 10 rfl) rfl ?_
  refine J_iconst 18 rfl (D_X12_code_0.at 11 rfl) ?_
  refine J_iadd 19 rfl (D_X12_code_0.at 12 rfl) ?_
  refine J_putI 22 rfl fl_12_312 rfl rfl ob_68 (Ob.lt ob_68) (D_X12_code_0.at 13 rfl) (fun h4 e5 => ?_)
  replace T := T h4 e5
  exact J_vret rfl (D_X12_code_0.at 14 rfl) T
theorem c_X12_isMark {w : Wd} {a1 : Int} {h : Hp} {K : Int → Hp → Prop} (T : (inR a1) ∧ (((a1 < 20) → (K 0 h)) ∧ (¬ (a1 < 20) → ((inR a1) ∧ (((a1 > 24) → (K 0 h)) ∧ (¬ (a1 > 24) → (K 1 h))))))) : C_X12_isMark w a1 h K := by
  refine CGm_of2 (by decide) (by decide) trivial (Nat.le_of_ble_eq_true rfl) ?_
  refine J_iload_n 1 rfl 1 1 rfl (D_X12_isMark_0.at 0 rfl) ?_
  refine J_bipush 3 rfl ⟨by decide, by decide⟩ (D_X12_isMark_0.at 1 rfl) ?_
  obtain ⟨s1, T⟩ := T
  refine J_icmp_lt 6 rfl 16 s1 ⟨by decide, by decide⟩ (D_X12_isMark_0.at 2 rfl) (by decide) (fun c4 => ?_) (fun c4 => ?_)
  · replace T := T.1 c4
    refine J_iconst 17 rfl (D_X12_isMark_0.at 8 rfl) ?_
    exact J_zret rfl (Or.inl rfl) (D_X12_isMark_0.at 9 rfl) T
  replace T := T.2 c4
  refine J_iload_n 7 rfl 1 1 rfl (D_X12_isMark_0.at 3 rfl) ?_
  refine J_bipush 9 rfl ⟨by decide, by decide⟩ (D_X12_isMark_0.at 4 rfl) ?_
  obtain ⟨s2, T⟩ := T
  refine J_icmp_gt 12 rfl 16 s2 ⟨by decide, by decide⟩ (D_X12_isMark_0.at 5 rfl) (by decide) (fun c3 => ?_) (fun c3 => ?_)
  · replace T := T.1 c3
    refine J_iconst 17 rfl (D_X12_isMark_0.at 8 rfl) ?_
    exact J_zret rfl (Or.inl rfl) (D_X12_isMark_0.at 9 rfl) T
  replace T := T.2 c3
  refine J_iconst 13 rfl (D_X12_isMark_0.at 6 rfl) ?_
  refine J_goto 17 (D_X12_isMark_0.at 7 rfl) (by decide) ?_
  exact J_zret rfl (Or.inr rfl) (D_X12_isMark_0.at 9 rfl) T
theorem c_X12_isOn {w : Wd} {a1 : Int} {h : Hp} {K : Int → Hp → Prop} (T : (inR (h 68 46)) ∧ ((((h 68 46) ≤ 0) → (K 0 h)) ∧ (¬ ((h 68 46) ≤ 0) → ((0 ≤ ((h 68 46) - 1) ∧ ((h 68 46) - 1) < 1700) ∧ ((inR (h 101 ((h 68 46) - 1))) ∧ ((inR a1) ∧ ((((h 101 ((h 68 46) - 1)) ≠ a1) → (K 0 h)) ∧ (¬ ((h 101 ((h 68 46) - 1)) ≠ a1) → (K 1 h))))))))) : C_X12_isOn w a1 h K := by
  refine CGm_of2 (by decide) (by decide) trivial (Nat.le_of_ble_eq_true rfl) ?_
  refine J_aload_n 1 rfl 0 0 rfl ⟨by decide, by decide⟩ (D_X12_isOn_0.at 0 rfl) ?_
  refine J_getI (z := (h 68 46)) 4 rfl fl_12_315 rfl ob_68 (Ob.lt ob_68) (D_X12_isOn_0.at 1 rfl) rfl ?_
  obtain ⟨s1, T⟩ := T
  refine J_if_le 7 rfl 26 s1 (D_X12_isOn_0.at 2 rfl) (by decide) (fun c6 => ?_) (fun c6 => ?_)
  · replace T := T.1 c6
    refine J_iconst 27 rfl (D_X12_isOn_0.at 14 rfl) ?_
    exact J_zret rfl (Or.inl rfl) (D_X12_isOn_0.at 15 rfl) T
  replace T := T.2 c6
  refine J_aload_n 8 rfl 0 0 rfl ⟨by decide, by decide⟩ (D_X12_isOn_0.at 3 rfl) ?_
  refine J_getF (ov := 101) (dd := 1033) 11 rfl fl_12_112 rfl (by decide) rfl ob_68 (Ob.lt ob_68) (D_X12_isOn_0.at 4 rfl) ?_
  refine J_aload_n 12 rfl 0 0 rfl ⟨by decide, by decide⟩ (D_X12_isOn_0.at 5 rfl) ?_
  refine J_getI (z := (h 68 46)) 15 rfl fl_12_315 rfl ob_68 (Ob.lt ob_68) (D_X12_isOn_0.at 6 rfl) rfl ?_
  refine J_iconst 16 rfl (D_X12_isOn_0.at 7 rfl) ?_
  refine J_isub 17 rfl (D_X12_isOn_0.at 8 rfl) ?_
  obtain ⟨s2, T⟩ := T
  refine J_iald 18 rfl ar_101 (Ar.lt ar_101) s2 (D_X12_isOn_0.at 9 rfl) ?_
  refine J_iload_n 19 rfl 1 1 rfl (D_X12_isOn_0.at 10 rfl) ?_
  obtain ⟨s3, T⟩ := T
  obtain ⟨s4, T⟩ := T
  refine J_icmp_ne 22 rfl 26 s3 s4 (D_X12_isOn_0.at 11 rfl) (by decide) (fun c5 => ?_) (fun c5 => ?_)
  · replace T := T.1 c5
    refine J_iconst 27 rfl (D_X12_isOn_0.at 14 rfl) ?_
    exact J_zret rfl (Or.inl rfl) (D_X12_isOn_0.at 15 rfl) T
  replace T := T.2 c5
  refine J_iconst 23 rfl (D_X12_isOn_0.at 12 rfl) ?_
  refine J_goto 27 (D_X12_isOn_0.at 13 rfl) (by decide) ?_
  exact J_zret rfl (Or.inr rfl) (D_X12_isOn_0.at 15 rfl) T
theorem c_X12_stands {w : Wd} {h : Hp} {K : Int → Hp → Prop} (T : ∀ h1 : Hp, h1 = hu h 68 36 (h 68 35) → L_X12_stands_10 w 0 h1 K) : C_X12_stands w h K := by
  refine CGm_of2 (by decide) (by decide) trivial (Nat.le_of_ble_eq_true rfl) ?_
  refine J_aload_n 1 rfl 0 0 rfl ⟨by decide, by decide⟩ (D_X12_stands_0.at 0 rfl) ?_
  refine J_aload_n 2 rfl 0 0 rfl ⟨by decide, by decide⟩ (D_X12_stands_0.at 1 rfl) ?_
  refine J_getI (z := (h 68 35)) 5 rfl fl_12_305 rfl ob_68 (Ob.lt ob_68) (D_X12_stands_0.at 2 rfl) rfl ?_
  refine J_putI 8 rfl fl_12_356 rfl rfl ob_68 (Ob.lt ob_68) (D_X12_stands_0.at 3 rfl) (fun h1 e2 => ?_)
  replace T := T h1 e2
  refine J_iconst 9 rfl (D_X12_stands_0.at 4 rfl) ?_
  refine J_istore_n (lv' := [(1, vI 0), (0, vR 68)]) 10 rfl 1 (by decide) rfl (D_X12_stands_0.at 5 rfl) ?_
  exact J_sub (lv' := [(0, vR 68), (1, vI 0)]) [1, 0] rfl T
theorem l_X12_stands_10 {w : Wd} {v1 : Int} {h : Hp} {K : Int → Hp → Prop} (T : (inR v1) ∧ (((v1 ≥ 3) → (L_X12_stands_51 w 0 h K)) ∧ (¬ (v1 ≥ 3) → ((0 ≤ v1 ∧ v1 < 6) ∧ ((0 ≤ (3 + v1) ∧ (3 + v1) < 6) ∧ (∀ h6 : Hp, h6 = hu h 93 (3 + v1) (h 93 v1) → (0 ≤ v1 ∧ v1 < 6) ∧ ((0 ≤ (3 + v1) ∧ (3 + v1) < 6) ∧ (∀ h10 : Hp, h10 = hu h6 97 (3 + v1) (h6 97 v1) → L_X12_stands_10 w (v1 + 1) h10 K)))))))) : L_X12_stands_10 w v1 h K := by
  unfold L_X12_stands_10
  refine J_iload_n 11 rfl 1 1 rfl (D_X12_stands_0.at 6 rfl) ?_
  refine J_iconst 12 rfl (D_X12_stands_0.at 7 rfl) ?_
  obtain ⟨s3, T⟩ := T
  refine J_icmp_ge 15 rfl 49 s3 ⟨by decide, by decide⟩ (D_X12_stands_0.at 8 rfl) (by decide) (fun c12 => ?_) (fun c12 => ?_)
  · replace T := T.1 c12
    refine J_iconst 50 rfl (D_X12_stands_0.at 31 rfl) ?_
    refine J_istore_n (lv' := [(1, vI 0), (0, vR 68)]) 51 rfl 1 (by decide) rfl (D_X12_stands_0.at 32 rfl) ?_
    exact J_sub (lv' := [(0, vR 68), (1, vI 0)]) [1, 0] rfl T
  replace T := T.2 c12
  refine J_aload_n 16 rfl 0 0 rfl ⟨by decide, by decide⟩ (D_X12_stands_0.at 9 rfl) ?_
  refine J_getF (ov := 93) (dd := 1025) 19 rfl fl_12_87 rfl (by decide) rfl ob_68 (Ob.lt ob_68) (D_X12_stands_0.at 10 rfl) ?_
  refine J_iconst 20 rfl (D_X12_stands_0.at 11 rfl) ?_
  refine J_iload_n 21 rfl 1 1 rfl (D_X12_stands_0.at 12 rfl) ?_
  refine J_iadd 22 rfl (D_X12_stands_0.at 13 rfl) ?_
  refine J_aload_n 23 rfl 0 0 rfl ⟨by decide, by decide⟩ (D_X12_stands_0.at 14 rfl) ?_
  refine J_getF (ov := 93) (dd := 1025) 26 rfl fl_12_87 rfl (by decide) rfl ob_68 (Ob.lt ob_68) (D_X12_stands_0.at 15 rfl) ?_
  refine J_iload_n 27 rfl 1 1 rfl (D_X12_stands_0.at 16 rfl) ?_
  obtain ⟨s4, T⟩ := T
  refine J_iald 28 rfl ar_93 (Ar.lt ar_93) s4 (D_X12_stands_0.at 17 rfl) ?_
  obtain ⟨s5, T⟩ := T
  refine J_iastH 29 rfl ar_93 (Ar.lt ar_93) s5 trivial (D_X12_stands_0.at 18 rfl) (fun h6 e7 => ?_)
  replace T := T h6 e7
  refine J_aload_n 30 rfl 0 0 rfl ⟨by decide, by decide⟩ (D_X12_stands_0.at 19 rfl) ?_
  refine J_getF (ov := 97) (dd := 1029) 33 rfl fl_12_100 rfl (by decide) rfl ob_68 (Ob.lt ob_68) (D_X12_stands_0.at 20 rfl) ?_
  refine J_iconst 34 rfl (D_X12_stands_0.at 21 rfl) ?_
  refine J_iload_n 35 rfl 1 1 rfl (D_X12_stands_0.at 22 rfl) ?_
  refine J_iadd 36 rfl (D_X12_stands_0.at 23 rfl) ?_
  refine J_aload_n 37 rfl 0 0 rfl ⟨by decide, by decide⟩ (D_X12_stands_0.at 24 rfl) ?_
  refine J_getF (ov := 97) (dd := 1029) 40 rfl fl_12_100 rfl (by decide) rfl ob_68 (Ob.lt ob_68) (D_X12_stands_0.at 25 rfl) ?_
  refine J_iload_n 41 rfl 1 1 rfl (D_X12_stands_0.at 26 rfl) ?_
  obtain ⟨s8, T⟩ := T
  refine J_iald 42 rfl ar_97 (Ar.lt ar_97) s8 (D_X12_stands_0.at 27 rfl) ?_
  obtain ⟨s9, T⟩ := T
  refine J_iastH 43 rfl ar_97 (Ar.lt ar_97) s9 trivial (D_X12_stands_0.at 28 rfl) (fun h10 e11 => ?_)
  replace T := T h10 e11
  refine J_iinc (v := (v1 + 1)) (lv' := [(1, vI (v1 + 1)), (0, vR 68)]) 46 rfl 1 1 1 rfl rfl (by decide) rfl (D_X12_stands_0.at 29 rfl) ?_
  refine J_goto 10 (D_X12_stands_0.at 30 rfl) (by decide) ?_
  exact J_sub (lv' := [(0, vR 68), (1, vI (v1 + 1))]) [1, 0] rfl T
theorem l_X12_stands_51 {w : Wd} {v1 : Int} {h : Hp} {K : Int → Hp → Prop} (T : (inR v1) ∧ (((v1 ≥ 30) → (L_X12_stands_80 w 0 h K)) ∧ (¬ (v1 ≥ 30) → ((0 ≤ v1 ∧ v1 < 60) ∧ ((0 ≤ (30 + v1) ∧ (30 + v1) < 60) ∧ (∀ h16 : Hp, h16 = hu h 94 (30 + v1) (h 94 v1) → L_X12_stands_51 w (v1 + 1) h16 K)))))) : L_X12_stands_51 w v1 h K := by
  unfold L_X12_stands_51
  refine J_iload_n 52 rfl 1 1 rfl (D_X12_stands_0.at 33 rfl) ?_
  refine J_bipush 54 rfl ⟨by decide, by decide⟩ (D_X12_stands_0.at 34 rfl) ?_
  obtain ⟨s13, T⟩ := T
  refine J_icmp_ge 57 rfl 78 s13 ⟨by decide, by decide⟩ (D_X12_stands_0.at 35 rfl) (by decide) (fun c18 => ?_) (fun c18 => ?_)
  · replace T := T.1 c18
    refine J_iconst 79 rfl (D_X12_stands_1.at 0 rfl) ?_
    refine J_istore_n (lv' := [(1, vI 0), (0, vR 68)]) 80 rfl 1 (by decide) rfl (D_X12_stands_1.at 1 rfl) ?_
    exact J_sub (lv' := [(0, vR 68), (1, vI 0)]) [1, 0] rfl T
  replace T := T.2 c18
  refine J_aload_n 58 rfl 0 0 rfl ⟨by decide, by decide⟩ (D_X12_stands_0.at 36 rfl) ?_
  refine J_getF (ov := 94) (dd := 1026) 61 rfl fl_12_90 rfl (by decide) rfl ob_68 (Ob.lt ob_68) (D_X12_stands_0.at 37 rfl) ?_
  refine J_bipush 63 rfl ⟨by decide, by decide⟩ (D_X12_stands_0.at 38 rfl) ?_
  refine J_iload_n 64 rfl 1 1 rfl (D_X12_stands_0.at 39 rfl) ?_
  refine J_iadd 65 rfl (D_X12_stands_0.at 40 rfl) ?_
  refine J_aload_n 66 rfl 0 0 rfl ⟨by decide, by decide⟩ (D_X12_stands_0.at 41 rfl) ?_
  refine J_getF (ov := 94) (dd := 1026) 69 rfl fl_12_90 rfl (by decide) rfl ob_68 (Ob.lt ob_68) (D_X12_stands_0.at 42 rfl) ?_
  refine J_iload_n 70 rfl 1 1 rfl (D_X12_stands_0.at 43 rfl) ?_
  obtain ⟨s14, T⟩ := T
  refine J_lald 71 rfl ar_94 (Ar.lt ar_94) s14 (D_X12_stands_0.at 44 rfl) ?_
  obtain ⟨s15, T⟩ := T
  refine J_lastH 72 rfl ar_94 (Ar.lt ar_94) s15 trivial (D_X12_stands_0.at 45 rfl) (fun h16 e17 => ?_)
  replace T := T h16 e17
  refine J_iinc (v := (v1 + 1)) (lv' := [(1, vI (v1 + 1)), (0, vR 68)]) 75 rfl 1 1 1 rfl rfl (by decide) rfl (D_X12_stands_0.at 46 rfl) ?_
  refine J_goto 51 (D_X12_stands_0.at 47 rfl) (by decide) ?_
  exact J_sub (lv' := [(0, vR 68), (1, vI (v1 + 1))]) [1, 0] rfl T
theorem l_X12_stands_80 {w : Wd} {v1 : Int} {h : Hp} {K : Int → Hp → Prop} (T : (inR v1) ∧ (((v1 ≥ 8) → (L_X12_stands_109 w 0 h K)) ∧ (¬ (v1 ≥ 8) → ((0 ≤ v1 ∧ v1 < 16) ∧ ((0 ≤ (8 + v1) ∧ (8 + v1) < 16) ∧ (∀ h22 : Hp, h22 = hu h 95 (8 + v1) (h 95 v1) → L_X12_stands_80 w (v1 + 1) h22 K)))))) : L_X12_stands_80 w v1 h K := by
  unfold L_X12_stands_80
  refine J_iload_n 81 rfl 1 1 rfl (D_X12_stands_1.at 2 rfl) ?_
  refine J_bipush 83 rfl ⟨by decide, by decide⟩ (D_X12_stands_1.at 3 rfl) ?_
  obtain ⟨s19, T⟩ := T
  refine J_icmp_ge 86 rfl 107 s19 ⟨by decide, by decide⟩ (D_X12_stands_1.at 4 rfl) (by decide) (fun c24 => ?_) (fun c24 => ?_)
  · replace T := T.1 c24
    refine J_iconst 108 rfl (D_X12_stands_1.at 17 rfl) ?_
    refine J_istore_n (lv' := [(1, vI 0), (0, vR 68)]) 109 rfl 1 (by decide) rfl (D_X12_stands_1.at 18 rfl) ?_
    exact J_sub (lv' := [(0, vR 68), (1, vI 0)]) [1, 0] rfl T
  replace T := T.2 c24
  refine J_aload_n 87 rfl 0 0 rfl ⟨by decide, by decide⟩ (D_X12_stands_1.at 5 rfl) ?_
  refine J_getF (ov := 95) (dd := 1027) 90 rfl fl_12_94 rfl (by decide) rfl ob_68 (Ob.lt ob_68) (D_X12_stands_1.at 6 rfl) ?_
  refine J_bipush 92 rfl ⟨by decide, by decide⟩ (D_X12_stands_1.at 7 rfl) ?_
  refine J_iload_n 93 rfl 1 1 rfl (D_X12_stands_1.at 8 rfl) ?_
  refine J_iadd 94 rfl (D_X12_stands_1.at 9 rfl) ?_
  refine J_aload_n 95 rfl 0 0 rfl ⟨by decide, by decide⟩ (D_X12_stands_1.at 10 rfl) ?_
  refine J_getF (ov := 95) (dd := 1027) 98 rfl fl_12_94 rfl (by decide) rfl ob_68 (Ob.lt ob_68) (D_X12_stands_1.at 11 rfl) ?_
  refine J_iload_n 99 rfl 1 1 rfl (D_X12_stands_1.at 12 rfl) ?_
  obtain ⟨s20, T⟩ := T
  refine J_iald 100 rfl ar_95 (Ar.lt ar_95) s20 (D_X12_stands_1.at 13 rfl) ?_
  obtain ⟨s21, T⟩ := T
  refine J_iastH 101 rfl ar_95 (Ar.lt ar_95) s21 trivial (D_X12_stands_1.at 14 rfl) (fun h22 e23 => ?_)
  replace T := T h22 e23
  refine J_iinc (v := (v1 + 1)) (lv' := [(1, vI (v1 + 1)), (0, vR 68)]) 104 rfl 1 1 1 rfl rfl (by decide) rfl (D_X12_stands_1.at 15 rfl) ?_
  refine J_goto 80 (D_X12_stands_1.at 16 rfl) (by decide) ?_
  exact J_sub (lv' := [(0, vR 68), (1, vI (v1 + 1))]) [1, 0] rfl T
theorem l_X12_stands_109 {w : Wd} {v1 : Int} {h : Hp} {K : Int → Hp → Prop} (T : (inR v1) ∧ (((v1 ≥ 50) → (L_X12_stands_138 w 0 h K)) ∧ (¬ (v1 ≥ 50) → ((0 ≤ v1 ∧ v1 < 100) ∧ ((0 ≤ (50 + v1) ∧ (50 + v1) < 100) ∧ (∀ h28 : Hp, h28 = hu h 96 (50 + v1) (h 96 v1) → L_X12_stands_109 w (v1 + 1) h28 K)))))) : L_X12_stands_109 w v1 h K := by
  unfold L_X12_stands_109
  refine J_iload_n 110 rfl 1 1 rfl (D_X12_stands_1.at 19 rfl) ?_
  refine J_bipush 112 rfl ⟨by decide, by decide⟩ (D_X12_stands_1.at 20 rfl) ?_
  obtain ⟨s25, T⟩ := T
  refine J_icmp_ge 115 rfl 136 s25 ⟨by decide, by decide⟩ (D_X12_stands_1.at 21 rfl) (by decide) (fun c30 => ?_) (fun c30 => ?_)
  · replace T := T.1 c30
    refine J_iconst 137 rfl (D_X12_stands_1.at 34 rfl) ?_
    refine J_istore_n (lv' := [(1, vI 0), (0, vR 68)]) 138 rfl 1 (by decide) rfl (D_X12_stands_1.at 35 rfl) ?_
    exact J_sub (lv' := [(0, vR 68), (1, vI 0)]) [1, 0] rfl T
  replace T := T.2 c30
  refine J_aload_n 116 rfl 0 0 rfl ⟨by decide, by decide⟩ (D_X12_stands_1.at 22 rfl) ?_
  refine J_getF (ov := 96) (dd := 1028) 119 rfl fl_12_97 rfl (by decide) rfl ob_68 (Ob.lt ob_68) (D_X12_stands_1.at 23 rfl) ?_
  refine J_bipush 121 rfl ⟨by decide, by decide⟩ (D_X12_stands_1.at 24 rfl) ?_
  refine J_iload_n 122 rfl 1 1 rfl (D_X12_stands_1.at 25 rfl) ?_
  refine J_iadd 123 rfl (D_X12_stands_1.at 26 rfl) ?_
  refine J_aload_n 124 rfl 0 0 rfl ⟨by decide, by decide⟩ (D_X12_stands_1.at 27 rfl) ?_
  refine J_getF (ov := 96) (dd := 1028) 127 rfl fl_12_97 rfl (by decide) rfl ob_68 (Ob.lt ob_68) (D_X12_stands_1.at 28 rfl) ?_
  refine J_iload_n 128 rfl 1 1 rfl (D_X12_stands_1.at 29 rfl) ?_
  obtain ⟨s26, T⟩ := T
  refine J_iald 129 rfl ar_96 (Ar.lt ar_96) s26 (D_X12_stands_1.at 30 rfl) ?_
  obtain ⟨s27, T⟩ := T
  refine J_iastH 130 rfl ar_96 (Ar.lt ar_96) s27 trivial (D_X12_stands_1.at 31 rfl) (fun h28 e29 => ?_)
  replace T := T h28 e29
  refine J_iinc (v := (v1 + 1)) (lv' := [(1, vI (v1 + 1)), (0, vR 68)]) 133 rfl 1 1 1 rfl rfl (by decide) rfl (D_X12_stands_1.at 32 rfl) ?_
  refine J_goto 109 (D_X12_stands_1.at 33 rfl) (by decide) ?_
  exact J_sub (lv' := [(0, vR 68), (1, vI (v1 + 1))]) [1, 0] rfl T
theorem l_X12_stands_138 {w : Wd} {v1 : Int} {h : Hp} {K : Int → Hp → Prop} (T : (inR v1) ∧ (((v1 ≥ 2) → (L_X12_stands_179 w 0 h K)) ∧ (¬ (v1 ≥ 2) → ((0 ≤ v1 ∧ v1 < 4) ∧ ((0 ≤ (2 + v1) ∧ (2 + v1) < 4) ∧ (∀ h34 : Hp, h34 = hu h 98 (2 + v1) (h 98 v1) → (0 ≤ v1 ∧ v1 < 4) ∧ ((0 ≤ (2 + v1) ∧ (2 + v1) < 4) ∧ (∀ h38 : Hp, h38 = hu h34 99 (2 + v1) (h34 99 v1) → L_X12_stands_138 w (v1 + 1) h38 K)))))))) : L_X12_stands_138 w v1 h K := by
  unfold L_X12_stands_138
  refine J_iload_n 139 rfl 1 1 rfl (D_X12_stands_1.at 36 rfl) ?_
  refine J_iconst 140 rfl (D_X12_stands_1.at 37 rfl) ?_
  obtain ⟨s31, T⟩ := T
  refine J_icmp_ge 143 rfl 177 s31 ⟨by decide, by decide⟩ (D_X12_stands_1.at 38 rfl) (by decide) (fun c40 => ?_) (fun c40 => ?_)
  · replace T := T.1 c40
    refine J_iconst 178 rfl (D_X12_stands_2.at 13 rfl) ?_
    refine J_istore_n (lv' := [(1, vI 0), (0, vR 68)]) 179 rfl 1 (by decide) rfl (D_X12_stands_2.at 14 rfl) ?_
    exact J_sub (lv' := [(0, vR 68), (1, vI 0)]) [1, 0] rfl T
  replace T := T.2 c40
  refine J_aload_n 144 rfl 0 0 rfl ⟨by decide, by decide⟩ (D_X12_stands_1.at 39 rfl) ?_
  refine J_getF (ov := 98) (dd := 1030) 147 rfl fl_12_103 rfl (by decide) rfl ob_68 (Ob.lt ob_68) (D_X12_stands_1.at 40 rfl) ?_
  refine J_iconst 148 rfl (D_X12_stands_1.at 41 rfl) ?_
  refine J_iload_n 149 rfl 1 1 rfl (D_X12_stands_1.at 42 rfl) ?_
  refine J_iadd 150 rfl (D_X12_stands_1.at 43 rfl) ?_
  refine J_aload_n 151 rfl 0 0 rfl ⟨by decide, by decide⟩ (D_X12_stands_1.at 44 rfl) ?_
  refine J_getF (ov := 98) (dd := 1030) 154 rfl fl_12_103 rfl (by decide) rfl ob_68 (Ob.lt ob_68) (D_X12_stands_1.at 45 rfl) ?_
  refine J_iload_n 155 rfl 1 1 rfl (D_X12_stands_1.at 46 rfl) ?_
  obtain ⟨s32, T⟩ := T
  refine J_iald 156 rfl ar_98 (Ar.lt ar_98) s32 (D_X12_stands_1.at 47 rfl) ?_
  obtain ⟨s33, T⟩ := T
  refine J_iastH 157 rfl ar_98 (Ar.lt ar_98) s33 trivial (D_X12_stands_2.at 0 rfl) (fun h34 e35 => ?_)
  replace T := T h34 e35
  refine J_aload_n 158 rfl 0 0 rfl ⟨by decide, by decide⟩ (D_X12_stands_2.at 1 rfl) ?_
  refine J_getF (ov := 99) (dd := 1031) 161 rfl fl_12_106 rfl (by decide) rfl ob_68 (Ob.lt ob_68) (D_X12_stands_2.at 2 rfl) ?_
  refine J_iconst 162 rfl (D_X12_stands_2.at 3 rfl) ?_
  refine J_iload_n 163 rfl 1 1 rfl (D_X12_stands_2.at 4 rfl) ?_
  refine J_iadd 164 rfl (D_X12_stands_2.at 5 rfl) ?_
  refine J_aload_n 165 rfl 0 0 rfl ⟨by decide, by decide⟩ (D_X12_stands_2.at 6 rfl) ?_
  refine J_getF (ov := 99) (dd := 1031) 168 rfl fl_12_106 rfl (by decide) rfl ob_68 (Ob.lt ob_68) (D_X12_stands_2.at 7 rfl) ?_
  refine J_iload_n 169 rfl 1 1 rfl (D_X12_stands_2.at 8 rfl) ?_
  obtain ⟨s36, T⟩ := T
  refine J_iald 170 rfl ar_99 (Ar.lt ar_99) s36 (D_X12_stands_2.at 9 rfl) ?_
  obtain ⟨s37, T⟩ := T
  refine J_iastH 171 rfl ar_99 (Ar.lt ar_99) s37 trivial (D_X12_stands_2.at 10 rfl) (fun h38 e39 => ?_)
  replace T := T h38 e39
  refine J_iinc (v := (v1 + 1)) (lv' := [(1, vI (v1 + 1)), (0, vR 68)]) 174 rfl 1 1 1 rfl rfl (by decide) rfl (D_X12_stands_2.at 11 rfl) ?_
  refine J_goto 138 (D_X12_stands_2.at 12 rfl) (by decide) ?_
  exact J_sub (lv' := [(0, vR 68), (1, vI (v1 + 1))]) [1, 0] rfl T
theorem l_X12_stands_179 {w : Wd} {v1 : Int} {h : Hp} {K : Int → Hp → Prop} (T : (inR v1) ∧ ((inR (h 68 44)) ∧ (((v1 ≥ (h 68 44)) → (L_X12_stands_211 w 0 h K)) ∧ (¬ (v1 ≥ (h 68 44)) → ((0 ≤ v1 ∧ v1 < 3200) ∧ ((0 ≤ (1600 + v1) ∧ (1600 + v1) < 3200) ∧ (∀ h45 : Hp, h45 = hu h 100 (1600 + v1) (h 100 v1) → L_X12_stands_179 w (v1 + 1) h45 K))))))) : L_X12_stands_179 w v1 h K := by
  unfold L_X12_stands_179
  refine J_iload_n 180 rfl 1 1 rfl (D_X12_stands_2.at 15 rfl) ?_
  refine J_aload_n 181 rfl 0 0 rfl ⟨by decide, by decide⟩ (D_X12_stands_2.at 16 rfl) ?_
  refine J_getI (z := (h 68 44)) 184 rfl fl_12_312 rfl ob_68 (Ob.lt ob_68) (D_X12_stands_2.at 17 rfl) rfl ?_
  obtain ⟨s41, T⟩ := T
  obtain ⟨s42, T⟩ := T
  refine J_icmp_ge 187 rfl 209 s41 s42 (D_X12_stands_2.at 18 rfl) (by decide) (fun c47 => ?_) (fun c47 => ?_)
  · replace T := T.1 c47
    refine J_iconst 210 rfl (D_X12_stands_2.at 31 rfl) ?_
    refine J_istore_n (lv' := [(1, vI 0), (0, vR 68)]) 211 rfl 1 (by decide) rfl (D_X12_stands_2.at 32 rfl) ?_
    exact J_sub (lv' := [(0, vR 68), (1, vI 0)]) [1, 0] rfl T
  replace T := T.2 c47
  refine J_aload_n 188 rfl 0 0 rfl ⟨by decide, by decide⟩ (D_X12_stands_2.at 19 rfl) ?_
  refine J_getF (ov := 100) (dd := 1032) 191 rfl fl_12_109 rfl (by decide) rfl ob_68 (Ob.lt ob_68) (D_X12_stands_2.at 20 rfl) ?_
  refine J_sipush 194 rfl ⟨by decide, by decide⟩ (D_X12_stands_2.at 21 rfl) ?_
  refine J_iload_n 195 rfl 1 1 rfl (D_X12_stands_2.at 22 rfl) ?_
  refine J_iadd 196 rfl (D_X12_stands_2.at 23 rfl) ?_
  refine J_aload_n 197 rfl 0 0 rfl ⟨by decide, by decide⟩ (D_X12_stands_2.at 24 rfl) ?_
  refine J_getF (ov := 100) (dd := 1032) 200 rfl fl_12_109 rfl (by decide) rfl ob_68 (Ob.lt ob_68) (D_X12_stands_2.at 25 rfl) ?_
  refine J_iload_n 201 rfl 1 1 rfl (D_X12_stands_2.at 26 rfl) ?_
  obtain ⟨s43, T⟩ := T
  refine J_iald 202 rfl ar_100 (Ar.lt ar_100) s43 (D_X12_stands_2.at 27 rfl) ?_
  obtain ⟨s44, T⟩ := T
  refine J_iastH 203 rfl ar_100 (Ar.lt ar_100) s44 trivial (D_X12_stands_2.at 28 rfl) (fun h45 e46 => ?_)
  replace T := T h45 e46
  refine J_iinc (v := (v1 + 1)) (lv' := [(1, vI (v1 + 1)), (0, vR 68)]) 206 rfl 1 1 1 rfl rfl (by decide) rfl (D_X12_stands_2.at 29 rfl) ?_
  refine J_goto 179 (D_X12_stands_2.at 30 rfl) (by decide) ?_
  exact J_sub (lv' := [(0, vR 68), (1, vI (v1 + 1))]) [1, 0] rfl T
theorem l_X12_stands_211 {w : Wd} {v1 : Int} {h : Hp} {K : Int → Hp → Prop} (T : (inR v1) ∧ (((v1 ≥ 109) → (L_X12_stands_232 w 0 h K)) ∧ (¬ (v1 ≥ 109) → ((0 ≤ v1 ∧ v1 < 109) ∧ (∀ h50 : Hp, h50 = hu h 104 v1 0 → L_X12_stands_211 w (v1 + 1) h50 K))))) : L_X12_stands_211 w v1 h K := by
  unfold L_X12_stands_211
  refine J_iload_n 212 rfl 1 1 rfl (D_X12_stands_2.at 33 rfl) ?_
  refine J_bipush 214 rfl ⟨by decide, by decide⟩ (D_X12_stands_2.at 34 rfl) ?_
  obtain ⟨s48, T⟩ := T
  refine J_icmp_ge 217 rfl 230 s48 ⟨by decide, by decide⟩ (D_X12_stands_2.at 35 rfl) (by decide) (fun c52 => ?_) (fun c52 => ?_)
  · replace T := T.1 c52
    refine J_iconst 231 rfl (D_X12_stands_2.at 43 rfl) ?_
    refine J_istore_n (lv' := [(1, vI 0), (0, vR 68)]) 232 rfl 1 (by decide) rfl (D_X12_stands_2.at 44 rfl) ?_
    exact J_sub (lv' := [(0, vR 68), (1, vI 0)]) [1, 0] rfl T
  replace T := T.2 c52
  refine J_aload_n 218 rfl 0 0 rfl ⟨by decide, by decide⟩ (D_X12_stands_2.at 36 rfl) ?_
  refine J_getF (ov := 104) (dd := 1036) 221 rfl fl_12_121 rfl (by decide) rfl ob_68 (Ob.lt ob_68) (D_X12_stands_2.at 37 rfl) ?_
  refine J_iload_n 222 rfl 1 1 rfl (D_X12_stands_2.at 38 rfl) ?_
  refine J_iconst 223 rfl (D_X12_stands_2.at 39 rfl) ?_
  obtain ⟨s49, T⟩ := T
  refine J_iastH 224 rfl ar_104 (Ar.lt ar_104) s49 trivial (D_X12_stands_2.at 40 rfl) (fun h50 e51 => ?_)
  replace T := T h50 e51
  refine J_iinc (v := (v1 + 1)) (lv' := [(1, vI (v1 + 1)), (0, vR 68)]) 227 rfl 1 1 1 rfl rfl (by decide) rfl (D_X12_stands_2.at 41 rfl) ?_
  refine J_goto 211 (D_X12_stands_2.at 42 rfl) (by decide) ?_
  exact J_sub (lv' := [(0, vR 68), (1, vI (v1 + 1))]) [1, 0] rfl T
theorem l_X12_stands_232 {w : Wd} {v1 : Int} {h : Hp} {K : Int → Hp → Prop} (T : (inR v1) ∧ ((inR (h 93 2)) ∧ (((v1 ≥ (h 93 2)) → (∀ h55 : Hp, h55 = hu h 68 61 0 → ∀ h57 : Hp, h57 = hu h55 68 67 0 → K 0 h57)) ∧ (¬ (v1 ≥ (h 93 2)) → ((0 ≤ ((5 * v1) + 3) ∧ ((5 * v1) + 3) < 100) ∧ ((0 ≤ (9 + v1) ∧ (9 + v1) < 109) ∧ (∀ h61 : Hp, h61 = hu h 104 (9 + v1) (h 96 ((5 * v1) + 3)) → L_X12_stands_232 w (v1 + 1) h61 K))))))) : L_X12_stands_232 w v1 h K := by
  unfold L_X12_stands_232
  refine J_iload_n 233 rfl 1 1 rfl (D_X12_stands_2.at 45 rfl) ?_
  refine J_aload_n 234 rfl 0 0 rfl ⟨by decide, by decide⟩ (D_X12_stands_2.at 46 rfl) ?_
  refine J_getF (ov := 93) (dd := 1025) 237 rfl fl_12_87 rfl (by decide) rfl ob_68 (Ob.lt ob_68) (D_X12_stands_2.at 47 rfl) ?_
  refine J_iconst 238 rfl (D_X12_stands_3.at 0 rfl) ?_
  refine J_iald 239 rfl ar_93 (Ar.lt ar_93) ⟨by decide, by decide⟩ (D_X12_stands_3.at 1 rfl) ?_
  obtain ⟨s53, T⟩ := T
  obtain ⟨s54, T⟩ := T
  refine J_icmp_ge 242 rfl 267 s53 s54 (D_X12_stands_3.at 2 rfl) (by decide) (fun c63 => ?_) (fun c63 => ?_)
  · replace T := T.1 c63
    refine J_aload_n 268 rfl 0 0 rfl ⟨by decide, by decide⟩ (D_X12_stands_3.at 19 rfl) ?_
    refine J_iconst 269 rfl (D_X12_stands_3.at 20 rfl) ?_
    refine J_putI 272 rfl fl_12_359 rfl rfl ob_68 (Ob.lt ob_68) (D_X12_stands_3.at 21 rfl) (fun h55 e56 => ?_)
    replace T := T h55 e56
    refine J_aload_n 273 rfl 0 0 rfl ⟨by decide, by decide⟩ (D_X12_stands_3.at 22 rfl) ?_
    refine J_iconst 274 rfl (D_X12_stands_3.at 23 rfl) ?_
    refine J_putZ 277 rfl fl_12_362 rfl rfl (Or.inl rfl) ob_68 (Ob.lt ob_68) (D_X12_stands_3.at 24 rfl) (fun h57 e58 => ?_)
    replace T := T h57 e58
    exact J_vret rfl (D_X12_stands_3.at 25 rfl) T
  replace T := T.2 c63
  refine J_aload_n 243 rfl 0 0 rfl ⟨by decide, by decide⟩ (D_X12_stands_3.at 3 rfl) ?_
  refine J_getF (ov := 104) (dd := 1036) 246 rfl fl_12_121 rfl (by decide) rfl ob_68 (Ob.lt ob_68) (D_X12_stands_3.at 4 rfl) ?_
  refine J_bipush 248 rfl ⟨by decide, by decide⟩ (D_X12_stands_3.at 5 rfl) ?_
  refine J_iload_n 249 rfl 1 1 rfl (D_X12_stands_3.at 6 rfl) ?_
  refine J_iadd 250 rfl (D_X12_stands_3.at 7 rfl) ?_
  refine J_aload_n 251 rfl 0 0 rfl ⟨by decide, by decide⟩ (D_X12_stands_3.at 8 rfl) ?_
  refine J_getF (ov := 96) (dd := 1028) 254 rfl fl_12_97 rfl (by decide) rfl ob_68 (Ob.lt ob_68) (D_X12_stands_3.at 9 rfl) ?_
  refine J_iconst 255 rfl (D_X12_stands_3.at 10 rfl) ?_
  refine J_iload_n 256 rfl 1 1 rfl (D_X12_stands_3.at 11 rfl) ?_
  refine J_imul 257 rfl (D_X12_stands_3.at 12 rfl) ?_
  refine J_iconst 258 rfl (D_X12_stands_3.at 13 rfl) ?_
  refine J_iadd 259 rfl (D_X12_stands_3.at 14 rfl) ?_
  obtain ⟨s59, T⟩ := T
  refine J_iald 260 rfl ar_96 (Ar.lt ar_96) s59 (D_X12_stands_3.at 15 rfl) ?_
  obtain ⟨s60, T⟩ := T
  refine J_iastH 261 rfl ar_104 (Ar.lt ar_104) s60 trivial (D_X12_stands_3.at 16 rfl) (fun h61 e62 => ?_)
  replace T := T h61 e62
  refine J_iinc (v := (v1 + 1)) (lv' := [(1, vI (v1 + 1)), (0, vR 68)]) 264 rfl 1 1 1 rfl rfl (by decide) rfl (D_X12_stands_3.at 17 rfl) ?_
  refine J_goto 232 (D_X12_stands_3.at 18 rfl) (by decide) ?_
  exact J_sub (lv' := [(0, vR 68), (1, vI (v1 + 1))]) [1, 0] rfl T
theorem c_X12_fault {w : Wd} {a1 : Int} {h : Hp} {K : Int → Hp → Prop} (T : (inR a1) ∧ (((a1 ≠ 0) → ((inR a1) ∧ (((a1 ≠ 1) → (K (-1) h)) ∧ (¬ (a1 ≠ 1) → (K (h 68 8) h))))) ∧ (¬ (a1 ≠ 0) → (K (h 68 7) h)))) : C_X12_fault w a1 h K := by
  refine CGm_of2 (by decide) (by decide) trivial (Nat.le_of_ble_eq_true rfl) ?_
  refine J_iload_n 1 rfl 1 1 rfl (D_X12_fault_0.at 0 rfl) ?_
  obtain ⟨s1, T⟩ := T
  refine J_if_ne 4 rfl 11 s1 (D_X12_fault_0.at 1 rfl) (by decide) (fun c4 => ?_) (fun c4 => ?_)
  · replace T := T.1 c4
    refine J_iload_n 12 rfl 1 1 rfl (D_X12_fault_0.at 5 rfl) ?_
    refine J_iconst 13 rfl (D_X12_fault_0.at 6 rfl) ?_
    obtain ⟨s2, T⟩ := T
    refine J_icmp_ne 16 rfl 23 s2 ⟨by decide, by decide⟩ (D_X12_fault_0.at 7 rfl) (by decide) (fun c3 => ?_) (fun c3 => ?_)
    · replace T := T.1 c3
      refine J_iconst 24 rfl (D_X12_fault_0.at 11 rfl) ?_
      exact J_iret rfl (D_X12_fault_0.at 12 rfl) T
    replace T := T.2 c3
    refine J_aload_n 17 rfl 0 0 rfl ⟨by decide, by decide⟩ (D_X12_fault_0.at 8 rfl) ?_
    refine J_getI (z := (h 68 8)) 20 rfl fl_12_13 rfl ob_68 (Ob.lt ob_68) (D_X12_fault_0.at 9 rfl) rfl ?_
    refine J_goto 24 (D_X12_fault_0.at 10 rfl) (by decide) ?_
    exact J_iret rfl (D_X12_fault_0.at 12 rfl) T
  replace T := T.2 c4
  refine J_aload_n 5 rfl 0 0 rfl ⟨by decide, by decide⟩ (D_X12_fault_0.at 2 rfl) ?_
  refine J_getI (z := (h 68 7)) 8 rfl fl_12_350 rfl ob_68 (Ob.lt ob_68) (D_X12_fault_0.at 3 rfl) rfl ?_
  refine J_goto 24 (D_X12_fault_0.at 4 rfl) (by decide) ?_
  exact J_iret rfl (D_X12_fault_0.at 12 rfl) T
theorem c_X12_ownerMany {w : Wd} {h : Hp} {K : Int → Hp → Prop} (T : K (h 93 3) h) : C_X12_ownerMany w h K := by
  refine CGm_of2 (by decide) (by decide) trivial (Nat.le_of_ble_eq_true rfl) ?_
  refine J_aload_n 1 rfl 0 0 rfl ⟨by decide, by decide⟩ (D_X12_ownerMany_0.at 0 rfl) ?_
  refine J_getF (ov := 93) (dd := 1025) 4 rfl fl_12_87 rfl (by decide) rfl ob_68 (Ob.lt ob_68) (D_X12_ownerMany_0.at 1 rfl) ?_
  refine J_iconst 5 rfl (D_X12_ownerMany_0.at 2 rfl) ?_
  refine J_iald 6 rfl ar_93 (Ar.lt ar_93) ⟨by decide, by decide⟩ (D_X12_ownerMany_0.at 3 rfl) ?_
  exact J_iret rfl (D_X12_ownerMany_0.at 4 rfl) T
theorem c_X12_colourMany {w : Wd} {h : Hp} {K : Int → Hp → Prop} (T : K (h 93 4) h) : C_X12_colourMany w h K := by
  refine CGm_of2 (by decide) (by decide) trivial (Nat.le_of_ble_eq_true rfl) ?_
  refine J_aload_n 1 rfl 0 0 rfl ⟨by decide, by decide⟩ (D_X12_colourMany_0.at 0 rfl) ?_
  refine J_getF (ov := 93) (dd := 1025) 4 rfl fl_12_87 rfl (by decide) rfl ob_68 (Ob.lt ob_68) (D_X12_colourMany_0.at 1 rfl) ?_
  refine J_iconst 5 rfl (D_X12_colourMany_0.at 2 rfl) ?_
  refine J_iald 6 rfl ar_93 (Ar.lt ar_93) ⟨by decide, by decide⟩ (D_X12_colourMany_0.at 3 rfl) ?_
  exact J_iret rfl (D_X12_colourMany_0.at 4 rfl) T
theorem c_X12_bankMany {w : Wd} {h : Hp} {K : Int → Hp → Prop} (T : K (h 93 5) h) : C_X12_bankMany w h K := by
  refine CGm_of2 (by decide) (by decide) trivial (Nat.le_of_ble_eq_true rfl) ?_
  refine J_aload_n 1 rfl 0 0 rfl ⟨by decide, by decide⟩ (D_X12_bankMany_0.at 0 rfl) ?_
  refine J_getF (ov := 93) (dd := 1025) 4 rfl fl_12_87 rfl (by decide) rfl ob_68 (Ob.lt ob_68) (D_X12_bankMany_0.at 1 rfl) ?_
  refine J_iconst 5 rfl (D_X12_bankMany_0.at 2 rfl) ?_
  refine J_iald 6 rfl ar_93 (Ar.lt ar_93) ⟨by decide, by decide⟩ (D_X12_bankMany_0.at 3 rfl) ?_
  exact J_iret rfl (D_X12_bankMany_0.at 4 rfl) T
theorem c_X12_settingOf {w : Wd} {a1 : Int} {h : Hp} {K : Int → Hp → Prop} (T : (0 ≤ (3 + a1) ∧ (3 + a1) < 6) ∧ (K (h 97 (3 + a1)) h)) : C_X12_settingOf w a1 h K := by
  refine CGm_of2 (by decide) (by decide) trivial (Nat.le_of_ble_eq_true rfl) ?_
  refine J_aload_n 1 rfl 0 0 rfl ⟨by decide, by decide⟩ (D_X12_settingOf_0.at 0 rfl) ?_
  refine J_getF (ov := 97) (dd := 1029) 4 rfl fl_12_100 rfl (by decide) rfl ob_68 (Ob.lt ob_68) (D_X12_settingOf_0.at 1 rfl) ?_
  refine J_iconst 5 rfl (D_X12_settingOf_0.at 2 rfl) ?_
  refine J_iload_n 6 rfl 1 1 rfl (D_X12_settingOf_0.at 3 rfl) ?_
  refine J_iadd 7 rfl (D_X12_settingOf_0.at 4 rfl) ?_
  obtain ⟨s1, T⟩ := T
  refine J_iald 8 rfl ar_97 (Ar.lt ar_97) s1 (D_X12_settingOf_0.at 5 rfl) ?_
  exact J_iret rfl (D_X12_settingOf_0.at 6 rfl) T
theorem c_X12_sumNow {w : Wd} {a1 a2 : Int} {h : Hp} {K : Int → Hp → Prop} (T : L_X12_sumNow_5 w a1 a2 0 a1 h K) : C_X12_sumNow w a1 a2 h K := by
  refine CGm_of2 (by decide) (by decide) trivial (Nat.le_of_ble_eq_true rfl) ?_
  refine J_iconst 1 rfl (D_X12_sumNow_0.at 0 rfl) ?_
  refine J_istore_n (lv' := [(3, vI 0), (0, vR 68), (1, vI a1), (2, vI a2)]) 2 rfl 3 (by decide) rfl (D_X12_sumNow_0.at 1 rfl) ?_
  refine J_iload_n 3 rfl 1 2 rfl (D_X12_sumNow_0.at 2 rfl) ?_
  refine J_istore (lv' := [(4, vI a1), (3, vI 0), (0, vR 68), (1, vI a1), (2, vI a2)]) 5 rfl 4 (by decide) rfl (D_X12_sumNow_0.at 3 rfl) ?_
  exact J_sub (lv' := [(0, vR 68), (1, vI a1), (2, vI a2), (3, vI 0), (4, vI a1)]) [2, 3, 4, 1, 0] rfl T
theorem l_X12_sumNow_5 {w : Wd} {v1 v2 v3 v4 : Int} {h : Hp} {K : Int → Hp → Prop} (T : (inR v4) ∧ ((inR (v1 + v2)) ∧ (((v4 ≥ (v1 + v2)) → (K v3 h)) ∧ (¬ (v4 ≥ (v1 + v2)) → ((0 ≤ v4 ∧ v4 < 109) ∧ (L_X12_sumNow_5 w v1 v2 (v3 + (h 104 v4)) (v4 + 1) h K)))))) : L_X12_sumNow_5 w v1 v2 v3 v4 h K := by
  unfold L_X12_sumNow_5
  refine J_iload 7 rfl 4 4 rfl (D_X12_sumNow_0.at 4 rfl) ?_
  refine J_iload_n 8 rfl 1 1 rfl (D_X12_sumNow_0.at 5 rfl) ?_
  refine J_iload_n 9 rfl 2 2 rfl (D_X12_sumNow_0.at 6 rfl) ?_
  refine J_iadd 10 rfl (D_X12_sumNow_0.at 7 rfl) ?_
  obtain ⟨s1, T⟩ := T
  obtain ⟨s2, T⟩ := T
  refine J_icmp_ge 13 rfl 29 s1 s2 (D_X12_sumNow_0.at 8 rfl) (by decide) (fun c4 => ?_) (fun c4 => ?_)
  · replace T := T.1 c4
    refine J_iload_n 30 rfl 3 3 rfl (D_X12_sumNow_0.at 18 rfl) ?_
    exact J_iret rfl (D_X12_sumNow_0.at 19 rfl) T
  replace T := T.2 c4
  refine J_iload_n 14 rfl 3 3 rfl (D_X12_sumNow_0.at 9 rfl) ?_
  refine J_aload_n 15 rfl 0 0 rfl ⟨by decide, by decide⟩ (D_X12_sumNow_0.at 10 rfl) ?_
  refine J_getF (ov := 104) (dd := 1036) 18 rfl fl_12_121 rfl (by decide) rfl ob_68 (Ob.lt ob_68) (D_X12_sumNow_0.at 11 rfl) ?_
  refine J_iload 20 rfl 4 4 rfl (D_X12_sumNow_0.at 12 rfl) ?_
  obtain ⟨s3, T⟩ := T
  refine J_iald 21 rfl ar_104 (Ar.lt ar_104) s3 (D_X12_sumNow_0.at 13 rfl) ?_
  refine J_iadd 22 rfl (D_X12_sumNow_0.at 14 rfl) ?_
  refine J_istore_n (lv' := [(3, vI (v3 + (h 104 v4))), (0, vR 68), (1, vI v1), (2, vI v2), (4, vI v4)]) 23 rfl 3 (by decide) rfl (D_X12_sumNow_0.at 15 rfl) ?_
  refine J_iinc (v := (v4 + 1)) (lv' := [(4, vI (v4 + 1)), (3, vI (v3 + (h 104 v4))), (0, vR 68), (1, vI v1), (2, vI v2)]) 26 rfl 4 4 1 rfl rfl (by decide) rfl (D_X12_sumNow_0.at 16 rfl) ?_
  refine J_goto 5 (D_X12_sumNow_0.at 17 rfl) (by decide) ?_
  exact J_sub (lv' := [(0, vR 68), (1, vI v1), (2, vI v2), (3, vI (v3 + (h 104 v4))), (4, vI (v4 + 1))]) [2, 3, 4, 1, 0] rfl T
theorem c_X12_bankOf {w : Wd} {a1 a2 : Int} {h : Hp} {K : Int → Hp → Prop} (T : (0 ≤ ((50 + (5 * a1)) + a2) ∧ ((50 + (5 * a1)) + a2) < 100) ∧ (K (h 96 ((50 + (5 * a1)) + a2)) h)) : C_X12_bankOf w a1 a2 h K := by
  refine CGm_of2 (by decide) (by decide) trivial (Nat.le_of_ble_eq_true rfl) ?_
  refine J_aload_n 1 rfl 0 0 rfl ⟨by decide, by decide⟩ (D_X12_bankOf_0.at 0 rfl) ?_
  refine J_getF (ov := 96) (dd := 1028) 4 rfl fl_12_97 rfl (by decide) rfl ob_68 (Ob.lt ob_68) (D_X12_bankOf_0.at 1 rfl) ?_
  refine J_bipush 6 rfl ⟨by decide, by decide⟩ (D_X12_bankOf_0.at 2 rfl) ?_
  refine J_iconst 7 rfl (D_X12_bankOf_0.at 3 rfl) ?_
  refine J_iload_n 8 rfl 1 1 rfl (D_X12_bankOf_0.at 4 rfl) ?_
  refine J_imul 9 rfl (D_X12_bankOf_0.at 5 rfl) ?_
  refine J_iadd 10 rfl (D_X12_bankOf_0.at 6 rfl) ?_
  refine J_iload_n 11 rfl 2 2 rfl (D_X12_bankOf_0.at 7 rfl) ?_
  refine J_iadd 12 rfl (D_X12_bankOf_0.at 8 rfl) ?_
  obtain ⟨s1, T⟩ := T
  refine J_iald 13 rfl ar_96 (Ar.lt ar_96) s1 (D_X12_bankOf_0.at 9 rfl) ?_
  exact J_iret rfl (D_X12_bankOf_0.at 10 rfl) T
theorem c_X12_liesIn {w : Wd} {a1 a2 : Int} {h : Hp} {K : Int → Hp → Prop} (T : (0 ≤ ((29 + (10 * a1)) + a2) ∧ ((29 + (10 * a1)) + a2) < 109) ∧ (K (h 104 ((29 + (10 * a1)) + a2)) h)) : C_X12_liesIn w a1 a2 h K := by
  refine CGm_of2 (by decide) (by decide) trivial (Nat.le_of_ble_eq_true rfl) ?_
  refine J_aload_n 1 rfl 0 0 rfl ⟨by decide, by decide⟩ (D_X12_liesIn_0.at 0 rfl) ?_
  refine J_getF (ov := 104) (dd := 1036) 4 rfl fl_12_121 rfl (by decide) rfl ob_68 (Ob.lt ob_68) (D_X12_liesIn_0.at 1 rfl) ?_
  refine J_bipush 6 rfl ⟨by decide, by decide⟩ (D_X12_liesIn_0.at 2 rfl) ?_
  refine J_bipush 8 rfl ⟨by decide, by decide⟩ (D_X12_liesIn_0.at 3 rfl) ?_
  refine J_iload_n 9 rfl 1 1 rfl (D_X12_liesIn_0.at 4 rfl) ?_
  refine J_imul 10 rfl (D_X12_liesIn_0.at 5 rfl) ?_
  refine J_iadd 11 rfl (D_X12_liesIn_0.at 6 rfl) ?_
  refine J_iload_n 12 rfl 2 2 rfl (D_X12_liesIn_0.at 7 rfl) ?_
  refine J_iadd 13 rfl (D_X12_liesIn_0.at 8 rfl) ?_
  obtain ⟨s1, T⟩ := T
  refine J_iald 14 rfl ar_104 (Ar.lt ar_104) s1 (D_X12_liesIn_0.at 9 rfl) ?_
  exact J_iret rfl (D_X12_liesIn_0.at 10 rfl) T
theorem c_X12_stonesAsNow {w : Wd} {h : Hp} {K : Int → Hp → Prop} (T : L_X12_stonesAsNow_2 w 0 h K) : C_X12_stonesAsNow w h K := by
  refine CGm_of2 (by decide) (by decide) trivial (Nat.le_of_ble_eq_true rfl) ?_
  refine J_iconst 1 rfl (D_X12_stonesAsNow_0.at 0 rfl) ?_
  refine J_istore_n (lv' := [(1, vI 0), (0, vR 68)]) 2 rfl 1 (by decide) rfl (D_X12_stonesAsNow_0.at 1 rfl) ?_
  exact J_sub (lv' := [(0, vR 68), (1, vI 0)]) [1, 0] rfl T
theorem l_X12_stonesAsNow_2 {w : Wd} {v1 : Int} {h : Hp} {K : Int → Hp → Prop} (T : (inR v1) ∧ (((v1 ≥ 8) → (K 0 h)) ∧ (¬ (v1 ≥ 8) → ((0 ≤ (1 + v1) ∧ (1 + v1) < 109) ∧ ((0 ≤ v1 ∧ v1 < 8) ∧ (∀ h4 : Hp, h4 = hu h 105 v1 (h 104 (1 + v1)) → L_X12_stonesAsNow_2 w (v1 + 1) h4 K)))))) : L_X12_stonesAsNow_2 w v1 h K := by
  unfold L_X12_stonesAsNow_2
  refine J_iload_n 3 rfl 1 1 rfl (D_X12_stonesAsNow_0.at 2 rfl) ?_
  refine J_bipush 5 rfl ⟨by decide, by decide⟩ (D_X12_stonesAsNow_0.at 3 rfl) ?_
  obtain ⟨s1, T⟩ := T
  refine J_icmp_ge 8 rfl 28 s1 ⟨by decide, by decide⟩ (D_X12_stonesAsNow_0.at 4 rfl) (by decide) (fun c6 => ?_) (fun c6 => ?_)
  · replace T := T.1 c6
    exact J_vret rfl (D_X12_stonesAsNow_0.at 17 rfl) T
  replace T := T.2 c6
  refine J_aload_n 9 rfl 0 0 rfl ⟨by decide, by decide⟩ (D_X12_stonesAsNow_0.at 5 rfl) ?_
  refine J_getF (ov := 105) (dd := 1037) 12 rfl fl_12_124 rfl (by decide) rfl ob_68 (Ob.lt ob_68) (D_X12_stonesAsNow_0.at 6 rfl) ?_
  refine J_iload_n 13 rfl 1 1 rfl (D_X12_stonesAsNow_0.at 7 rfl) ?_
  refine J_aload_n 14 rfl 0 0 rfl ⟨by decide, by decide⟩ (D_X12_stonesAsNow_0.at 8 rfl) ?_
  refine J_getF (ov := 104) (dd := 1036) 17 rfl fl_12_121 rfl (by decide) rfl ob_68 (Ob.lt ob_68) (D_X12_stonesAsNow_0.at 9 rfl) ?_
  refine J_iconst 18 rfl (D_X12_stonesAsNow_0.at 10 rfl) ?_
  refine J_iload_n 19 rfl 1 1 rfl (D_X12_stonesAsNow_0.at 11 rfl) ?_
  refine J_iadd 20 rfl (D_X12_stonesAsNow_0.at 12 rfl) ?_
  obtain ⟨s2, T⟩ := T
  refine J_iald 21 rfl ar_104 (Ar.lt ar_104) s2 (D_X12_stonesAsNow_0.at 13 rfl) ?_
  obtain ⟨s3, T⟩ := T
  refine J_iastH 22 rfl ar_105 (Ar.lt ar_105) s3 trivial (D_X12_stonesAsNow_0.at 14 rfl) (fun h4 e5 => ?_)
  replace T := T h4 e5
  refine J_iinc (v := (v1 + 1)) (lv' := [(1, vI (v1 + 1)), (0, vR 68)]) 25 rfl 1 1 1 rfl rfl (by decide) rfl (D_X12_stonesAsNow_0.at 15 rfl) ?_
  refine J_goto 2 (D_X12_stonesAsNow_0.at 16 rfl) (by decide) ?_
  exact J_sub (lv' := [(0, vR 68), (1, vI (v1 + 1))]) [1, 0] rfl T
theorem c_X12_flowOf {w : Wd} {a1 a2 : Int} {h : Hp} {K : Int → Hp → Prop} (T : (0 ≤ (8 + a1) ∧ (8 + a1) < 16) ∧ ((0 ≤ a1 ∧ a1 < 8) ∧ ((inR ((a2 + (h 95 (8 + a1))) - (3 * (h 105 a1)))) ∧ (((((a2 + (h 95 (8 + a1))) - (3 * (h 105 a1))) ≥ 0) → (K ((a2 + (h 95 (8 + a1))) - (3 * (h 105 a1))) h)) ∧ (¬ (((a2 + (h 95 (8 + a1))) - (3 * (h 105 a1))) ≥ 0) → (K 0 h)))))) : C_X12_flowOf w a1 a2 h K := by
  refine CGm_of2 (by decide) (by decide) trivial (Nat.le_of_ble_eq_true rfl) ?_
  refine J_iload_n 1 rfl 2 2 rfl (D_X12_flowOf_0.at 0 rfl) ?_
  refine J_aload_n 2 rfl 0 0 rfl ⟨by decide, by decide⟩ (D_X12_flowOf_0.at 1 rfl) ?_
  refine J_getF (ov := 95) (dd := 1027) 5 rfl fl_12_94 rfl (by decide) rfl ob_68 (Ob.lt ob_68) (D_X12_flowOf_0.at 2 rfl) ?_
  refine J_bipush 7 rfl ⟨by decide, by decide⟩ (D_X12_flowOf_0.at 3 rfl) ?_
  refine J_iload_n 8 rfl 1 1 rfl (D_X12_flowOf_0.at 4 rfl) ?_
  refine J_iadd 9 rfl (D_X12_flowOf_0.at 5 rfl) ?_
  obtain ⟨s1, T⟩ := T
  refine J_iald 10 rfl ar_95 (Ar.lt ar_95) s1 (D_X12_flowOf_0.at 6 rfl) ?_
  refine J_iadd 11 rfl (D_X12_flowOf_0.at 7 rfl) ?_
  refine J_iconst 12 rfl (D_X12_flowOf_0.at 8 rfl) ?_
  refine J_aload_n 13 rfl 0 0 rfl ⟨by decide, by decide⟩ (D_X12_flowOf_0.at 9 rfl) ?_
  refine J_getF (ov := 105) (dd := 1037) 16 rfl fl_12_124 rfl (by decide) rfl ob_68 (Ob.lt ob_68) (D_X12_flowOf_0.at 10 rfl) ?_
  refine J_iload_n 17 rfl 1 1 rfl (D_X12_flowOf_0.at 11 rfl) ?_
  obtain ⟨s2, T⟩ := T
  refine J_iald 18 rfl ar_105 (Ar.lt ar_105) s2 (D_X12_flowOf_0.at 12 rfl) ?_
  refine J_imul 19 rfl (D_X12_flowOf_0.at 13 rfl) ?_
  refine J_isub 20 rfl (D_X12_flowOf_0.at 14 rfl) ?_
  refine J_istore_n (lv' := [(3, vI ((a2 + (h 95 (8 + a1))) - (3 * (h 105 a1)))), (0, vR 68), (1, vI a1), (2, vI a2)]) 21 rfl 3 (by decide) rfl (D_X12_flowOf_0.at 15 rfl) ?_
  refine J_iload_n 22 rfl 3 0 rfl (D_X12_flowOf_0.at 16 rfl) ?_
  obtain ⟨s3, T⟩ := T
  refine J_if_ge 25 rfl 29 s3 (D_X12_flowOf_0.at 17 rfl) (by decide) (fun c4 => ?_) (fun c4 => ?_)
  · replace T := T.1 c4
    refine J_iload_n 30 rfl 3 0 rfl (D_X12_flowOf_0.at 20 rfl) ?_
    exact J_iret rfl (D_X12_flowOf_0.at 21 rfl) T
  replace T := T.2 c4
  refine J_iconst 26 rfl (D_X12_flowOf_0.at 18 rfl) ?_
  refine J_goto 30 (D_X12_flowOf_0.at 19 rfl) (by decide) ?_
  exact J_iret rfl (D_X12_flowOf_0.at 21 rfl) T
theorem c_X12_puts {w : Wd} {a1 : Int} {h : Hp} {K : Int → Hp → Prop} (T : (0 ≤ (h 68 50) ∧ (h 68 50) < 1700) ∧ (∀ h2 : Hp, h2 = hu h 102 (h 68 50) a1 → ∀ h4 : Hp, h4 = hu h2 68 50 ((h2 68 50) + 1) → K 0 h4)) : C_X12_puts w a1 h K := by
  refine CGm_of2 (by decide) (by decide) trivial (Nat.le_of_ble_eq_true rfl) ?_
  refine J_aload_n 1 rfl 0 0 rfl ⟨by decide, by decide⟩ (D_X12_puts_0.at 0 rfl) ?_
  refine J_getF (ov := 102) (dd := 1034) 4 rfl fl_12_115 rfl (by decide) rfl ob_68 (Ob.lt ob_68) (D_X12_puts_0.at 1 rfl) ?_
  refine J_aload_n 5 rfl 0 0 rfl ⟨by decide, by decide⟩ (D_X12_puts_0.at 2 rfl) ?_
  refine J_getI (z := (h 68 50)) 8 rfl fl_12_397 rfl ob_68 (Ob.lt ob_68) (D_X12_puts_0.at 3 rfl) rfl ?_
  refine J_lload_n 9 rfl 1 1 rfl (D_X12_puts_0.at 4 rfl) ?_
  obtain ⟨s1, T⟩ := T
  refine J_lastH 10 rfl ar_102 (Ar.lt ar_102) s1 trivial (D_X12_puts_0.at 5 rfl) (fun h2 e3 => ?_)
  replace T := T h2 e3
  refine J_aload_n 11 rfl 0 0 rfl ⟨by decide, by decide⟩ (D_X12_puts_0.at 6 rfl) ?_
  refine J_dup 12 rfl rfl (D_X12_puts_0.at 7 rfl) ?_
  refine J_getI (z := (h2 68 50)) 15 rfl fl_12_397 rfl ob_68 (Ob.lt ob_68) (D_X12_puts_0.at 8 rfl) rfl ?_
  refine J_iconst 16 rfl (D_X12_puts_0.at 9 rfl) ?_
  refine J_iadd 17 rfl (D_X12_puts_0.at 10 rfl) ?_
  refine J_putI 20 rfl fl_12_397 rfl rfl ob_68 (Ob.lt ob_68) (D_X12_puts_0.at 11 rfl) (fun h4 e5 => ?_)
  replace T := T h4 e5
  exact J_vret rfl (D_X12_puts_0.at 12 rfl) T
theorem c_X12_clip {w : Wd} {a1 : Int} {h : Hp} {K : Int → Hp → Prop} (T : (inL a1) ∧ (((a1 ≤ 1000000) → ((inL a1) ∧ (((a1 ≥ (-1000000)) → (K a1 h)) ∧ (¬ (a1 ≥ (-1000000)) → (K (-1000000) h))))) ∧ (¬ (a1 ≤ 1000000) → (K 1000000 h)))) : C_X12_clip w a1 h K := by
  refine CGm_of2 (by decide) (by decide) trivial (Nat.le_of_ble_eq_true rfl) ?_
  refine J_lload_n 1 rfl 0 0 rfl (D_X12_clip_0.at 0 rfl) ?_
  refine J_ldc2 4 rfl ko_12_393 (D_X12_clip_0.at 1 rfl) ?_
  obtain ⟨s1, T⟩ := T
  refine J_lcmp_le 8 rfl 14 s1 ⟨by decide, by decide⟩ (D_X12_clip_0.at 2 rfl) (D_X12_clip_0.at 3 rfl) (by decide) (fun c4 => ?_) (fun c4 => ?_)
  · replace T := T.1 c4
    refine J_lload_n 15 rfl 0 0 rfl (D_X12_clip_0.at 6 rfl) ?_
    refine J_ldc2 18 rfl ko_12_395 (D_X12_clip_0.at 7 rfl) ?_
    obtain ⟨s2, T⟩ := T
    refine J_lcmp_ge 22 rfl 28 s2 ⟨by decide, by decide⟩ (D_X12_clip_0.at 8 rfl) (D_X12_clip_0.at 9 rfl) (by decide) (fun c3 => ?_) (fun c3 => ?_)
    · replace T := T.1 c3
      refine J_lload_n 29 rfl 0 0 rfl (D_X12_clip_0.at 12 rfl) ?_
      exact J_lret rfl (D_X12_clip_0.at 13 rfl) T
    replace T := T.2 c3
    refine J_ldc2 25 rfl ko_12_395 (D_X12_clip_0.at 10 rfl) ?_
    refine J_goto 29 (D_X12_clip_0.at 11 rfl) (by decide) ?_
    exact J_lret rfl (D_X12_clip_0.at 13 rfl) T
  replace T := T.2 c4
  refine J_ldc2 11 rfl ko_12_393 (D_X12_clip_0.at 4 rfl) ?_
  refine J_goto 29 (D_X12_clip_0.at 5 rfl) (by decide) ?_
  exact J_lret rfl (D_X12_clip_0.at 13 rfl) T
theorem c_X12_floor {w : Wd} {a1 a2 : Int} {h : Hp} {K : Int → Hp → Prop} (T : (inL a2) ∧ (((a2 ≠ 0) → ((-9223372036854775808 < a1 ∧ a1 < 9223372036854775808) ∧ ((inL a2) ∧ ((a2 ≠ 0) ∧ ((-9223372036854775808 < a1 ∧ a1 < 9223372036854775808) ∧ ((inL a2) ∧ ((a2 ≠ 0) ∧ ((inL (Int.tmod a1 a2)) ∧ ((((Int.tmod a1 a2) = 0) → (K (Int.tdiv a1 a2) h)) ∧ (¬ ((Int.tmod a1 a2) = 0) → ((inL a1) ∧ (((a1 ≥ 0) → ((inL a2) ∧ (((a2 ≥ 0) → (K (Int.tdiv a1 a2) h)) ∧ (¬ (a2 ≥ 0) → (K ((Int.tdiv a1 a2) - 1) h))))) ∧ (¬ (a1 ≥ 0) → ((inL a2) ∧ (((a2 ≥ 0) → (K ((Int.tdiv a1 a2) - 1) h)) ∧ (¬ (a2 ≥ 0) → (K (Int.tdiv a1 a2) h))))))))))))))))) ∧ (¬ (a2 ≠ 0) → (K 0 h)))) : C_X12_floor w a1 a2 h K := by
  refine CGm_of2 (by decide) (by decide) trivial (Nat.le_of_ble_eq_true rfl) ?_
  refine J_lload_n 1 rfl 2 1 rfl (D_X12_floor_0.at 0 rfl) ?_
  refine J_lconst (z := 0) 2 rfl rfl (D_X12_floor_0.at 1 rfl) ?_
  obtain ⟨s1, T⟩ := T
  refine J_lcmp_ne 6 rfl 8 s1 ⟨by decide, by decide⟩ (D_X12_floor_0.at 2 rfl) (D_X12_floor_0.at 3 rfl) (by decide) (fun c16 => ?_) (fun c16 => ?_)
  · replace T := T.1 c16
    refine J_lload_n 9 rfl 0 0 rfl (D_X12_floor_0.at 6 rfl) ?_
    refine J_lload_n 10 rfl 2 1 rfl (D_X12_floor_0.at 7 rfl) ?_
    obtain ⟨s2, T⟩ := T
    obtain ⟨s3, T⟩ := T
    obtain ⟨s4, T⟩ := T
    refine J_ldivS 11 rfl s2 s3 s4 (D_X12_floor_0.at 8 rfl) ?_
    refine J_lstore (lv' := [(4, vL (Int.tdiv a1 a2)), (0, vL a1), (2, vL a2)]) 13 rfl 4 (by decide) rfl (D_X12_floor_0.at 9 rfl) ?_
    refine J_lload_n 14 rfl 0 1 rfl (D_X12_floor_0.at 10 rfl) ?_
    refine J_lload_n 15 rfl 2 2 rfl (D_X12_floor_0.at 11 rfl) ?_
    obtain ⟨s5, T⟩ := T
    obtain ⟨s6, T⟩ := T
    obtain ⟨s7, T⟩ := T
    refine J_lremS 16 rfl s5 s6 s7 (D_X12_floor_0.at 12 rfl) ?_
    refine J_lconst (z := 0) 17 rfl rfl (D_X12_floor_0.at 13 rfl) ?_
    obtain ⟨s8, T⟩ := T
    refine J_lcmp_eq 21 rfl 53 s8 ⟨by decide, by decide⟩ (D_X12_floor_0.at 14 rfl) (D_X12_floor_0.at 15 rfl) (by decide) (fun c15 => ?_) (fun c15 => ?_)
    · replace T := T.1 c15
      refine J_lload 55 rfl 4 0 rfl (D_X12_floor_0.at 35 rfl) ?_
      exact J_lret rfl (D_X12_floor_0.at 36 rfl) T
    replace T := T.2 c15
    refine J_lload_n 22 rfl 0 1 rfl (D_X12_floor_0.at 16 rfl) ?_
    refine J_lconst (z := 0) 23 rfl rfl (D_X12_floor_0.at 17 rfl) ?_
    obtain ⟨s9, T⟩ := T
    refine J_lcmp_ge 27 rfl 31 s9 ⟨by decide, by decide⟩ (D_X12_floor_0.at 18 rfl) (D_X12_floor_0.at 19 rfl) (by decide) (fun c14 => ?_) (fun c14 => ?_)
    · replace T := T.1 c14
      refine J_iconst 32 rfl (D_X12_floor_0.at 22 rfl) ?_
      refine J_lload_n 33 rfl 2 2 rfl (D_X12_floor_0.at 23 rfl) ?_
      refine J_lconst (z := 0) 34 rfl rfl (D_X12_floor_0.at 24 rfl) ?_
      obtain ⟨s10, T⟩ := T
      refine J_lcmp_ge 38 rfl 42 s10 ⟨by decide, by decide⟩ (D_X12_floor_0.at 25 rfl) (D_X12_floor_0.at 26 rfl) (by decide) (fun c11 => ?_) (fun c11 => ?_)
      · replace T := T.1 c11
        refine J_iconst 43 rfl (D_X12_floor_0.at 29 rfl) ?_
        refine J_icmp_eq 46 rfl 53 ⟨by decide, by decide⟩ ⟨by decide, by decide⟩ (D_X12_floor_0.at 30 rfl) (by decide) (fun _ => ?_) (fun c => absurd (by decide) c)
        refine J_lload 55 rfl 4 0 rfl (D_X12_floor_0.at 35 rfl) ?_
        exact J_lret rfl (D_X12_floor_0.at 36 rfl) T
      replace T := T.2 c11
      refine J_iconst 39 rfl (D_X12_floor_0.at 27 rfl) ?_
      refine J_goto 43 (D_X12_floor_0.at 28 rfl) (by decide) ?_
      refine J_icmp_eq 46 rfl 53 ⟨by decide, by decide⟩ ⟨by decide, by decide⟩ (D_X12_floor_0.at 30 rfl) (by decide) (fun c => absurd c (by decide)) (fun _ => ?_)
      refine J_lload 48 rfl 4 0 rfl (D_X12_floor_0.at 31 rfl) ?_
      refine J_lconst (z := 1) 49 rfl rfl (D_X12_floor_0.at 32 rfl) ?_
      refine J_lsub 50 rfl (D_X12_floor_0.at 33 rfl) ?_
      refine J_goto 55 (D_X12_floor_0.at 34 rfl) (by decide) ?_
      exact J_lret rfl (D_X12_floor_0.at 36 rfl) T
    replace T := T.2 c14
    refine J_iconst 28 rfl (D_X12_floor_0.at 20 rfl) ?_
    refine J_goto 32 (D_X12_floor_0.at 21 rfl) (by decide) ?_
    refine J_lload_n 33 rfl 2 2 rfl (D_X12_floor_0.at 23 rfl) ?_
    refine J_lconst (z := 0) 34 rfl rfl (D_X12_floor_0.at 24 rfl) ?_
    obtain ⟨s12, T⟩ := T
    refine J_lcmp_ge 38 rfl 42 s12 ⟨by decide, by decide⟩ (D_X12_floor_0.at 25 rfl) (D_X12_floor_0.at 26 rfl) (by decide) (fun c13 => ?_) (fun c13 => ?_)
    · replace T := T.1 c13
      refine J_iconst 43 rfl (D_X12_floor_0.at 29 rfl) ?_
      refine J_icmp_eq 46 rfl 53 ⟨by decide, by decide⟩ ⟨by decide, by decide⟩ (D_X12_floor_0.at 30 rfl) (by decide) (fun c => absurd c (by decide)) (fun _ => ?_)
      refine J_lload 48 rfl 4 0 rfl (D_X12_floor_0.at 31 rfl) ?_
      refine J_lconst (z := 1) 49 rfl rfl (D_X12_floor_0.at 32 rfl) ?_
      refine J_lsub 50 rfl (D_X12_floor_0.at 33 rfl) ?_
      refine J_goto 55 (D_X12_floor_0.at 34 rfl) (by decide) ?_
      exact J_lret rfl (D_X12_floor_0.at 36 rfl) T
    replace T := T.2 c13
    refine J_iconst 39 rfl (D_X12_floor_0.at 27 rfl) ?_
    refine J_goto 43 (D_X12_floor_0.at 28 rfl) (by decide) ?_
    refine J_icmp_eq 46 rfl 53 ⟨by decide, by decide⟩ ⟨by decide, by decide⟩ (D_X12_floor_0.at 30 rfl) (by decide) (fun _ => ?_) (fun c => absurd (by decide) c)
    refine J_lload 55 rfl 4 0 rfl (D_X12_floor_0.at 35 rfl) ?_
    exact J_lret rfl (D_X12_floor_0.at 36 rfl) T
  replace T := T.2 c16
  refine J_lconst (z := 0) 7 rfl rfl (D_X12_floor_0.at 4 rfl) ?_
  exact J_lret rfl (D_X12_floor_0.at 5 rfl) T
theorem c_X12_sumOf {w : Wd} {a1 : Int} {na1 : Nat} (ha1 : Ar 0 na1 a1) {h : Hp} {K : Int → Hp → Prop} (T : L_X12_sumOf_4 w a1 0 0 h K) : C_X12_sumOf w a1 h K := by
  refine CGm_of2 (by decide) (by decide) trivial (Nat.le_of_ble_eq_true rfl) ?_
  refine J_iconst 1 rfl (D_X12_sumOf_0.at 0 rfl) ?_
  refine J_istore_n (lv' := [(1, vI 0), (0, vR a1)]) 2 rfl 1 (by decide) rfl (D_X12_sumOf_0.at 1 rfl) ?_
  refine J_iconst 3 rfl (D_X12_sumOf_0.at 2 rfl) ?_
  refine J_istore_n (lv' := [(2, vI 0), (1, vI 0), (0, vR a1)]) 4 rfl 2 (by decide) rfl (D_X12_sumOf_0.at 3 rfl) ?_
  exact J_sub (lv' := [(0, vR a1), (1, vI 0), (2, vI 0)]) [2, 1, 0] rfl T
theorem l_X12_sumOf_4 {w : Wd} {v0 v1 v2 : Int} {nv0 : Nat} (hv0 : Ar 0 nv0 v0) {h : Hp} {K : Int → Hp → Prop} (T : (inR v2) ∧ (((v2 ≥ 10) → (K v1 h)) ∧ (¬ (v2 ≥ 10) → ((0 ≤ v2 ∧ v2 < nv0) ∧ (L_X12_sumOf_4 w v0 (v1 + (h v0 v2)) (v2 + 1) h K))))) : L_X12_sumOf_4 w v0 v1 v2 h K := by
  unfold L_X12_sumOf_4
  refine J_iload_n 5 rfl 2 2 rfl (D_X12_sumOf_0.at 4 rfl) ?_
  refine J_bipush 7 rfl ⟨by decide, by decide⟩ (D_X12_sumOf_0.at 5 rfl) ?_
  obtain ⟨s1, T⟩ := T
  refine J_icmp_ge 10 rfl 22 s1 ⟨by decide, by decide⟩ (D_X12_sumOf_0.at 6 rfl) (by decide) (fun c3 => ?_) (fun c3 => ?_)
  · replace T := T.1 c3
    refine J_iload_n 23 rfl 1 1 rfl (D_X12_sumOf_0.at 15 rfl) ?_
    exact J_iret rfl (D_X12_sumOf_0.at 16 rfl) T
  replace T := T.2 c3
  refine J_iload_n 11 rfl 1 1 rfl (D_X12_sumOf_0.at 7 rfl) ?_
  refine J_aload_n 12 rfl 0 0 rfl (Ar.rng hv0) (D_X12_sumOf_0.at 8 rfl) ?_
  refine J_iload_n 13 rfl 2 2 rfl (D_X12_sumOf_0.at 9 rfl) ?_
  obtain ⟨s2, T⟩ := T
  refine J_iald 14 rfl hv0 (Ar.lt hv0) s2 (D_X12_sumOf_0.at 10 rfl) ?_
  refine J_iadd 15 rfl (D_X12_sumOf_0.at 11 rfl) ?_
  refine J_istore_n (lv' := [(1, vI (v1 + (h v0 v2))), (0, vR v0), (2, vI v2)]) 16 rfl 1 (by decide) rfl (D_X12_sumOf_0.at 12 rfl) ?_
  refine J_iinc (v := (v2 + 1)) (lv' := [(2, vI (v2 + 1)), (1, vI (v1 + (h v0 v2))), (0, vR v0)]) 19 rfl 2 2 1 rfl rfl (by decide) rfl (D_X12_sumOf_0.at 13 rfl) ?_
  refine J_goto 4 (D_X12_sumOf_0.at 14 rfl) (by decide) ?_
  exact J_sub (lv' := [(0, vR v0), (1, vI (v1 + (h v0 v2))), (2, vI (v2 + 1))]) [2, 1, 0] rfl T
theorem c_X12_undo {w : Wd} {h : Hp} {K : Int → Hp → Prop} (T : (inR (h 68 61)) ∧ ((((h 68 61) ≠ 0) → (L_X12_undo_21 w 0 h K)) ∧ (¬ ((h 68 61) ≠ 0) → (∀ h2 : Hp, h2 = hu h 70 4 ((h 70 4) + 1) → K 0 h2)))) : C_X12_undo w h K := by
  refine CGm_of2 (by decide) (by decide) trivial (Nat.le_of_ble_eq_true rfl) ?_
  refine J_aload_n 1 rfl 0 0 rfl ⟨by decide, by decide⟩ (D_X12_undo_0.at 0 rfl) ?_
  refine J_getI (z := (h 68 61)) 4 rfl fl_12_359 rfl ob_68 (Ob.lt ob_68) (D_X12_undo_0.at 1 rfl) rfl ?_
  obtain ⟨s1, T⟩ := T
  refine J_if_ne 7 rfl 19 s1 (D_X12_undo_0.at 2 rfl) (by decide) (fun c4 => ?_) (fun c4 => ?_)
  · replace T := T.1 c4
    refine J_iconst 20 rfl (D_X12_undo_0.at 13 rfl) ?_
    refine J_istore_n (lv' := [(1, vI 0), (0, vR 68)]) 21 rfl 1 (by decide) rfl (D_X12_undo_0.at 14 rfl) ?_
    exact J_sub (lv' := [(0, vR 68), (1, vI 0)]) [1, 0] rfl T
  replace T := T.2 c4
  refine J_aload_n 8 rfl 0 0 rfl ⟨by decide, by decide⟩ (D_X12_undo_0.at 3 rfl) ?_
  refine J_getF (ov := 70) (dd := 1002) 11 rfl fl_12_17 rfl (by decide) rfl ob_68 (Ob.lt ob_68) (D_X12_undo_0.at 4 rfl) ?_
  refine J_iconst 12 rfl (D_X12_undo_0.at 5 rfl) ?_
  refine J_dup2 13 rfl rfl rfl (D_X12_undo_0.at 6 rfl) ?_
  refine J_iald 14 rfl ar_70 (Ar.lt ar_70) ⟨by decide, by decide⟩ (D_X12_undo_0.at 7 rfl) ?_
  refine J_iconst 15 rfl (D_X12_undo_0.at 8 rfl) ?_
  refine J_iadd 16 rfl (D_X12_undo_0.at 9 rfl) ?_
  refine J_iastH 17 rfl ar_70 (Ar.lt ar_70) ⟨by decide, by decide⟩ trivial (D_X12_undo_0.at 10 rfl) (fun h2 e3 => ?_)
  replace T := T h2 e3
  refine J_iconst 18 rfl (D_X12_undo_0.at 11 rfl) ?_
  exact J_zret rfl (Or.inl rfl) (D_X12_undo_0.at 12 rfl) T
theorem l_X12_undo_21 {w : Wd} {v1 : Int} {h : Hp} {K : Int → Hp → Prop} (T : (inR v1) ∧ (((v1 ≥ 109) → ((0 ≤ (((h 68 62) + 20) - 1) ∧ (((h 68 62) + 20) - 1) < 2147483648) ∧ (∀ h7 : Hp, h7 = hu h 68 62 ((((h 68 62) + 20) - 1) % 20) → ∀ h9 : Hp, h9 = hu h7 68 61 ((h7 68 61) - 1) → K 1 h9))) ∧ (¬ (v1 ≥ 109) → ((0 ≤ ((109 * (h 68 62)) + v1) ∧ ((109 * (h 68 62)) + v1) < 2180) ∧ ((0 ≤ v1 ∧ v1 < 109) ∧ (∀ h13 : Hp, h13 = hu h 104 v1 (h 112 ((109 * (h 68 62)) + v1)) → L_X12_undo_21 w (v1 + 1) h13 K)))))) : L_X12_undo_21 w v1 h K := by
  unfold L_X12_undo_21
  refine J_iload_n 22 rfl 1 1 rfl (D_X12_undo_0.at 15 rfl) ?_
  refine J_bipush 24 rfl ⟨by decide, by decide⟩ (D_X12_undo_0.at 16 rfl) ?_
  obtain ⟨s5, T⟩ := T
  refine J_icmp_ge 27 rfl 53 s5 ⟨by decide, by decide⟩ (D_X12_undo_0.at 17 rfl) (by decide) (fun c15 => ?_) (fun c15 => ?_)
  · replace T := T.1 c15
    refine J_aload_n 54 rfl 0 0 rfl ⟨by decide, by decide⟩ (D_X12_undo_0.at 33 rfl) ?_
    refine J_aload_n 55 rfl 0 0 rfl ⟨by decide, by decide⟩ (D_X12_undo_0.at 34 rfl) ?_
    refine J_getI (z := (h 68 62)) 58 rfl fl_12_526 rfl ob_68 (Ob.lt ob_68) (D_X12_undo_0.at 35 rfl) rfl ?_
    refine J_bipush 60 rfl ⟨by decide, by decide⟩ (D_X12_undo_0.at 36 rfl) ?_
    refine J_iadd 61 rfl (D_X12_undo_0.at 37 rfl) ?_
    refine J_iconst 62 rfl (D_X12_undo_0.at 38 rfl) ?_
    refine J_isub 63 rfl (D_X12_undo_0.at 39 rfl) ?_
    refine J_bipush 65 rfl ⟨by decide, by decide⟩ (D_X12_undo_0.at 40 rfl) ?_
    obtain ⟨s6, T⟩ := T
    refine J_irem 66 rfl s6 ⟨by decide, by decide⟩ (D_X12_undo_0.at 41 rfl) ?_
    refine J_putI 69 rfl fl_12_526 rfl rfl ob_68 (Ob.lt ob_68) (D_X12_undo_0.at 42 rfl) (fun h7 e8 => ?_)
    replace T := T h7 e8
    refine J_aload_n 70 rfl 0 0 rfl ⟨by decide, by decide⟩ (D_X12_undo_0.at 43 rfl) ?_
    refine J_dup 71 rfl rfl (D_X12_undo_0.at 44 rfl) ?_
    refine J_getI (z := (h7 68 61)) 74 rfl fl_12_359 rfl ob_68 (Ob.lt ob_68) (D_X12_undo_0.at 45 rfl) rfl ?_
    refine J_iconst 75 rfl (D_X12_undo_0.at 46 rfl) ?_
    refine J_isub 76 rfl (D_X12_undo_0.at 47 rfl) ?_
    refine J_putI 79 rfl fl_12_359 rfl rfl ob_68 (Ob.lt ob_68) (D_X12_undo_1.at 0 rfl) (fun h9 e10 => ?_)
    replace T := T h9 e10
    refine J_iconst 80 rfl (D_X12_undo_1.at 1 rfl) ?_
    exact J_zret rfl (Or.inr rfl) (D_X12_undo_1.at 2 rfl) T
  replace T := T.2 c15
  refine J_aload_n 28 rfl 0 0 rfl ⟨by decide, by decide⟩ (D_X12_undo_0.at 18 rfl) ?_
  refine J_getF (ov := 104) (dd := 1036) 31 rfl fl_12_121 rfl (by decide) rfl ob_68 (Ob.lt ob_68) (D_X12_undo_0.at 19 rfl) ?_
  refine J_iload_n 32 rfl 1 1 rfl (D_X12_undo_0.at 20 rfl) ?_
  refine J_aload_n 33 rfl 0 0 rfl ⟨by decide, by decide⟩ (D_X12_undo_0.at 21 rfl) ?_
  refine J_getF (ov := 112) (dd := 1044) 36 rfl fl_12_145 rfl (by decide) rfl ob_68 (Ob.lt ob_68) (D_X12_undo_0.at 22 rfl) ?_
  refine J_bipush 38 rfl ⟨by decide, by decide⟩ (D_X12_undo_0.at 23 rfl) ?_
  refine J_aload_n 39 rfl 0 0 rfl ⟨by decide, by decide⟩ (D_X12_undo_0.at 24 rfl) ?_
  refine J_getI (z := (h 68 62)) 42 rfl fl_12_526 rfl ob_68 (Ob.lt ob_68) (D_X12_undo_0.at 25 rfl) rfl ?_
  refine J_imul 43 rfl (D_X12_undo_0.at 26 rfl) ?_
  refine J_iload_n 44 rfl 1 1 rfl (D_X12_undo_0.at 27 rfl) ?_
  refine J_iadd 45 rfl (D_X12_undo_0.at 28 rfl) ?_
  obtain ⟨s11, T⟩ := T
  refine J_iald 46 rfl ar_112 (Ar.lt ar_112) s11 (D_X12_undo_0.at 29 rfl) ?_
  obtain ⟨s12, T⟩ := T
  refine J_iastH 47 rfl ar_104 (Ar.lt ar_104) s12 trivial (D_X12_undo_0.at 30 rfl) (fun h13 e14 => ?_)
  replace T := T h13 e14
  refine J_iinc (v := (v1 + 1)) (lv' := [(1, vI (v1 + 1)), (0, vR 68)]) 50 rfl 1 1 1 rfl rfl (by decide) rfl (D_X12_undo_0.at 31 rfl) ?_
  refine J_goto 21 (D_X12_undo_0.at 32 rfl) (by decide) ?_
  exact J_sub (lv' := [(0, vR 68), (1, vI (v1 + 1))]) [1, 0] rfl T
theorem c_X12_keeps {w : Wd} {h : Hp} {K : Int → Hp → Prop} (T : (0 ≤ ((h 68 62) + 1) ∧ ((h 68 62) + 1) < 2147483648) ∧ (∀ h2 : Hp, h2 = hu h 68 62 (((h 68 62) + 1) % 20) → L_X12_keeps_15 w 0 h2 K)) : C_X12_keeps w h K := by
  refine CGm_of2 (by decide) (by decide) trivial (Nat.le_of_ble_eq_true rfl) ?_
  refine J_aload_n 1 rfl 0 0 rfl ⟨by decide, by decide⟩ (D_X12_keeps_0.at 0 rfl) ?_
  refine J_aload_n 2 rfl 0 0 rfl ⟨by decide, by decide⟩ (D_X12_keeps_0.at 1 rfl) ?_
  refine J_getI (z := (h 68 62)) 5 rfl fl_12_526 rfl ob_68 (Ob.lt ob_68) (D_X12_keeps_0.at 2 rfl) rfl ?_
  refine J_iconst 6 rfl (D_X12_keeps_0.at 3 rfl) ?_
  refine J_iadd 7 rfl (D_X12_keeps_0.at 4 rfl) ?_
  refine J_bipush 9 rfl ⟨by decide, by decide⟩ (D_X12_keeps_0.at 5 rfl) ?_
  obtain ⟨s1, T⟩ := T
  refine J_irem 10 rfl s1 ⟨by decide, by decide⟩ (D_X12_keeps_0.at 6 rfl) ?_
  refine J_putI 13 rfl fl_12_526 rfl rfl ob_68 (Ob.lt ob_68) (D_X12_keeps_0.at 7 rfl) (fun h2 e3 => ?_)
  replace T := T h2 e3
  refine J_iconst 14 rfl (D_X12_keeps_0.at 8 rfl) ?_
  refine J_istore_n (lv' := [(1, vI 0), (0, vR 68)]) 15 rfl 1 (by decide) rfl (D_X12_keeps_0.at 9 rfl) ?_
  exact J_sub (lv' := [(0, vR 68), (1, vI 0)]) [1, 0] rfl T
theorem l_X12_keeps_15 {w : Wd} {v1 : Int} {h : Hp} {K : Int → Hp → Prop} (T : (inR v1) ∧ (((v1 ≥ 109) → ((inR (h 68 61)) ∧ ((((h 68 61) ≥ 20) → (K 0 h)) ∧ (¬ ((h 68 61) ≥ 20) → (∀ h6 : Hp, h6 = hu h 68 61 ((h 68 61) + 1) → K 0 h6))))) ∧ (¬ (v1 ≥ 109) → ((0 ≤ v1 ∧ v1 < 109) ∧ ((0 ≤ ((109 * (h 68 62)) + v1) ∧ ((109 * (h 68 62)) + v1) < 2180) ∧ (∀ h11 : Hp, h11 = hu h 112 ((109 * (h 68 62)) + v1) (h 104 v1) → L_X12_keeps_15 w (v1 + 1) h11 K)))))) : L_X12_keeps_15 w v1 h K := by
  unfold L_X12_keeps_15
  refine J_iload_n 16 rfl 1 1 rfl (D_X12_keeps_0.at 10 rfl) ?_
  refine J_bipush 18 rfl ⟨by decide, by decide⟩ (D_X12_keeps_0.at 11 rfl) ?_
  obtain ⟨s4, T⟩ := T
  refine J_icmp_ge 21 rfl 47 s4 ⟨by decide, by decide⟩ (D_X12_keeps_0.at 12 rfl) (by decide) (fun c13 => ?_) (fun c13 => ?_)
  · replace T := T.1 c13
    refine J_aload_n 48 rfl 0 0 rfl ⟨by decide, by decide⟩ (D_X12_keeps_0.at 28 rfl) ?_
    refine J_getI (z := (h 68 61)) 51 rfl fl_12_359 rfl ob_68 (Ob.lt ob_68) (D_X12_keeps_0.at 29 rfl) rfl ?_
    refine J_bipush 53 rfl ⟨by decide, by decide⟩ (D_X12_keeps_0.at 30 rfl) ?_
    obtain ⟨s5, T⟩ := T
    refine J_icmp_ge 56 rfl 66 s5 ⟨by decide, by decide⟩ (D_X12_keeps_0.at 31 rfl) (by decide) (fun c8 => ?_) (fun c8 => ?_)
    · replace T := T.1 c8
      exact J_vret rfl (D_X12_keeps_0.at 38 rfl) T
    replace T := T.2 c8
    refine J_aload_n 57 rfl 0 0 rfl ⟨by decide, by decide⟩ (D_X12_keeps_0.at 32 rfl) ?_
    refine J_dup 58 rfl rfl (D_X12_keeps_0.at 33 rfl) ?_
    refine J_getI (z := (h 68 61)) 61 rfl fl_12_359 rfl ob_68 (Ob.lt ob_68) (D_X12_keeps_0.at 34 rfl) rfl ?_
    refine J_iconst 62 rfl (D_X12_keeps_0.at 35 rfl) ?_
    refine J_iadd 63 rfl (D_X12_keeps_0.at 36 rfl) ?_
    refine J_putI 66 rfl fl_12_359 rfl rfl ob_68 (Ob.lt ob_68) (D_X12_keeps_0.at 37 rfl) (fun h6 e7 => ?_)
    replace T := T h6 e7
    exact J_vret rfl (D_X12_keeps_0.at 38 rfl) T
  replace T := T.2 c13
  refine J_aload_n 22 rfl 0 0 rfl ⟨by decide, by decide⟩ (D_X12_keeps_0.at 13 rfl) ?_
  refine J_getF (ov := 112) (dd := 1044) 25 rfl fl_12_145 rfl (by decide) rfl ob_68 (Ob.lt ob_68) (D_X12_keeps_0.at 14 rfl) ?_
  refine J_bipush 27 rfl ⟨by decide, by decide⟩ (D_X12_keeps_0.at 15 rfl) ?_
  refine J_aload_n 28 rfl 0 0 rfl ⟨by decide, by decide⟩ (D_X12_keeps_0.at 16 rfl) ?_
  refine J_getI (z := (h 68 62)) 31 rfl fl_12_526 rfl ob_68 (Ob.lt ob_68) (D_X12_keeps_0.at 17 rfl) rfl ?_
  refine J_imul 32 rfl (D_X12_keeps_0.at 18 rfl) ?_
  refine J_iload_n 33 rfl 1 1 rfl (D_X12_keeps_0.at 19 rfl) ?_
  refine J_iadd 34 rfl (D_X12_keeps_0.at 20 rfl) ?_
  refine J_aload_n 35 rfl 0 0 rfl ⟨by decide, by decide⟩ (D_X12_keeps_0.at 21 rfl) ?_
  refine J_getF (ov := 104) (dd := 1036) 38 rfl fl_12_121 rfl (by decide) rfl ob_68 (Ob.lt ob_68) (D_X12_keeps_0.at 22 rfl) ?_
  refine J_iload_n 39 rfl 1 1 rfl (D_X12_keeps_0.at 23 rfl) ?_
  obtain ⟨s9, T⟩ := T
  refine J_iald 40 rfl ar_104 (Ar.lt ar_104) s9 (D_X12_keeps_0.at 24 rfl) ?_
  obtain ⟨s10, T⟩ := T
  refine J_iastH 41 rfl ar_112 (Ar.lt ar_112) s10 trivial (D_X12_keeps_0.at 25 rfl) (fun h11 e12 => ?_)
  replace T := T h11 e12
  refine J_iinc (v := (v1 + 1)) (lv' := [(1, vI (v1 + 1)), (0, vR 68)]) 44 rfl 1 1 1 rfl rfl (by decide) rfl (D_X12_keeps_0.at 26 rfl) ?_
  refine J_goto 15 (D_X12_keeps_0.at 27 rfl) (by decide) ?_
  exact J_sub (lv' := [(0, vR 68), (1, vI (v1 + 1))]) [1, 0] rfl T
theorem c_X12_seed {w : Wd} {a1 : Int} {h : Hp} {K : Int → Hp → Prop} (T : (inR a1) ∧ (((a1 ≥ 0) → ((inR a1) ∧ (∀ h3 : Hp, h3 = hu h 68 63 a1 → K 1 h3))) ∧ (¬ (a1 ≥ 0) → (∀ h5 : Hp, h5 = hu h 70 5 ((h 70 5) + 1) → K 0 h5)))) : C_X12_seed w a1 h K := by
  refine CGm_of2 (by decide) (by decide) trivial (Nat.le_of_ble_eq_true rfl) ?_
  refine J_iload_n 1 rfl 1 1 rfl (D_X12_seed_0.at 0 rfl) ?_
  obtain ⟨s1, T⟩ := T
  refine J_if_ge 4 rfl 16 s1 (D_X12_seed_0.at 1 rfl) (by decide) (fun c7 => ?_) (fun c7 => ?_)
  · replace T := T.1 c7
    refine J_aload_n 17 rfl 0 0 rfl ⟨by decide, by decide⟩ (D_X12_seed_0.at 12 rfl) ?_
    refine J_iload_n 18 rfl 1 1 rfl (D_X12_seed_0.at 13 rfl) ?_
    obtain ⟨s2, T⟩ := T
    refine J_i2l 19 rfl s2 (D_X12_seed_0.at 14 rfl) ?_
    refine J_putL 22 rfl fl_12_148 rfl rfl ob_68 (Ob.lt ob_68) (D_X12_seed_0.at 15 rfl) (fun h3 e4 => ?_)
    replace T := T h3 e4
    refine J_iconst 23 rfl (D_X12_seed_0.at 16 rfl) ?_
    exact J_zret rfl (Or.inr rfl) (D_X12_seed_0.at 17 rfl) T
  replace T := T.2 c7
  refine J_aload_n 5 rfl 0 0 rfl ⟨by decide, by decide⟩ (D_X12_seed_0.at 2 rfl) ?_
  refine J_getF (ov := 70) (dd := 1002) 8 rfl fl_12_17 rfl (by decide) rfl ob_68 (Ob.lt ob_68) (D_X12_seed_0.at 3 rfl) ?_
  refine J_iconst 9 rfl (D_X12_seed_0.at 4 rfl) ?_
  refine J_dup2 10 rfl rfl rfl (D_X12_seed_0.at 5 rfl) ?_
  refine J_iald 11 rfl ar_70 (Ar.lt ar_70) ⟨by decide, by decide⟩ (D_X12_seed_0.at 6 rfl) ?_
  refine J_iconst 12 rfl (D_X12_seed_0.at 7 rfl) ?_
  refine J_iadd 13 rfl (D_X12_seed_0.at 8 rfl) ?_
  refine J_iastH 14 rfl ar_70 (Ar.lt ar_70) ⟨by decide, by decide⟩ trivial (D_X12_seed_0.at 9 rfl) (fun h5 e6 => ?_)
  replace T := T h5 e6
  refine J_iconst 15 rfl (D_X12_seed_0.at 10 rfl) ?_
  exact J_zret rfl (Or.inl rfl) (D_X12_seed_0.at 11 rfl) T
theorem c_X12_drawOf {w : Wd} {a1 : Int} {h : Hp} {K : Int → Hp → Prop} (T : (0 ≤ ((1103515245 * (h 68 63)) + 12345) ∧ ((1103515245 * (h 68 63)) + 12345) < 9223372036854775808) ∧ (∀ h2 : Hp, h2 = hu h 68 63 (((1103515245 * (h 68 63)) + 12345) % 2147483648) → (0 ≤ (h2 68 63) ∧ (h2 68 63) < 9223372036854775808) ∧ ((inR a1) ∧ ((0 ≤ ((h2 68 63) / 64) ∧ ((h2 68 63) / 64) < 9223372036854775808) ∧ ((0 < a1 ∧ a1 < 9223372036854775808) ∧ (K (((h2 68 63) / 64) % a1) h2)))))) : C_X12_drawOf w a1 h K := by
  refine CGm_of2 (by decide) (by decide) trivial (Nat.le_of_ble_eq_true rfl) ?_
  refine J_aload_n 1 rfl 0 0 rfl ⟨by decide, by decide⟩ (D_X12_drawOf_0.at 0 rfl) ?_
  refine J_ldc2 4 rfl ko_12_535 (D_X12_drawOf_0.at 1 rfl) ?_
  refine J_aload_n 5 rfl 0 0 rfl ⟨by decide, by decide⟩ (D_X12_drawOf_0.at 2 rfl) ?_
  refine J_getL (z := (h 68 63)) 8 rfl fl_12_148 rfl ob_68 (Ob.lt ob_68) (D_X12_drawOf_0.at 3 rfl) rfl ?_
  refine J_lmul 9 rfl (D_X12_drawOf_0.at 4 rfl) ?_
  refine J_ldc2 12 rfl ko_12_537 (D_X12_drawOf_0.at 5 rfl) ?_
  refine J_ladd 13 rfl (D_X12_drawOf_0.at 6 rfl) ?_
  refine J_ldc2 16 rfl ko_12_539 (D_X12_drawOf_0.at 7 rfl) ?_
  obtain ⟨s1, T⟩ := T
  refine J_lrem 17 rfl s1 ⟨by decide, by decide⟩ (D_X12_drawOf_0.at 8 rfl) ?_
  refine J_putL 20 rfl fl_12_148 rfl rfl ob_68 (Ob.lt ob_68) (D_X12_drawOf_0.at 9 rfl) (fun h2 e3 => ?_)
  replace T := T h2 e3
  refine J_aload_n 21 rfl 0 0 rfl ⟨by decide, by decide⟩ (D_X12_drawOf_0.at 10 rfl) ?_
  refine J_getL (z := (h2 68 63)) 24 rfl fl_12_148 rfl ob_68 (Ob.lt ob_68) (D_X12_drawOf_0.at 11 rfl) rfl ?_
  refine J_ldc2 27 rfl ko_12_541 (D_X12_drawOf_0.at 12 rfl) ?_
  obtain ⟨s4, T⟩ := T
  refine J_ldiv 28 rfl s4 ⟨by decide, by decide⟩ (D_X12_drawOf_0.at 13 rfl) ?_
  refine J_iload_n 29 rfl 1 1 rfl (D_X12_drawOf_0.at 14 rfl) ?_
  obtain ⟨s5, T⟩ := T
  refine J_i2l 30 rfl s5 (D_X12_drawOf_0.at 15 rfl) ?_
  obtain ⟨s6, T⟩ := T
  obtain ⟨s7, T⟩ := T
  refine J_lrem 31 rfl s6 s7 (D_X12_drawOf_0.at 16 rfl) ?_
  refine J_l2i 32 rfl (D_X12_drawOf_0.at 17 rfl) ?_
  exact J_iret rfl (D_X12_drawOf_0.at 18 rfl) T
theorem c_X12_laysStones {w : Wd} {a1 : Int} {h : Hp} {K : Int → Hp → Prop} (T : L_X12_laysStones_12 w a1 0 ((h 68 36) - 1) h K) : C_X12_laysStones w a1 h K := by
  refine CGm_of2 (by decide) (by decide) trivial (Nat.le_of_ble_eq_true rfl) ?_
  refine J_iload_n 1 rfl 1 1 rfl (D_X12_laysStones_0.at 0 rfl) ?_
  refine J_istore_n (lv' := [(2, vI a1), (0, vR 68), (1, vI a1)]) 2 rfl 2 (by decide) rfl (D_X12_laysStones_0.at 1 rfl) ?_
  refine J_iconst 3 rfl (D_X12_laysStones_0.at 2 rfl) ?_
  refine J_istore_n (lv' := [(3, vI 0), (2, vI a1), (0, vR 68), (1, vI a1)]) 4 rfl 3 (by decide) rfl (D_X12_laysStones_0.at 3 rfl) ?_
  refine J_aload_n 5 rfl 0 2 rfl ⟨by decide, by decide⟩ (D_X12_laysStones_0.at 4 rfl) ?_
  refine J_getI (z := (h 68 36)) 8 rfl fl_12_356 rfl ob_68 (Ob.lt ob_68) (D_X12_laysStones_0.at 5 rfl) rfl ?_
  refine J_iconst 9 rfl (D_X12_laysStones_0.at 6 rfl) ?_
  refine J_isub 10 rfl (D_X12_laysStones_0.at 7 rfl) ?_
  refine J_istore (lv' := [(4, vI ((h 68 36) - 1)), (3, vI 0), (2, vI a1), (0, vR 68), (1, vI a1)]) 12 rfl 4 (by decide) rfl (D_X12_laysStones_0.at 8 rfl) ?_
  exact J_sub (lv' := [(0, vR 68), (2, vI a1), (3, vI 0), (4, vI ((h 68 36) - 1))]) [3, 2, 1, 0] rfl T
theorem l_X12_laysStones_12 {w : Wd} {v2 v3 v4 : Int} {h : Hp} {K : Int → Hp → Prop} (T : (inR v4) ∧ (((v4 < 0) → (K v3 h)) ∧ (¬ (v4 < 0) → ((0 ≤ v2 ∧ v2 < 2147483648) ∧ ((0 ≤ v4 ∧ v4 < 8) ∧ (∀ h4 : Hp, h4 = hu h 105 v4 (v2 % 3) → (0 ≤ v2 ∧ v2 < 2147483648) ∧ ((0 ≤ v4 ∧ v4 < 8) ∧ (L_X12_laysStones_12 w (v2 / 3) (v3 + (h4 105 v4)) (v4 + (-1)) h4 K)))))))) : L_X12_laysStones_12 w v2 v3 v4 h K := by
  unfold L_X12_laysStones_12
  refine J_iload 14 rfl 4 3 rfl (D_X12_laysStones_0.at 9 rfl) ?_
  obtain ⟨s1, T⟩ := T
  refine J_if_lt 17 rfl 47 s1 (D_X12_laysStones_0.at 10 rfl) (by decide) (fun c8 => ?_) (fun c8 => ?_)
  · replace T := T.1 c8
    refine J_iload_n 48 rfl 3 2 rfl (D_X12_laysStones_0.at 31 rfl) ?_
    exact J_iret rfl (D_X12_laysStones_0.at 32 rfl) T
  replace T := T.2 c8
  refine J_aload_n 18 rfl 0 0 rfl ⟨by decide, by decide⟩ (D_X12_laysStones_0.at 11 rfl) ?_
  refine J_getF (ov := 105) (dd := 1037) 21 rfl fl_12_124 rfl (by decide) rfl ob_68 (Ob.lt ob_68) (D_X12_laysStones_0.at 12 rfl) ?_
  refine J_iload 23 rfl 4 3 rfl (D_X12_laysStones_0.at 13 rfl) ?_
  refine J_iload_n 24 rfl 2 1 rfl (D_X12_laysStones_0.at 14 rfl) ?_
  refine J_iconst 25 rfl (D_X12_laysStones_0.at 15 rfl) ?_
  obtain ⟨s2, T⟩ := T
  refine J_irem 26 rfl s2 ⟨by decide, by decide⟩ (D_X12_laysStones_0.at 16 rfl) ?_
  obtain ⟨s3, T⟩ := T
  refine J_iastH 27 rfl ar_105 (Ar.lt ar_105) s3 trivial (D_X12_laysStones_0.at 17 rfl) (fun h4 e5 => ?_)
  replace T := T h4 e5
  refine J_iload_n 28 rfl 2 1 rfl (D_X12_laysStones_0.at 18 rfl) ?_
  refine J_iconst 29 rfl (D_X12_laysStones_0.at 19 rfl) ?_
  obtain ⟨s6, T⟩ := T
  refine J_idiv 30 rfl s6 ⟨by decide, by decide⟩ (D_X12_laysStones_0.at 20 rfl) ?_
  refine J_istore_n (lv' := [(2, vI (v2 / 3)), (0, vR 68), (3, vI v3), (4, vI v4)]) 31 rfl 2 (by decide) rfl (D_X12_laysStones_0.at 21 rfl) ?_
  refine J_iload_n 32 rfl 3 2 rfl (D_X12_laysStones_0.at 22 rfl) ?_
  refine J_aload_n 33 rfl 0 1 rfl ⟨by decide, by decide⟩ (D_X12_laysStones_0.at 23 rfl) ?_
  refine J_getF (ov := 105) (dd := 1037) 36 rfl fl_12_124 rfl (by decide) rfl ob_68 (Ob.lt ob_68) (D_X12_laysStones_0.at 24 rfl) ?_
  refine J_iload 38 rfl 4 3 rfl (D_X12_laysStones_0.at 25 rfl) ?_
  obtain ⟨s7, T⟩ := T
  refine J_iald 39 rfl ar_105 (Ar.lt ar_105) s7 (D_X12_laysStones_0.at 26 rfl) ?_
  refine J_iadd 40 rfl (D_X12_laysStones_0.at 27 rfl) ?_
  refine J_istore_n (lv' := [(3, vI (v3 + (h4 105 v4))), (2, vI (v2 / 3)), (0, vR 68), (4, vI v4)]) 41 rfl 3 (by decide) rfl (D_X12_laysStones_0.at 28 rfl) ?_
  refine J_iinc (v := (v4 + (-1))) (lv' := [(4, vI (v4 + (-1))), (3, vI (v3 + (h4 105 v4))), (2, vI (v2 / 3)), (0, vR 68)]) 44 rfl 4 3 (-1) rfl rfl (by decide) rfl (D_X12_laysStones_0.at 29 rfl) ?_
  refine J_goto 12 (D_X12_laysStones_0.at 30 rfl) (by decide) ?_
  exact J_sub (lv' := [(0, vR 68), (2, vI (v2 / 3)), (3, vI (v3 + (h4 105 v4))), (4, vI (v4 + (-1)))]) [3, 2, 1, 0] rfl T
theorem c_X12_stonesTold {w : Wd} {a1 : Int} {h : Hp} {K : Int → Hp → Prop} (T : (inR (h 68 65)) ∧ ((((h 68 65) ≠ (-1)) → ((inR a1) ∧ (((a1 ≠ (-1)) → ((0 ≤ a1 ∧ a1 < 8) ∧ (K (h 113 a1) h))) ∧ (¬ (a1 ≠ (-1)) → (K (h 68 65) h))))) ∧ (¬ ((h 68 65) ≠ (-1)) → (K (-1) h)))) : C_X12_stonesTold w a1 h K := by
  refine CGm_of2 (by decide) (by decide) trivial (Nat.le_of_ble_eq_true rfl) ?_
  refine J_aload_n 1 rfl 0 0 rfl ⟨by decide, by decide⟩ (D_X12_stonesTold_0.at 0 rfl) ?_
  refine J_getI (z := (h 68 65)) 4 rfl fl_12_551 rfl ob_68 (Ob.lt ob_68) (D_X12_stonesTold_0.at 1 rfl) rfl ?_
  refine J_iconst 5 rfl (D_X12_stonesTold_0.at 2 rfl) ?_
  obtain ⟨s1, T⟩ := T
  refine J_icmp_ne 8 rfl 12 s1 ⟨by decide, by decide⟩ (D_X12_stonesTold_0.at 3 rfl) (by decide) (fun c5 => ?_) (fun c5 => ?_)
  · replace T := T.1 c5
    refine J_iload_n 13 rfl 1 1 rfl (D_X12_stonesTold_0.at 6 rfl) ?_
    refine J_iconst 14 rfl (D_X12_stonesTold_0.at 7 rfl) ?_
    obtain ⟨s2, T⟩ := T
    refine J_icmp_ne 17 rfl 24 s2 ⟨by decide, by decide⟩ (D_X12_stonesTold_0.at 8 rfl) (by decide) (fun c4 => ?_) (fun c4 => ?_)
    · replace T := T.1 c4
      refine J_aload_n 25 rfl 0 0 rfl ⟨by decide, by decide⟩ (D_X12_stonesTold_0.at 12 rfl) ?_
      refine J_getF (ov := 113) (dd := 1045) 28 rfl fl_12_152 rfl (by decide) rfl ob_68 (Ob.lt ob_68) (D_X12_stonesTold_0.at 13 rfl) ?_
      refine J_iload_n 29 rfl 1 1 rfl (D_X12_stonesTold_0.at 14 rfl) ?_
      obtain ⟨s3, T⟩ := T
      refine J_iald 30 rfl ar_113 (Ar.lt ar_113) s3 (D_X12_stonesTold_0.at 15 rfl) ?_
      exact J_iret rfl (D_X12_stonesTold_0.at 16 rfl) T
    replace T := T.2 c4
    refine J_aload_n 18 rfl 0 0 rfl ⟨by decide, by decide⟩ (D_X12_stonesTold_0.at 9 rfl) ?_
    refine J_getI (z := (h 68 65)) 21 rfl fl_12_551 rfl ob_68 (Ob.lt ob_68) (D_X12_stonesTold_0.at 10 rfl) rfl ?_
    refine J_goto 30 (D_X12_stonesTold_0.at 11 rfl) (by decide) ?_
    exact J_iret rfl (D_X12_stonesTold_0.at 16 rfl) T
  replace T := T.2 c5
  refine J_iconst 9 rfl (D_X12_stonesTold_0.at 4 rfl) ?_
  refine J_goto 30 (D_X12_stonesTold_0.at 5 rfl) (by decide) ?_
  exact J_iret rfl (D_X12_stonesTold_0.at 16 rfl) T
theorem c_X12_find {w : Wd} {h : Hp} {K : Int → Hp → Prop} (T : ∀ h1 : Hp, h1 = hu h 68 1 0 → (inR (h1 68 36)) ∧ ((((h1 68 36) = 0) → (K 0 h1)) ∧ (¬ ((h1 68 36) = 0) → ((inR (h 68 1)) ∧ ((inR (2 * (h1 68 36))) ∧ ((((h 68 1) = (2 * (h1 68 36))) → (L_X12_find_31 w 0 h1 K)) ∧ (¬ ((h 68 1) = (2 * (h1 68 36))) → (K 0 h1)))))))) : C_X12_find w h K := by
  refine CGm_of2 (by decide) (by decide) trivial (Nat.le_of_ble_eq_true rfl) ?_
  refine J_aload_n 1 rfl 0 0 rfl ⟨by decide, by decide⟩ (D_X12_find_0.at 0 rfl) ?_
  refine J_getI (z := (h 68 1)) 4 rfl fl_12_224 rfl ob_68 (Ob.lt ob_68) (D_X12_find_0.at 1 rfl) rfl ?_
  refine J_istore_n (lv' := [(1, vI (h 68 1)), (0, vR 68)]) 5 rfl 1 (by decide) rfl (D_X12_find_0.at 2 rfl) ?_
  refine J_aload_n 6 rfl 0 1 rfl ⟨by decide, by decide⟩ (D_X12_find_0.at 3 rfl) ?_
  refine J_iconst 7 rfl (D_X12_find_0.at 4 rfl) ?_
  refine J_putI 10 rfl fl_12_224 rfl rfl ob_68 (Ob.lt ob_68) (D_X12_find_0.at 5 rfl) (fun h1 e2 => ?_)
  replace T := T h1 e2
  refine J_aload_n 11 rfl 0 1 rfl ⟨by decide, by decide⟩ (D_X12_find_0.at 6 rfl) ?_
  refine J_getI (z := (h1 68 36)) 14 rfl fl_12_356 rfl ob_68 (Ob.lt ob_68) (D_X12_find_0.at 7 rfl) rfl ?_
  obtain ⟨s3, T⟩ := T
  refine J_if_eq 17 rfl 27 s3 (D_X12_find_0.at 8 rfl) (by decide) (fun c7 => ?_) (fun c7 => ?_)
  · replace T := T.1 c7
    refine J_iconst 28 rfl (D_X12_find_0.at 15 rfl) ?_
    exact J_zret rfl (Or.inl rfl) (D_X12_find_0.at 16 rfl) T
  replace T := T.2 c7
  refine J_iload_n 18 rfl 1 0 rfl (D_X12_find_0.at 9 rfl) ?_
  refine J_iconst 19 rfl (D_X12_find_0.at 10 rfl) ?_
  refine J_aload_n 20 rfl 0 1 rfl ⟨by decide, by decide⟩ (D_X12_find_0.at 11 rfl) ?_
  refine J_getI (z := (h1 68 36)) 23 rfl fl_12_356 rfl ob_68 (Ob.lt ob_68) (D_X12_find_0.at 12 rfl) rfl ?_
  refine J_imul 24 rfl (D_X12_find_0.at 13 rfl) ?_
  obtain ⟨s4, T⟩ := T
  obtain ⟨s5, T⟩ := T
  refine J_icmp_eq 27 rfl 29 s4 s5 (D_X12_find_0.at 14 rfl) (by decide) (fun c6 => ?_) (fun c6 => ?_)
  · replace T := T.1 c6
    refine J_iconst 30 rfl (D_X12_find_0.at 17 rfl) ?_
    refine J_istore_n (lv' := [(2, vI 0), (1, vI (h 68 1)), (0, vR 68)]) 31 rfl 2 (by decide) rfl (D_X12_find_0.at 18 rfl) ?_
    exact J_sub (lv' := [(0, vR 68), (2, vI 0)]) [2, 0] rfl T
  replace T := T.2 c6
  refine J_iconst 28 rfl (D_X12_find_0.at 15 rfl) ?_
  exact J_zret rfl (Or.inl rfl) (D_X12_find_0.at 16 rfl) T
theorem l_X12_find_31 {w : Wd} {v2 : Int} {h : Hp} {K : Int → Hp → Prop} (T : (inR v2) ∧ ((inR (h 68 36)) ∧ (((v2 ≥ (h 68 36)) → (∀ h10 : Hp, h10 = hu h 68 67 1 → K 1 h10)) ∧ (¬ (v2 ≥ (h 68 36)) → ((0 ≤ (2 * v2) ∧ (2 * v2) < 1600) ∧ ((0 ≤ ((2 * v2) + 1) ∧ ((2 * v2) + 1) < 1600) ∧ ((0 ≤ v2 ∧ v2 < 8) ∧ (∀ h15 : Hp, h15 = hu h 115 v2 ((256 * (h 69 (2 * v2))) + (h 69 ((2 * v2) + 1))) → L_X12_find_31 w (v2 + 1) h15 K)))))))) : L_X12_find_31 w v2 h K := by
  unfold L_X12_find_31
  refine J_iload_n 32 rfl 2 1 rfl (D_X12_find_0.at 19 rfl) ?_
  refine J_aload_n 33 rfl 0 0 rfl ⟨by decide, by decide⟩ (D_X12_find_0.at 20 rfl) ?_
  refine J_getI (z := (h 68 36)) 36 rfl fl_12_356 rfl ob_68 (Ob.lt ob_68) (D_X12_find_0.at 21 rfl) rfl ?_
  obtain ⟨s8, T⟩ := T
  obtain ⟨s9, T⟩ := T
  refine J_icmp_ge 39 rfl 74 s8 s9 (D_X12_find_0.at 22 rfl) (by decide) (fun c17 => ?_) (fun c17 => ?_)
  · replace T := T.1 c17
    refine J_aload_n 75 rfl 0 0 rfl ⟨by decide, by decide⟩ (D_X12_find_0.at 46 rfl) ?_
    refine J_iconst 76 rfl (D_X12_find_0.at 47 rfl) ?_
    refine J_putZ 79 rfl fl_12_362 rfl rfl (Or.inr rfl) ob_68 (Ob.lt ob_68) (D_X12_find_1.at 0 rfl) (fun h10 e11 => ?_)
    replace T := T h10 e11
    refine J_iconst 80 rfl (D_X12_find_1.at 1 rfl) ?_
    exact J_zret rfl (Or.inr rfl) (D_X12_find_1.at 2 rfl) T
  replace T := T.2 c17
  refine J_aload_n 40 rfl 0 0 rfl ⟨by decide, by decide⟩ (D_X12_find_0.at 23 rfl) ?_
  refine J_getF (ov := 115) (dd := 1047) 43 rfl fl_12_158 rfl (by decide) rfl ob_68 (Ob.lt ob_68) (D_X12_find_0.at 24 rfl) ?_
  refine J_iload_n 44 rfl 2 1 rfl (D_X12_find_0.at 25 rfl) ?_
  refine J_sipush 47 rfl ⟨by decide, by decide⟩ (D_X12_find_0.at 26 rfl) ?_
  refine J_aload_n 48 rfl 0 0 rfl ⟨by decide, by decide⟩ (D_X12_find_0.at 27 rfl) ?_
  refine J_getF (ov := 69) (dd := 1001) 51 rfl fl_12_7 rfl (by decide) rfl ob_68 (Ob.lt ob_68) (D_X12_find_0.at 28 rfl) ?_
  refine J_iconst 52 rfl (D_X12_find_0.at 29 rfl) ?_
  refine J_iload_n 53 rfl 2 1 rfl (D_X12_find_0.at 30 rfl) ?_
  refine J_imul 54 rfl (D_X12_find_0.at 31 rfl) ?_
  obtain ⟨s12, T⟩ := T
  refine J_iald 55 rfl ar_69 (Ar.lt ar_69) s12 (D_X12_find_0.at 32 rfl) ?_
  refine J_imul 56 rfl (D_X12_find_0.at 33 rfl) ?_
  refine J_aload_n 57 rfl 0 0 rfl ⟨by decide, by decide⟩ (D_X12_find_0.at 34 rfl) ?_
  refine J_getF (ov := 69) (dd := 1001) 60 rfl fl_12_7 rfl (by decide) rfl ob_68 (Ob.lt ob_68) (D_X12_find_0.at 35 rfl) ?_
  refine J_iconst 61 rfl (D_X12_find_0.at 36 rfl) ?_
  refine J_iload_n 62 rfl 2 1 rfl (D_X12_find_0.at 37 rfl) ?_
  refine J_imul 63 rfl (D_X12_find_0.at 38 rfl) ?_
  refine J_iconst 64 rfl (D_X12_find_0.at 39 rfl) ?_
  refine J_iadd 65 rfl (D_X12_find_0.at 40 rfl) ?_
  obtain ⟨s13, T⟩ := T
  refine J_iald 66 rfl ar_69 (Ar.lt ar_69) s13 (D_X12_find_0.at 41 rfl) ?_
  refine J_iadd 67 rfl (D_X12_find_0.at 42 rfl) ?_
  obtain ⟨s14, T⟩ := T
  refine J_iastH 68 rfl ar_115 (Ar.lt ar_115) s14 trivial (D_X12_find_0.at 43 rfl) (fun h15 e16 => ?_)
  replace T := T h15 e16
  refine J_iinc (v := (v2 + 1)) (lv' := [(2, vI (v2 + 1)), (0, vR 68)]) 71 rfl 2 1 1 rfl rfl (by decide) rfl (D_X12_find_0.at 44 rfl) ?_
  refine J_goto 31 (D_X12_find_0.at 45 rfl) (by decide) ?_
  exact J_sub (lv' := [(0, vR 68), (2, vI (v2 + 1))]) [1, 0] rfl T
theorem c_X12_writes {w : Wd} {a1 : Int} {h : Hp} {K : Int → Hp → Prop} (T : (0 ≤ (h 68 97) ∧ (h 68 97) < 201) ∧ (∀ h2 : Hp, h2 = hu h 136 (h 68 97) a1 → ∀ h4 : Hp, h4 = hu h2 68 97 ((h2 68 97) + 1) → K 0 h4)) : C_X12_writes w a1 h K := by
  refine CGm_of2 (by decide) (by decide) trivial (Nat.le_of_ble_eq_true rfl) ?_
  refine J_aload_n 1 rfl 0 0 rfl ⟨by decide, by decide⟩ (D_X12_writes_0.at 0 rfl) ?_
  refine J_getF (ov := 136) (dd := 1068) 4 rfl fl_12_221 rfl (by decide) rfl ob_68 (Ob.lt ob_68) (D_X12_writes_0.at 1 rfl) ?_
  refine J_aload_n 5 rfl 0 0 rfl ⟨by decide, by decide⟩ (D_X12_writes_0.at 2 rfl) ?_
  refine J_getI (z := (h 68 97)) 8 rfl fl_12_687 rfl ob_68 (Ob.lt ob_68) (D_X12_writes_0.at 3 rfl) rfl ?_
  refine J_iload_n 9 rfl 1 1 rfl (D_X12_writes_0.at 4 rfl) ?_
  obtain ⟨s1, T⟩ := T
  refine J_iastH 10 rfl ar_136 (Ar.lt ar_136) s1 trivial (D_X12_writes_0.at 5 rfl) (fun h2 e3 => ?_)
  replace T := T h2 e3
  refine J_aload_n 11 rfl 0 0 rfl ⟨by decide, by decide⟩ (D_X12_writes_0.at 6 rfl) ?_
  refine J_dup 12 rfl rfl (D_X12_writes_0.at 7 rfl) ?_
  refine J_getI (z := (h2 68 97)) 15 rfl fl_12_687 rfl ob_68 (Ob.lt ob_68) (D_X12_writes_0.at 8 rfl) rfl ?_
  refine J_iconst 16 rfl (D_X12_writes_0.at 9 rfl) ?_
  refine J_iadd 17 rfl (D_X12_writes_0.at 10 rfl) ?_
  refine J_putI 20 rfl fl_12_687 rfl rfl ob_68 (Ob.lt ob_68) (D_X12_writes_0.at 11 rfl) (fun h4 e5 => ?_)
  replace T := T h4 e5
  exact J_vret rfl (D_X12_writes_0.at 12 rfl) T
theorem c_X12_checked {w : Wd} {a1 a2 : Int} {na1 : Nat} (ha1 : Ar 0 na1 a1) {h : Hp} {K : Int → Hp → Prop} (T : L_X12_checked_6 w a1 a2 173 0 h K) : C_X12_checked w a1 a2 h K := by
  refine CGm_of2 (by decide) (by decide) trivial (Nat.le_of_ble_eq_true rfl) ?_
  refine J_sipush 3 rfl ⟨by decide, by decide⟩ (D_X12_checked_0.at 0 rfl) ?_
  refine J_istore_n (lv' := [(2, vI 173), (0, vR a1), (1, vI a2)]) 4 rfl 2 (by decide) rfl (D_X12_checked_0.at 1 rfl) ?_
  refine J_iconst 5 rfl (D_X12_checked_0.at 2 rfl) ?_
  refine J_istore_n (lv' := [(3, vI 0), (2, vI 173), (0, vR a1), (1, vI a2)]) 6 rfl 3 (by decide) rfl (D_X12_checked_0.at 3 rfl) ?_
  exact J_sub (lv' := [(0, vR a1), (1, vI a2), (2, vI 173), (3, vI 0)]) [2, 3, 1, 0] rfl T
theorem l_X12_checked_6 {w : Wd} {v0 v1 v2 v3 : Int} {nv0 : Nat} (hv0 : Ar 0 nv0 v0) {h : Hp} {K : Int → Hp → Prop} (T : (inR v3) ∧ ((inR v1) ∧ (((v3 ≥ v1) → (K v2 h)) ∧ (¬ (v3 ≥ v1) → ((0 ≤ v3 ∧ v3 < nv0) ∧ ((0 ≤ ((3 * v2) + (h v0 v3)) ∧ ((3 * v2) + (h v0 v3)) < 2147483648) ∧ (L_X12_checked_6 w v0 v1 (((3 * v2) + (h v0 v3)) % 251) (v3 + 1) h K))))))) : L_X12_checked_6 w v0 v1 v2 v3 h K := by
  unfold L_X12_checked_6
  refine J_iload_n 7 rfl 3 3 rfl (D_X12_checked_0.at 4 rfl) ?_
  refine J_iload_n 8 rfl 1 1 rfl (D_X12_checked_0.at 5 rfl) ?_
  obtain ⟨s1, T⟩ := T
  obtain ⟨s2, T⟩ := T
  refine J_icmp_ge 11 rfl 29 s1 s2 (D_X12_checked_0.at 6 rfl) (by decide) (fun c5 => ?_) (fun c5 => ?_)
  · replace T := T.1 c5
    refine J_iload_n 30 rfl 2 2 rfl (D_X12_checked_0.at 19 rfl) ?_
    exact J_iret rfl (D_X12_checked_0.at 20 rfl) T
  replace T := T.2 c5
  refine J_iconst 12 rfl (D_X12_checked_0.at 7 rfl) ?_
  refine J_iload_n 13 rfl 2 2 rfl (D_X12_checked_0.at 8 rfl) ?_
  refine J_imul 14 rfl (D_X12_checked_0.at 9 rfl) ?_
  refine J_aload_n 15 rfl 0 0 rfl (Ar.rng hv0) (D_X12_checked_0.at 10 rfl) ?_
  refine J_iload_n 16 rfl 3 3 rfl (D_X12_checked_0.at 11 rfl) ?_
  obtain ⟨s3, T⟩ := T
  refine J_iald 17 rfl hv0 (Ar.lt hv0) s3 (D_X12_checked_0.at 12 rfl) ?_
  refine J_iadd 18 rfl (D_X12_checked_0.at 13 rfl) ?_
  refine J_sipush 21 rfl ⟨by decide, by decide⟩ (D_X12_checked_0.at 14 rfl) ?_
  obtain ⟨s4, T⟩ := T
  refine J_irem 22 rfl s4 ⟨by decide, by decide⟩ (D_X12_checked_0.at 15 rfl) ?_
  refine J_istore_n (lv' := [(2, vI (((3 * v2) + (h v0 v3)) % 251)), (0, vR v0), (1, vI v1), (3, vI v3)]) 23 rfl 2 (by decide) rfl (D_X12_checked_0.at 16 rfl) ?_
  refine J_iinc (v := (v3 + 1)) (lv' := [(3, vI (v3 + 1)), (2, vI (((3 * v2) + (h v0 v3)) % 251)), (0, vR v0), (1, vI v1)]) 26 rfl 3 3 1 rfl rfl (by decide) rfl (D_X12_checked_0.at 17 rfl) ?_
  refine J_goto 6 (D_X12_checked_0.at 18 rfl) (by decide) ?_
  exact J_sub (lv' := [(0, vR v0), (1, vI v1), (2, vI (((3 * v2) + (h v0 v3)) % 251)), (3, vI (v3 + 1))]) [2, 3, 1, 0] rfl T
theorem c_X12_octet {w : Wd} {a1 : Int} {h : Hp} {K : Int → Hp → Prop} (T : (inR a1) ∧ (((a1 < 0) → (K (-1) h)) ∧ (¬ (a1 < 0) → ((inR a1) ∧ ((inR (h 68 97)) ∧ (((a1 ≥ (h 68 97)) → (K (-1) h)) ∧ (¬ (a1 ≥ (h 68 97)) → ((0 ≤ a1 ∧ a1 < 201) ∧ (K (h 136 a1) h))))))))) : C_X12_octet w a1 h K := by
  refine CGm_of2 (by decide) (by decide) trivial (Nat.le_of_ble_eq_true rfl) ?_
  refine J_iload_n 1 rfl 1 1 rfl (D_X12_octet_0.at 0 rfl) ?_
  obtain ⟨s1, T⟩ := T
  refine J_if_lt 4 rfl 21 s1 (D_X12_octet_0.at 1 rfl) (by decide) (fun c6 => ?_) (fun c6 => ?_)
  · replace T := T.1 c6
    refine J_iconst 22 rfl (D_X12_octet_0.at 11 rfl) ?_
    exact J_iret rfl (D_X12_octet_0.at 12 rfl) T
  replace T := T.2 c6
  refine J_iload_n 5 rfl 1 1 rfl (D_X12_octet_0.at 2 rfl) ?_
  refine J_aload_n 6 rfl 0 0 rfl ⟨by decide, by decide⟩ (D_X12_octet_0.at 3 rfl) ?_
  refine J_getI (z := (h 68 97)) 9 rfl fl_12_687 rfl ob_68 (Ob.lt ob_68) (D_X12_octet_0.at 4 rfl) rfl ?_
  obtain ⟨s2, T⟩ := T
  obtain ⟨s3, T⟩ := T
  refine J_icmp_ge 12 rfl 21 s2 s3 (D_X12_octet_0.at 5 rfl) (by decide) (fun c5 => ?_) (fun c5 => ?_)
  · replace T := T.1 c5
    refine J_iconst 22 rfl (D_X12_octet_0.at 11 rfl) ?_
    exact J_iret rfl (D_X12_octet_0.at 12 rfl) T
  replace T := T.2 c5
  refine J_aload_n 13 rfl 0 0 rfl ⟨by decide, by decide⟩ (D_X12_octet_0.at 6 rfl) ?_
  refine J_getF (ov := 136) (dd := 1068) 16 rfl fl_12_221 rfl (by decide) rfl ob_68 (Ob.lt ob_68) (D_X12_octet_0.at 7 rfl) ?_
  refine J_iload_n 17 rfl 1 1 rfl (D_X12_octet_0.at 8 rfl) ?_
  obtain ⟨s4, T⟩ := T
  refine J_iald 18 rfl ar_136 (Ar.lt ar_136) s4 (D_X12_octet_0.at 9 rfl) ?_
  refine J_goto 22 (D_X12_octet_0.at 10 rfl) (by decide) ?_
  exact J_iret rfl (D_X12_octet_0.at 12 rfl) T
theorem c_X12_two {w : Wd} {a1 : Int} {h : Hp} {K : Int → Hp → Prop} (T : (0 ≤ a1 ∧ a1 < 1600) ∧ ((0 ≤ (a1 + 1) ∧ (a1 + 1) < 1600) ∧ (K ((256 * (h 69 a1)) + (h 69 (a1 + 1))) h))) : C_X12_two w a1 h K := by
  refine CGm_of2 (by decide) (by decide) trivial (Nat.le_of_ble_eq_true rfl) ?_
  refine J_sipush 3 rfl ⟨by decide, by decide⟩ (D_X12_two_0.at 0 rfl) ?_
  refine J_aload_n 4 rfl 0 0 rfl ⟨by decide, by decide⟩ (D_X12_two_0.at 1 rfl) ?_
  refine J_getF (ov := 69) (dd := 1001) 7 rfl fl_12_7 rfl (by decide) rfl ob_68 (Ob.lt ob_68) (D_X12_two_0.at 2 rfl) ?_
  refine J_iload_n 8 rfl 1 1 rfl (D_X12_two_0.at 3 rfl) ?_
  obtain ⟨s1, T⟩ := T
  refine J_iald 9 rfl ar_69 (Ar.lt ar_69) s1 (D_X12_two_0.at 4 rfl) ?_
  refine J_imul 10 rfl (D_X12_two_0.at 5 rfl) ?_
  refine J_aload_n 11 rfl 0 0 rfl ⟨by decide, by decide⟩ (D_X12_two_0.at 6 rfl) ?_
  refine J_getF (ov := 69) (dd := 1001) 14 rfl fl_12_7 rfl (by decide) rfl ob_68 (Ob.lt ob_68) (D_X12_two_0.at 7 rfl) ?_
  refine J_iload_n 15 rfl 1 1 rfl (D_X12_two_0.at 8 rfl) ?_
  refine J_iconst 16 rfl (D_X12_two_0.at 9 rfl) ?_
  refine J_iadd 17 rfl (D_X12_two_0.at 10 rfl) ?_
  obtain ⟨s2, T⟩ := T
  refine J_iald 18 rfl ar_69 (Ar.lt ar_69) s2 (D_X12_two_0.at 11 rfl) ?_
  refine J_iadd 19 rfl (D_X12_two_0.at 12 rfl) ?_
  exact J_iret rfl (D_X12_two_0.at 13 rfl) T
theorem c_X12_isHere {w : Wd} {a1 : Int} {na1 : Nat} (ha1 : Ar 3 na1 a1) {h : Hp} {K : Int → Hp → Prop} (T : (inR (h 68 5)) ∧ ((((h 68 5) ≠ 0) → (K 0 h)) ∧ (¬ ((h 68 5) ≠ 0) → (C_X12_look w h (fun r2 h3 => (inR r2) ∧ (((r2 < 97) → (K 0 h3)) ∧ (¬ (r2 < 97) → ((inR r2) ∧ (((r2 > 122) → (K 0 h3)) ∧ (¬ (r2 > 122) → ((inR (h3 68 2)) ∧ ((inR (h3 68 4)) ∧ ((((h3 68 2) ≠ (h3 68 4)) → (L_X12_isHere_35 w a1 (h3 68 2) h3 K)) ∧ (¬ ((h3 68 2) ≠ (h3 68 4)) → (K 0 h3))))))))))))))) : C_X12_isHere w a1 h K := by
  refine CGm_of2 (by decide) (by decide) trivial (Nat.le_of_ble_eq_true rfl) ?_
  refine J_aload_n 1 rfl 0 0 rfl ⟨by decide, by decide⟩ (D_X12_isHere_0.at 0 rfl) ?_
  refine J_getI (z := (h 68 5)) 4 rfl fl_12_227 rfl ob_68 (Ob.lt ob_68) (D_X12_isHere_0.at 1 rfl) rfl ?_
  obtain ⟨s1, T⟩ := T
  refine J_if_ne 7 rfl 28 s1 (D_X12_isHere_0.at 2 rfl) (by decide) (fun c12 => ?_) (fun c12 => ?_)
  · replace T := T.1 c12
    refine J_iconst 29 rfl (D_X12_isHere_0.at 12 rfl) ?_
    exact J_zret rfl (Or.inl rfl) (D_X12_isHere_0.at 13 rfl) T
  replace T := T.2 c12
  refine J_aload_n 8 rfl 0 0 rfl ⟨by decide, by decide⟩ (D_X12_isHere_0.at 3 rfl) ?_
  refine J_callV (d' := 1) (sr := fun z => [vI z]) (as := []) (st := []) (o := 68) 11 rfl ok_X12_look im_X12_look se_X12_look ml_12_239 isC_12 ob_68 (Ob.lt ob_68) rfl (by decide) ⟨Nat.le_refl _, Nat.le_refl _⟩ (Nat.le_of_ble_eq_true rfl) (D_X12_isHere_0.at 4 rfl) (fun _ => rfl) T (fun r2 h3 T b4 => ?_)
  refine J_callS (d' := 1) (K1 := fun z h0 => rok (some .boolean) z → JG w true m_X12_isHere 2 NT NT 14 [(0, vR 68), (1, vR a1)] [vI z] h0 _) (sr := fun z => [vI z]) (as := [vI r2]) (st := []) 14 rfl ok_X12_isLetter sm_X12_isLetter ml_12_243 rfl (by decide) ⟨Nat.le_refl _, Nat.le_refl _⟩ (Nat.le_of_ble_eq_true rfl) (D_X12_isHere_0.at 5 rfl) (fun _ => rfl) (CGm_of2 (by decide) (by decide) trivial (Nat.le_of_ble_eq_true rfl) ?_) (fun _ _ kq hb => kq hb)
  refine J_iload_n 1 rfl 0 0 rfl (D_X12_isLetter_0.at 0 rfl) ?_
  refine J_bipush 3 rfl ⟨by decide, by decide⟩ (D_X12_isLetter_0.at 1 rfl) ?_
  obtain ⟨s5, T⟩ := T
  refine J_icmp_lt 6 rfl 16 s5 ⟨by decide, by decide⟩ (D_X12_isLetter_0.at 2 rfl) (by decide) (fun c11 => ?_) (fun c11 => ?_)
  · replace T := T.1 c11
    refine J_iconst 17 rfl (D_X12_isLetter_0.at 8 rfl) ?_
    refine J_zret rfl (Or.inl rfl) (D_X12_isLetter_0.at 9 rfl) (fun _ => ?_)
    refine J_if_eq 17 rfl 28 ⟨by decide, by decide⟩ (D_X12_isHere_0.at 6 rfl) (by decide) (fun _ => ?_) (fun c => absurd (by decide) c)
    refine J_iconst 29 rfl (D_X12_isHere_0.at 12 rfl) ?_
    exact J_zret rfl (Or.inl rfl) (D_X12_isHere_0.at 13 rfl) T
  replace T := T.2 c11
  refine J_iload_n 7 rfl 0 0 rfl (D_X12_isLetter_0.at 3 rfl) ?_
  refine J_bipush 9 rfl ⟨by decide, by decide⟩ (D_X12_isLetter_0.at 4 rfl) ?_
  obtain ⟨s6, T⟩ := T
  refine J_icmp_gt 12 rfl 16 s6 ⟨by decide, by decide⟩ (D_X12_isLetter_0.at 5 rfl) (by decide) (fun c10 => ?_) (fun c10 => ?_)
  · replace T := T.1 c10
    refine J_iconst 17 rfl (D_X12_isLetter_0.at 8 rfl) ?_
    refine J_zret rfl (Or.inl rfl) (D_X12_isLetter_0.at 9 rfl) (fun _ => ?_)
    refine J_if_eq 17 rfl 28 ⟨by decide, by decide⟩ (D_X12_isHere_0.at 6 rfl) (by decide) (fun _ => ?_) (fun c => absurd (by decide) c)
    refine J_iconst 29 rfl (D_X12_isHere_0.at 12 rfl) ?_
    exact J_zret rfl (Or.inl rfl) (D_X12_isHere_0.at 13 rfl) T
  replace T := T.2 c10
  refine J_iconst 13 rfl (D_X12_isLetter_0.at 6 rfl) ?_
  refine J_goto 17 (D_X12_isLetter_0.at 7 rfl) (by decide) ?_
  refine J_zret rfl (Or.inr rfl) (D_X12_isLetter_0.at 9 rfl) (fun _ => ?_)
  refine J_if_eq 17 rfl 28 ⟨by decide, by decide⟩ (D_X12_isHere_0.at 6 rfl) (by decide) (fun c => absurd c (by decide)) (fun _ => ?_)
  refine J_aload_n 18 rfl 0 0 rfl ⟨by decide, by decide⟩ (D_X12_isHere_0.at 7 rfl) ?_
  refine J_getI (z := (h3 68 2)) 21 rfl fl_12_233 rfl ob_68 (Ob.lt ob_68) (D_X12_isHere_0.at 8 rfl) rfl ?_
  refine J_aload_n 22 rfl 0 0 rfl ⟨by decide, by decide⟩ (D_X12_isHere_0.at 9 rfl) ?_
  refine J_getI (z := (h3 68 4)) 25 rfl fl_12_247 rfl ob_68 (Ob.lt ob_68) (D_X12_isHere_0.at 10 rfl) rfl ?_
  obtain ⟨s7, T⟩ := T
  obtain ⟨s8, T⟩ := T
  refine J_icmp_ne 28 rfl 30 s7 s8 (D_X12_isHere_0.at 11 rfl) (by decide) (fun c9 => ?_) (fun c9 => ?_)
  · replace T := T.1 c9
    refine J_aload_n 31 rfl 0 0 rfl ⟨by decide, by decide⟩ (D_X12_isHere_0.at 14 rfl) ?_
    refine J_getI (z := (h3 68 2)) 34 rfl fl_12_233 rfl ob_68 (Ob.lt ob_68) (D_X12_isHere_0.at 15 rfl) rfl ?_
    refine J_istore_n (lv' := [(2, vI (h3 68 2)), (0, vR 68), (1, vR a1)]) 35 rfl 2 (by decide) rfl (D_X12_isHere_0.at 16 rfl) ?_
    exact J_sub (lv' := [(0, vR 68), (1, vR a1), (2, vI (h3 68 2))]) [1, 2, 0] rfl T
  replace T := T.2 c9
  refine J_iconst 29 rfl (D_X12_isHere_0.at 12 rfl) ?_
  exact J_zret rfl (Or.inl rfl) (D_X12_isHere_0.at 13 rfl) T
theorem l_X12_isHere_35 {w : Wd} {v1 v2 : Int} {nv1 : Nat} (hv1 : Ar 3 nv1 v1) {h : Hp} {K : Int → Hp → Prop} (T : (inR v2) ∧ ((inR (h 68 3)) ∧ (((v2 ≥ (h 68 3)) → ((inR (v2 - (h 68 2))) ∧ ((((v2 - (h 68 2)) = (Int.ofNat nv1)) → (L_X12_isHere_76 w v1 0 h K)) ∧ (¬ ((v2 - (h 68 2)) = (Int.ofNat nv1)) → (K 0 h))))) ∧ (¬ (v2 ≥ (h 68 3)) → ((0 ≤ v2 ∧ v2 < 1600) ∧ ((inR (h 69 v2)) ∧ ((((h 69 v2) < 97) → ((inR (v2 - (h 68 2))) ∧ ((((v2 - (h 68 2)) = (Int.ofNat nv1)) → (L_X12_isHere_76 w v1 0 h K)) ∧ (¬ ((v2 - (h 68 2)) = (Int.ofNat nv1)) → (K 0 h))))) ∧ (¬ ((h 69 v2) < 97) → ((inR (h 69 v2)) ∧ ((((h 69 v2) > 122) → ((inR (v2 - (h 68 2))) ∧ ((((v2 - (h 68 2)) = (Int.ofNat nv1)) → (L_X12_isHere_76 w v1 0 h K)) ∧ (¬ ((v2 - (h 68 2)) = (Int.ofNat nv1)) → (K 0 h))))) ∧ (¬ ((h 69 v2) > 122) → (L_X12_isHere_35 w v1 (v2 + 1) h K)))))))))))) : L_X12_isHere_35 w v1 v2 h K := by
  unfold L_X12_isHere_35
  refine J_iload_n 36 rfl 2 2 rfl (D_X12_isHere_0.at 17 rfl) ?_
  refine J_aload_n 37 rfl 0 0 rfl ⟨by decide, by decide⟩ (D_X12_isHere_0.at 18 rfl) ?_
  refine J_getI (z := (h 68 3)) 40 rfl fl_12_236 rfl ob_68 (Ob.lt ob_68) (D_X12_isHere_0.at 19 rfl) rfl ?_
  obtain ⟨s13, T⟩ := T
  obtain ⟨s14, T⟩ := T
  refine J_icmp_ge 43 rfl 61 s13 s14 (D_X12_isHere_0.at 20 rfl) (by decide) (fun c26 => ?_) (fun c26 => ?_)
  · replace T := T.1 c26
    refine J_iload_n 62 rfl 2 2 rfl (D_X12_isHere_0.at 29 rfl) ?_
    refine J_aload_n 63 rfl 0 0 rfl ⟨by decide, by decide⟩ (D_X12_isHere_0.at 30 rfl) ?_
    refine J_getI (z := (h 68 2)) 66 rfl fl_12_233 rfl ob_68 (Ob.lt ob_68) (D_X12_isHere_0.at 31 rfl) rfl ?_
    refine J_isub 67 rfl (D_X12_isHere_0.at 32 rfl) ?_
    refine J_aload_n 68 rfl 1 1 rfl (Ar.rng hv1) (D_X12_isHere_0.at 33 rfl) ?_
    refine J_alenE (v := (Int.ofNat nv1)) 69 rfl rfl (by decide) hv1 (Ar.lt hv1) (D_X12_isHere_0.at 34 rfl) ?_
    obtain ⟨s15, T⟩ := T
    refine J_icmp_eq 72 rfl 74 s15 (Ar.lrng hv1) (D_X12_isHere_0.at 35 rfl) (by decide) (fun c16 => ?_) (fun c16 => ?_)
    · replace T := T.1 c16
      refine J_iconst 75 rfl (D_X12_isHere_0.at 38 rfl) ?_
      refine J_istore_n (lv' := [(3, vI 0), (0, vR 68), (1, vR v1), (2, vI v2)]) 76 rfl 3 (by decide) rfl (D_X12_isHere_0.at 39 rfl) ?_
      exact J_sub (lv' := [(0, vR 68), (1, vR v1), (3, vI 0)]) [1, 2, 0] rfl T
    replace T := T.2 c16
    refine J_iconst 73 rfl (D_X12_isHere_0.at 36 rfl) ?_
    exact J_zret rfl (Or.inl rfl) (D_X12_isHere_0.at 37 rfl) T
  replace T := T.2 c26
  refine J_aload_n 44 rfl 0 0 rfl ⟨by decide, by decide⟩ (D_X12_isHere_0.at 21 rfl) ?_
  refine J_getF (ov := 69) (dd := 1001) 47 rfl fl_12_7 rfl (by decide) rfl ob_68 (Ob.lt ob_68) (D_X12_isHere_0.at 22 rfl) ?_
  refine J_iload_n 48 rfl 2 2 rfl (D_X12_isHere_0.at 23 rfl) ?_
  obtain ⟨s17, T⟩ := T
  refine J_iald 49 rfl ar_69 (Ar.lt ar_69) s17 (D_X12_isHere_0.at 24 rfl) ?_
  refine J_callS (d' := 1) (K1 := fun z h0 => rok (some .boolean) z → JG w true m_X12_isHere 2 NT NT 52 [(0, vR 68), (1, vR v1), (2, vI v2)] [vI z] h0 _) (sr := fun z => [vI z]) (as := [vI (h 69 v2)]) (st := []) 52 rfl ok_X12_isLetter sm_X12_isLetter ml_12_243 rfl (by decide) ⟨Nat.le_refl _, Nat.le_refl _⟩ (Nat.le_of_ble_eq_true rfl) (D_X12_isHere_0.at 25 rfl) (fun _ => rfl) (CGm_of2 (by decide) (by decide) trivial (Nat.le_of_ble_eq_true rfl) ?_) (fun _ _ kq hb => kq hb)
  refine J_iload_n 1 rfl 0 0 rfl (D_X12_isLetter_0.at 0 rfl) ?_
  refine J_bipush 3 rfl ⟨by decide, by decide⟩ (D_X12_isLetter_0.at 1 rfl) ?_
  obtain ⟨s18, T⟩ := T
  refine J_icmp_lt 6 rfl 16 s18 ⟨by decide, by decide⟩ (D_X12_isLetter_0.at 2 rfl) (by decide) (fun c25 => ?_) (fun c25 => ?_)
  · replace T := T.1 c25
    refine J_iconst 17 rfl (D_X12_isLetter_0.at 8 rfl) ?_
    refine J_zret rfl (Or.inl rfl) (D_X12_isLetter_0.at 9 rfl) (fun _ => ?_)
    refine J_if_eq 55 rfl 61 ⟨by decide, by decide⟩ (D_X12_isHere_0.at 26 rfl) (by decide) (fun _ => ?_) (fun c => absurd (by decide) c)
    refine J_iload_n 62 rfl 2 2 rfl (D_X12_isHere_0.at 29 rfl) ?_
    refine J_aload_n 63 rfl 0 0 rfl ⟨by decide, by decide⟩ (D_X12_isHere_0.at 30 rfl) ?_
    refine J_getI (z := (h 68 2)) 66 rfl fl_12_233 rfl ob_68 (Ob.lt ob_68) (D_X12_isHere_0.at 31 rfl) rfl ?_
    refine J_isub 67 rfl (D_X12_isHere_0.at 32 rfl) ?_
    refine J_aload_n 68 rfl 1 1 rfl (Ar.rng hv1) (D_X12_isHere_0.at 33 rfl) ?_
    refine J_alenE (v := (Int.ofNat nv1)) 69 rfl rfl (by decide) hv1 (Ar.lt hv1) (D_X12_isHere_0.at 34 rfl) ?_
    obtain ⟨s19, T⟩ := T
    refine J_icmp_eq 72 rfl 74 s19 (Ar.lrng hv1) (D_X12_isHere_0.at 35 rfl) (by decide) (fun c20 => ?_) (fun c20 => ?_)
    · replace T := T.1 c20
      refine J_iconst 75 rfl (D_X12_isHere_0.at 38 rfl) ?_
      refine J_istore_n (lv' := [(3, vI 0), (0, vR 68), (1, vR v1), (2, vI v2)]) 76 rfl 3 (by decide) rfl (D_X12_isHere_0.at 39 rfl) ?_
      exact J_sub (lv' := [(0, vR 68), (1, vR v1), (3, vI 0)]) [1, 2, 0] rfl T
    replace T := T.2 c20
    refine J_iconst 73 rfl (D_X12_isHere_0.at 36 rfl) ?_
    exact J_zret rfl (Or.inl rfl) (D_X12_isHere_0.at 37 rfl) T
  replace T := T.2 c25
  refine J_iload_n 7 rfl 0 0 rfl (D_X12_isLetter_0.at 3 rfl) ?_
  refine J_bipush 9 rfl ⟨by decide, by decide⟩ (D_X12_isLetter_0.at 4 rfl) ?_
  obtain ⟨s21, T⟩ := T
  refine J_icmp_gt 12 rfl 16 s21 ⟨by decide, by decide⟩ (D_X12_isLetter_0.at 5 rfl) (by decide) (fun c24 => ?_) (fun c24 => ?_)
  · replace T := T.1 c24
    refine J_iconst 17 rfl (D_X12_isLetter_0.at 8 rfl) ?_
    refine J_zret rfl (Or.inl rfl) (D_X12_isLetter_0.at 9 rfl) (fun _ => ?_)
    refine J_if_eq 55 rfl 61 ⟨by decide, by decide⟩ (D_X12_isHere_0.at 26 rfl) (by decide) (fun _ => ?_) (fun c => absurd (by decide) c)
    refine J_iload_n 62 rfl 2 2 rfl (D_X12_isHere_0.at 29 rfl) ?_
    refine J_aload_n 63 rfl 0 0 rfl ⟨by decide, by decide⟩ (D_X12_isHere_0.at 30 rfl) ?_
    refine J_getI (z := (h 68 2)) 66 rfl fl_12_233 rfl ob_68 (Ob.lt ob_68) (D_X12_isHere_0.at 31 rfl) rfl ?_
    refine J_isub 67 rfl (D_X12_isHere_0.at 32 rfl) ?_
    refine J_aload_n 68 rfl 1 1 rfl (Ar.rng hv1) (D_X12_isHere_0.at 33 rfl) ?_
    refine J_alenE (v := (Int.ofNat nv1)) 69 rfl rfl (by decide) hv1 (Ar.lt hv1) (D_X12_isHere_0.at 34 rfl) ?_
    obtain ⟨s22, T⟩ := T
    refine J_icmp_eq 72 rfl 74 s22 (Ar.lrng hv1) (D_X12_isHere_0.at 35 rfl) (by decide) (fun c23 => ?_) (fun c23 => ?_)
    · replace T := T.1 c23
      refine J_iconst 75 rfl (D_X12_isHere_0.at 38 rfl) ?_
      refine J_istore_n (lv' := [(3, vI 0), (0, vR 68), (1, vR v1), (2, vI v2)]) 76 rfl 3 (by decide) rfl (D_X12_isHere_0.at 39 rfl) ?_
      exact J_sub (lv' := [(0, vR 68), (1, vR v1), (3, vI 0)]) [1, 2, 0] rfl T
    replace T := T.2 c23
    refine J_iconst 73 rfl (D_X12_isHere_0.at 36 rfl) ?_
    exact J_zret rfl (Or.inl rfl) (D_X12_isHere_0.at 37 rfl) T
  replace T := T.2 c24
  refine J_iconst 13 rfl (D_X12_isLetter_0.at 6 rfl) ?_
  refine J_goto 17 (D_X12_isLetter_0.at 7 rfl) (by decide) ?_
  refine J_zret rfl (Or.inr rfl) (D_X12_isLetter_0.at 9 rfl) (fun _ => ?_)
  refine J_if_eq 55 rfl 61 ⟨by decide, by decide⟩ (D_X12_isHere_0.at 26 rfl) (by decide) (fun c => absurd c (by decide)) (fun _ => ?_)
  refine J_iinc (v := (v2 + 1)) (lv' := [(2, vI (v2 + 1)), (0, vR 68), (1, vR v1)]) 58 rfl 2 2 1 rfl rfl (by decide) rfl (D_X12_isHere_0.at 27 rfl) ?_
  refine J_goto 35 (D_X12_isHere_0.at 28 rfl) (by decide) ?_
  exact J_sub (lv' := [(0, vR 68), (1, vR v1), (2, vI (v2 + 1))]) [1, 2, 0] rfl T
theorem l_X12_isHere_76 {w : Wd} {v1 v3 : Int} {nv1 : Nat} (hv1 : Ar 3 nv1 v1) {h : Hp} {K : Int → Hp → Prop} (T : (inR v3) ∧ (((v3 ≥ (Int.ofNat nv1)) → (K 1 h)) ∧ (¬ (v3 ≥ (Int.ofNat nv1)) → ((0 ≤ ((h 68 2) + v3) ∧ ((h 68 2) + v3) < 1600) ∧ ((0 ≤ v3 ∧ v3 < nv1) ∧ ((inR (h 69 ((h 68 2) + v3))) ∧ ((inR (cw v1 v3)) ∧ ((((h 69 ((h 68 2) + v3)) = (cw v1 v3)) → (L_X12_isHere_76 w v1 (v3 + 1) h K)) ∧ (¬ ((h 69 ((h 68 2) + v3)) = (cw v1 v3)) → (K 0 h)))))))))) : L_X12_isHere_76 w v1 v3 h K := by
  unfold L_X12_isHere_76
  refine J_iload_n 77 rfl 3 2 rfl (D_X12_isHere_0.at 40 rfl) ?_
  refine J_aload_n 78 rfl 1 1 rfl (Ar.rng hv1) (D_X12_isHere_0.at 41 rfl) ?_
  refine J_alenE (v := (Int.ofNat nv1)) 79 rfl rfl (by decide) hv1 (Ar.lt hv1) (D_X12_isHere_0.at 42 rfl) ?_
  obtain ⟨s27, T⟩ := T
  refine J_icmp_ge 82 rfl 107 s27 (Ar.lrng hv1) (D_X12_isHere_0.at 43 rfl) (by decide) (fun c33 => ?_) (fun c33 => ?_)
  · replace T := T.1 c33
    refine J_iconst 108 rfl (D_X12_isHere_1.at 11 rfl) ?_
    exact J_zret rfl (Or.inr rfl) (D_X12_isHere_1.at 12 rfl) T
  replace T := T.2 c33
  refine J_aload_n 83 rfl 0 0 rfl ⟨by decide, by decide⟩ (D_X12_isHere_0.at 44 rfl) ?_
  refine J_getF (ov := 69) (dd := 1001) 86 rfl fl_12_7 rfl (by decide) rfl ob_68 (Ob.lt ob_68) (D_X12_isHere_0.at 45 rfl) ?_
  refine J_aload_n 87 rfl 0 0 rfl ⟨by decide, by decide⟩ (D_X12_isHere_0.at 46 rfl) ?_
  refine J_getI (z := (h 68 2)) 90 rfl fl_12_233 rfl ob_68 (Ob.lt ob_68) (D_X12_isHere_0.at 47 rfl) rfl ?_
  refine J_iload_n 91 rfl 3 2 rfl (D_X12_isHere_1.at 0 rfl) ?_
  refine J_iadd 92 rfl (D_X12_isHere_1.at 1 rfl) ?_
  obtain ⟨s28, T⟩ := T
  refine J_iald 93 rfl ar_69 (Ar.lt ar_69) s28 (D_X12_isHere_1.at 2 rfl) ?_
  refine J_aload_n 94 rfl 1 1 rfl (Ar.rng hv1) (D_X12_isHere_1.at 3 rfl) ?_
  refine J_iload_n 95 rfl 3 2 rfl (D_X12_isHere_1.at 4 rfl) ?_
  obtain ⟨s29, T⟩ := T
  refine J_cald 96 rfl hv1 (Ar.lt hv1) s29 (D_X12_isHere_1.at 5 rfl) ?_
  obtain ⟨s30, T⟩ := T
  obtain ⟨s31, T⟩ := T
  refine J_icmp_eq 99 rfl 101 s30 s31 (D_X12_isHere_1.at 6 rfl) (by decide) (fun c32 => ?_) (fun c32 => ?_)
  · replace T := T.1 c32
    refine J_iinc (v := (v3 + 1)) (lv' := [(3, vI (v3 + 1)), (0, vR 68), (1, vR v1)]) 104 rfl 3 2 1 rfl rfl (by decide) rfl (D_X12_isHere_1.at 9 rfl) ?_
    refine J_goto 76 (D_X12_isHere_1.at 10 rfl) (by decide) ?_
    exact J_sub (lv' := [(0, vR 68), (1, vR v1), (3, vI (v3 + 1))]) [1, 2, 0] rfl T
  replace T := T.2 c32
  refine J_iconst 100 rfl (D_X12_isHere_1.at 7 rfl) ?_
  exact J_zret rfl (Or.inl rfl) (D_X12_isHere_1.at 8 rfl) T
theorem c_X12_number {w : Wd} {a1 a2 : Int} {h : Hp} {K : Int → Hp → Prop} (T : (inR (h 68 5)) ∧ ((((h 68 5) = 0) → (C_X12_look w h (fun r2 h3 => (inR r2) ∧ (((r2 < 48) → (L_X12_number_30 w h3 K)) ∧ (¬ (r2 < 48) → ((inR r2) ∧ (((r2 > 57) → (L_X12_number_30 w h3 K)) ∧ (¬ (r2 > 57) → ((inR (h3 68 2)) ∧ ((inR (h3 68 4)) ∧ ((((h3 68 2) ≠ (h3 68 4)) → (L_X12_number_49 w a1 a2 (h3 68 2) 0 h3 K)) ∧ (¬ ((h3 68 2) ≠ (h3 68 4)) → (L_X12_number_30 w h3 K))))))))))))) ∧ (¬ ((h 68 5) = 0) → (K 0 h)))) : C_X12_number w a1 a2 h K := by
  refine CGm_of2 (by decide) (by decide) trivial (Nat.le_of_ble_eq_true rfl) ?_
  refine J_aload_n 1 rfl 0 0 rfl ⟨by decide, by decide⟩ (D_X12_number_0.at 0 rfl) ?_
  refine J_getI (z := (h 68 5)) 4 rfl fl_12_227 rfl ob_68 (Ob.lt ob_68) (D_X12_number_0.at 1 rfl) rfl ?_
  obtain ⟨s1, T⟩ := T
  refine J_if_eq 7 rfl 9 s1 (D_X12_number_0.at 2 rfl) (by decide) (fun c12 => ?_) (fun c12 => ?_)
  · replace T := T.1 c12
    refine J_aload_n 10 rfl 0 0 rfl ⟨by decide, by decide⟩ (D_X12_number_0.at 5 rfl) ?_
    refine J_callV (d' := 1) (sr := fun z => [vI z]) (as := []) (st := []) (o := 68) 13 rfl ok_X12_look im_X12_look se_X12_look ml_12_239 isC_12 ob_68 (Ob.lt ob_68) rfl (by decide) ⟨Nat.le_refl _, Nat.le_refl _⟩ (Nat.le_of_ble_eq_true rfl) (D_X12_number_0.at 6 rfl) (fun _ => rfl) T (fun r2 h3 T b4 => ?_)
    refine J_callS (d' := 1) (K1 := fun z h0 => rok (some .boolean) z → JG w true m_X12_number 2 NT NT 16 [(0, vR 68), (1, vI a1), (2, vI a2)] [vI z] h0 _) (sr := fun z => [vI z]) (as := [vI r2]) (st := []) 16 rfl ok_X12_isDigit sm_X12_isDigit ml_12_264 rfl (by decide) ⟨Nat.le_refl _, Nat.le_refl _⟩ (Nat.le_of_ble_eq_true rfl) (D_X12_number_0.at 7 rfl) (fun _ => rfl) (CGm_of2 (by decide) (by decide) trivial (Nat.le_of_ble_eq_true rfl) ?_) (fun _ _ kq hb => kq hb)
    refine J_iload_n 1 rfl 0 0 rfl (D_X12_isDigit_0.at 0 rfl) ?_
    refine J_bipush 3 rfl ⟨by decide, by decide⟩ (D_X12_isDigit_0.at 1 rfl) ?_
    obtain ⟨s5, T⟩ := T
    refine J_icmp_lt 6 rfl 16 s5 ⟨by decide, by decide⟩ (D_X12_isDigit_0.at 2 rfl) (by decide) (fun c11 => ?_) (fun c11 => ?_)
    · replace T := T.1 c11
      refine J_iconst 17 rfl (D_X12_isDigit_0.at 8 rfl) ?_
      refine J_zret rfl (Or.inl rfl) (D_X12_isDigit_0.at 9 rfl) (fun _ => ?_)
      refine J_if_eq 19 rfl 30 ⟨by decide, by decide⟩ (D_X12_number_0.at 8 rfl) (by decide) (fun _ => ?_) (fun c => absurd (by decide) c)
      exact J_sub (lv' := [(0, vR 68)]) [0] rfl T
    replace T := T.2 c11
    refine J_iload_n 7 rfl 0 0 rfl (D_X12_isDigit_0.at 3 rfl) ?_
    refine J_bipush 9 rfl ⟨by decide, by decide⟩ (D_X12_isDigit_0.at 4 rfl) ?_
    obtain ⟨s6, T⟩ := T
    refine J_icmp_gt 12 rfl 16 s6 ⟨by decide, by decide⟩ (D_X12_isDigit_0.at 5 rfl) (by decide) (fun c10 => ?_) (fun c10 => ?_)
    · replace T := T.1 c10
      refine J_iconst 17 rfl (D_X12_isDigit_0.at 8 rfl) ?_
      refine J_zret rfl (Or.inl rfl) (D_X12_isDigit_0.at 9 rfl) (fun _ => ?_)
      refine J_if_eq 19 rfl 30 ⟨by decide, by decide⟩ (D_X12_number_0.at 8 rfl) (by decide) (fun _ => ?_) (fun c => absurd (by decide) c)
      exact J_sub (lv' := [(0, vR 68)]) [0] rfl T
    replace T := T.2 c10
    refine J_iconst 13 rfl (D_X12_isDigit_0.at 6 rfl) ?_
    refine J_goto 17 (D_X12_isDigit_0.at 7 rfl) (by decide) ?_
    refine J_zret rfl (Or.inr rfl) (D_X12_isDigit_0.at 9 rfl) (fun _ => ?_)
    refine J_if_eq 19 rfl 30 ⟨by decide, by decide⟩ (D_X12_number_0.at 8 rfl) (by decide) (fun c => absurd c (by decide)) (fun _ => ?_)
    refine J_aload_n 20 rfl 0 0 rfl ⟨by decide, by decide⟩ (D_X12_number_0.at 9 rfl) ?_
    refine J_getI (z := (h3 68 2)) 23 rfl fl_12_233 rfl ob_68 (Ob.lt ob_68) (D_X12_number_0.at 10 rfl) rfl ?_
    refine J_aload_n 24 rfl 0 0 rfl ⟨by decide, by decide⟩ (D_X12_number_0.at 11 rfl) ?_
    refine J_getI (z := (h3 68 4)) 27 rfl fl_12_247 rfl ob_68 (Ob.lt ob_68) (D_X12_number_0.at 12 rfl) rfl ?_
    obtain ⟨s7, T⟩ := T
    obtain ⟨s8, T⟩ := T
    refine J_icmp_ne 30 rfl 41 s7 s8 (D_X12_number_0.at 13 rfl) (by decide) (fun c9 => ?_) (fun c9 => ?_)
    · replace T := T.1 c9
      refine J_aload_n 42 rfl 0 0 rfl ⟨by decide, by decide⟩ (D_X12_number_0.at 21 rfl) ?_
      refine J_getI (z := (h3 68 2)) 45 rfl fl_12_233 rfl ob_68 (Ob.lt ob_68) (D_X12_number_0.at 22 rfl) rfl ?_
      refine J_istore_n (lv' := [(3, vI (h3 68 2)), (0, vR 68), (1, vI a1), (2, vI a2)]) 46 rfl 3 (by decide) rfl (D_X12_number_0.at 23 rfl) ?_
      refine J_iconst 47 rfl (D_X12_number_0.at 24 rfl) ?_
      refine J_istore (lv' := [(4, vI 0), (3, vI (h3 68 2)), (0, vR 68), (1, vI a1), (2, vI a2)]) 49 rfl 4 (by decide) rfl (D_X12_number_0.at 25 rfl) ?_
      exact J_sub (lv' := [(0, vR 68), (1, vI a1), (2, vI a2), (3, vI (h3 68 2)), (4, vI 0)]) [2, 3, 4, 1, 0] rfl T
    replace T := T.2 c9
    exact J_sub (lv' := [(0, vR 68)]) [0] rfl T
  replace T := T.2 c12
  refine J_iconst 8 rfl (D_X12_number_0.at 3 rfl) ?_
  exact J_iret rfl (D_X12_number_0.at 4 rfl) T
theorem l_X12_number_49 {w : Wd} {v1 v2 v3 v4 : Int} {h : Hp} {K : Int → Hp → Prop} (T : (inR (h 68 2)) ∧ ((inR (h 68 3)) ∧ ((((h 68 2) ≥ (h 68 3)) → (L_X12_number_129 w v1 v2 v3 v4 h K)) ∧ (¬ ((h 68 2) ≥ (h 68 3)) → ((0 ≤ (h 68 2) ∧ (h 68 2) < 1600) ∧ ((inR (h 69 (h 68 2))) ∧ ((((h 69 (h 68 2)) < 48) → (L_X12_number_129 w v1 v2 v3 v4 h K)) ∧ (¬ ((h 69 (h 68 2)) < 48) → ((inR (h 69 (h 68 2))) ∧ ((((h 69 (h 68 2)) > 57) → (L_X12_number_129 w v1 v2 v3 v4 h K)) ∧ (¬ ((h 69 (h 68 2)) > 57) → ((inR ((h 68 2) - v3)) ∧ (((((h 68 2) - v3) ≠ 4) → ((0 ≤ (h 68 2) ∧ (h 68 2) < 1600) ∧ (∀ h20 : Hp, h20 = hu h 68 2 ((h 68 2) + 1) → L_X12_number_49 w v1 v2 v3 (((10 * v4) + (h 69 (h 68 2))) - 48) h20 K))) ∧ (¬ (((h 68 2) - v3) ≠ 4) → (C_X12_fail w 1 (h 68 2) h (fun _ h23 => K 0 h23)))))))))))))))) : L_X12_number_49 w v1 v2 v3 v4 h K := by
  unfold L_X12_number_49
  refine J_aload_n 50 rfl 0 0 rfl ⟨by decide, by decide⟩ (D_X12_number_0.at 26 rfl) ?_
  refine J_getI (z := (h 68 2)) 53 rfl fl_12_233 rfl ob_68 (Ob.lt ob_68) (D_X12_number_0.at 27 rfl) rfl ?_
  refine J_aload_n 54 rfl 0 0 rfl ⟨by decide, by decide⟩ (D_X12_number_0.at 28 rfl) ?_
  refine J_getI (z := (h 68 3)) 57 rfl fl_12_236 rfl ob_68 (Ob.lt ob_68) (D_X12_number_0.at 29 rfl) rfl ?_
  obtain ⟨s13, T⟩ := T
  obtain ⟨s14, T⟩ := T
  refine J_icmp_ge 60 rfl 129 s13 s14 (D_X12_number_0.at 30 rfl) (by decide) (fun c28 => ?_) (fun c28 => ?_)
  · replace T := T.1 c28
    exact T
  replace T := T.2 c28
  refine J_aload_n 61 rfl 0 0 rfl ⟨by decide, by decide⟩ (D_X12_number_0.at 31 rfl) ?_
  refine J_getF (ov := 69) (dd := 1001) 64 rfl fl_12_7 rfl (by decide) rfl ob_68 (Ob.lt ob_68) (D_X12_number_0.at 32 rfl) ?_
  refine J_aload_n 65 rfl 0 0 rfl ⟨by decide, by decide⟩ (D_X12_number_0.at 33 rfl) ?_
  refine J_getI (z := (h 68 2)) 68 rfl fl_12_233 rfl ob_68 (Ob.lt ob_68) (D_X12_number_0.at 34 rfl) rfl ?_
  obtain ⟨s15, T⟩ := T
  refine J_iald 69 rfl ar_69 (Ar.lt ar_69) s15 (D_X12_number_0.at 35 rfl) ?_
  refine J_callS (d' := 1) (K1 := fun z h0 => rok (some .boolean) z → JG w true m_X12_number 2 NT NT 72 [(0, vR 68), (1, vI v1), (2, vI v2), (3, vI v3), (4, vI v4)] [vI z] h0 _) (sr := fun z => [vI z]) (as := [vI (h 69 (h 68 2))]) (st := []) 72 rfl ok_X12_isDigit sm_X12_isDigit ml_12_264 rfl (by decide) ⟨Nat.le_refl _, Nat.le_refl _⟩ (Nat.le_of_ble_eq_true rfl) (D_X12_number_0.at 36 rfl) (fun _ => rfl) (CGm_of2 (by decide) (by decide) trivial (Nat.le_of_ble_eq_true rfl) ?_) (fun _ _ kq hb => kq hb)
  refine J_iload_n 1 rfl 0 0 rfl (D_X12_isDigit_0.at 0 rfl) ?_
  refine J_bipush 3 rfl ⟨by decide, by decide⟩ (D_X12_isDigit_0.at 1 rfl) ?_
  obtain ⟨s16, T⟩ := T
  refine J_icmp_lt 6 rfl 16 s16 ⟨by decide, by decide⟩ (D_X12_isDigit_0.at 2 rfl) (by decide) (fun c27 => ?_) (fun c27 => ?_)
  · replace T := T.1 c27
    refine J_iconst 17 rfl (D_X12_isDigit_0.at 8 rfl) ?_
    refine J_zret rfl (Or.inl rfl) (D_X12_isDigit_0.at 9 rfl) (fun _ => ?_)
    refine J_if_eq 75 rfl 129 ⟨by decide, by decide⟩ (D_X12_number_0.at 37 rfl) (by decide) (fun _ => ?_) (fun c => absurd (by decide) c)
    exact T
  replace T := T.2 c27
  refine J_iload_n 7 rfl 0 0 rfl (D_X12_isDigit_0.at 3 rfl) ?_
  refine J_bipush 9 rfl ⟨by decide, by decide⟩ (D_X12_isDigit_0.at 4 rfl) ?_
  obtain ⟨s17, T⟩ := T
  refine J_icmp_gt 12 rfl 16 s17 ⟨by decide, by decide⟩ (D_X12_isDigit_0.at 5 rfl) (by decide) (fun c26 => ?_) (fun c26 => ?_)
  · replace T := T.1 c26
    refine J_iconst 17 rfl (D_X12_isDigit_0.at 8 rfl) ?_
    refine J_zret rfl (Or.inl rfl) (D_X12_isDigit_0.at 9 rfl) (fun _ => ?_)
    refine J_if_eq 75 rfl 129 ⟨by decide, by decide⟩ (D_X12_number_0.at 37 rfl) (by decide) (fun _ => ?_) (fun c => absurd (by decide) c)
    exact T
  replace T := T.2 c26
  refine J_iconst 13 rfl (D_X12_isDigit_0.at 6 rfl) ?_
  refine J_goto 17 (D_X12_isDigit_0.at 7 rfl) (by decide) ?_
  refine J_zret rfl (Or.inr rfl) (D_X12_isDigit_0.at 9 rfl) (fun _ => ?_)
  refine J_if_eq 75 rfl 129 ⟨by decide, by decide⟩ (D_X12_number_0.at 37 rfl) (by decide) (fun c => absurd c (by decide)) (fun _ => ?_)
  refine J_aload_n 76 rfl 0 0 rfl ⟨by decide, by decide⟩ (D_X12_number_0.at 38 rfl) ?_
  refine J_getI (z := (h 68 2)) 79 rfl fl_12_233 rfl ob_68 (Ob.lt ob_68) (D_X12_number_0.at 39 rfl) rfl ?_
  refine J_iload_n 80 rfl 3 3 rfl (D_X12_number_0.at 40 rfl) ?_
  refine J_isub 81 rfl (D_X12_number_0.at 41 rfl) ?_
  refine J_iconst 82 rfl (D_X12_number_0.at 42 rfl) ?_
  obtain ⟨s18, T⟩ := T
  refine J_icmp_ne 85 rfl 96 s18 ⟨by decide, by decide⟩ (D_X12_number_0.at 43 rfl) (by decide) (fun c25 => ?_) (fun c25 => ?_)
  · replace T := T.1 c25
    refine J_bipush 98 rfl ⟨by decide, by decide⟩ (D_X12_number_1.at 3 rfl) ?_
    refine J_iload 100 rfl 4 4 rfl (D_X12_number_1.at 4 rfl) ?_
    refine J_imul 101 rfl (D_X12_number_1.at 5 rfl) ?_
    refine J_aload_n 102 rfl 0 0 rfl ⟨by decide, by decide⟩ (D_X12_number_1.at 6 rfl) ?_
    refine J_getF (ov := 69) (dd := 1001) 105 rfl fl_12_7 rfl (by decide) rfl ob_68 (Ob.lt ob_68) (D_X12_number_1.at 7 rfl) ?_
    refine J_aload_n 106 rfl 0 0 rfl ⟨by decide, by decide⟩ (D_X12_number_1.at 8 rfl) ?_
    refine J_getI (z := (h 68 2)) 109 rfl fl_12_233 rfl ob_68 (Ob.lt ob_68) (D_X12_number_1.at 9 rfl) rfl ?_
    obtain ⟨s19, T⟩ := T
    refine J_iald 110 rfl ar_69 (Ar.lt ar_69) s19 (D_X12_number_1.at 10 rfl) ?_
    refine J_iadd 111 rfl (D_X12_number_1.at 11 rfl) ?_
    refine J_bipush 113 rfl ⟨by decide, by decide⟩ (D_X12_number_1.at 12 rfl) ?_
    refine J_isub 114 rfl (D_X12_number_1.at 13 rfl) ?_
    refine J_istore (lv' := [(4, vI (((10 * v4) + (h 69 (h 68 2))) - 48)), (0, vR 68), (1, vI v1), (2, vI v2), (3, vI v3)]) 116 rfl 4 (by decide) rfl (D_X12_number_1.at 14 rfl) ?_
    refine J_aload_n 117 rfl 0 1 rfl ⟨by decide, by decide⟩ (D_X12_number_1.at 15 rfl) ?_
    refine J_dup 118 rfl rfl (D_X12_number_1.at 16 rfl) ?_
    refine J_getI (z := (h 68 2)) 121 rfl fl_12_233 rfl ob_68 (Ob.lt ob_68) (D_X12_number_1.at 17 rfl) rfl ?_
    refine J_iconst 122 rfl (D_X12_number_1.at 18 rfl) ?_
    refine J_iadd 123 rfl (D_X12_number_1.at 19 rfl) ?_
    refine J_putI 126 rfl fl_12_233 rfl rfl ob_68 (Ob.lt ob_68) (D_X12_number_1.at 20 rfl) (fun h20 e21 => ?_)
    replace T := T h20 e21
    refine J_goto 49 (D_X12_number_1.at 21 rfl) (by decide) ?_
    exact J_sub (lv' := [(0, vR 68), (1, vI v1), (2, vI v2), (3, vI v3), (4, vI (((10 * v4) + (h 69 (h 68 2))) - 48))]) [1, 2, 3, 4, 0] rfl T
  replace T := T.2 c25
  refine J_aload_n 86 rfl 0 0 rfl ⟨by decide, by decide⟩ (D_X12_number_0.at 44 rfl) ?_
  refine J_iconst 87 rfl (D_X12_number_0.at 45 rfl) ?_
  refine J_aload_n 88 rfl 0 0 rfl ⟨by decide, by decide⟩ (D_X12_number_0.at 46 rfl) ?_
  refine J_getI (z := (h 68 2)) 91 rfl fl_12_233 rfl ob_68 (Ob.lt ob_68) (D_X12_number_0.at 47 rfl) rfl ?_
  refine J_callV (d' := 1) (sr := fun z => []) (as := [vI 1, vI (h 68 2)]) (st := []) (o := 68) 94 rfl ok_X12_fail im_X12_fail se_X12_fail ml_12_257 isC_12 ob_68 (Ob.lt ob_68) rfl (by decide) ⟨Nat.le_refl _, Nat.le_refl _⟩ (Nat.le_of_ble_eq_true rfl) (D_X12_number_1.at 0 rfl) (fun _ => rfl) T (fun r22 h23 T b24 => ?_)
  refine J_iconst 95 rfl (D_X12_number_1.at 1 rfl) ?_
  exact J_iret rfl (D_X12_number_1.at 2 rfl) T
theorem l_X12_number_129 {w : Wd} {v1 v2 v3 v4 : Int} {h : Hp} {K : Int → Hp → Prop} (T : ∀ h29 : Hp, h29 = hu h 68 4 (h 68 2) → (inR v4) ∧ ((inR v1) ∧ ((inR v2) ∧ ((inL v4) ∧ ((inL v1) ∧ (((v4 < v1) → (C_X12_fail w 2 v3 h29 (fun _ h37 => L_X12_number_156 w v4 h37 K))) ∧ (¬ (v4 < v1) → ((inL v4) ∧ ((inL v2) ∧ (((v4 > v2) → (C_X12_fail w 2 v3 h29 (fun _ h42 => L_X12_number_156 w v4 h42 K))) ∧ (¬ (v4 > v2) → (L_X12_number_156 w v4 h29 K)))))))))))) : L_X12_number_129 w v1 v2 v3 v4 h K := by
  unfold L_X12_number_129
  refine J_aload_n 130 rfl 0 0 rfl ⟨by decide, by decide⟩ (D_X12_number_1.at 22 rfl) ?_
  refine J_aload_n 131 rfl 0 0 rfl ⟨by decide, by decide⟩ (D_X12_number_1.at 23 rfl) ?_
  refine J_getI (z := (h 68 2)) 134 rfl fl_12_233 rfl ob_68 (Ob.lt ob_68) (D_X12_number_1.at 24 rfl) rfl ?_
  refine J_putI 137 rfl fl_12_247 rfl rfl ob_68 (Ob.lt ob_68) (D_X12_number_1.at 25 rfl) (fun h29 e30 => ?_)
  replace T := T h29 e30
  refine J_iload 139 rfl 4 4 rfl (D_X12_number_1.at 26 rfl) ?_
  obtain ⟨s31, T⟩ := T
  refine J_i2l 140 rfl s31 (D_X12_number_1.at 27 rfl) ?_
  refine J_iload_n 141 rfl 1 1 rfl (D_X12_number_1.at 28 rfl) ?_
  obtain ⟨s32, T⟩ := T
  refine J_i2l 142 rfl s32 (D_X12_number_1.at 29 rfl) ?_
  refine J_iload_n 143 rfl 2 2 rfl (D_X12_number_1.at 30 rfl) ?_
  obtain ⟨s33, T⟩ := T
  refine J_i2l 144 rfl s33 (D_X12_number_1.at 31 rfl) ?_
  refine J_callS (d' := 1) (K1 := fun z h0 => rok (some .boolean) z → JG w true m_X12_number 2 NT NT 147 [(0, vR 68), (1, vI v1), (2, vI v2), (3, vI v3), (4, vI v4)] [vI z] h0 _) (sr := fun z => [vI z]) (as := [vL v4, vL v1, vL v2]) (st := []) 147 rfl ok_X12_isIn sm_X12_isIn ml_12_267 rfl (by decide) ⟨Nat.le_refl _, Nat.le_refl _⟩ (Nat.le_of_ble_eq_true rfl) (D_X12_number_1.at 32 rfl) (fun _ => rfl) (CGm_of2 (by decide) (by decide) trivial (Nat.le_of_ble_eq_true rfl) ?_) (fun _ _ kq hb => kq hb)
  refine J_lload_n 1 rfl 0 0 rfl (D_X12_isIn_0.at 0 rfl) ?_
  refine J_lload_n 2 rfl 2 1 rfl (D_X12_isIn_0.at 1 rfl) ?_
  obtain ⟨s34, T⟩ := T
  obtain ⟨s35, T⟩ := T
  refine J_lcmp_lt 6 rfl 17 s34 s35 (D_X12_isIn_0.at 2 rfl) (D_X12_isIn_0.at 3 rfl) (by decide) (fun c45 => ?_) (fun c45 => ?_)
  · replace T := T.1 c45
    refine J_iconst 18 rfl (D_X12_isIn_0.at 10 rfl) ?_
    refine J_zret rfl (Or.inl rfl) (D_X12_isIn_0.at 11 rfl) (fun _ => ?_)
    refine J_if_ne 150 rfl 156 ⟨by decide, by decide⟩ (D_X12_number_1.at 33 rfl) (by decide) (fun c => absurd c (by decide)) (fun _ => ?_)
    refine J_aload_n 151 rfl 0 0 rfl ⟨by decide, by decide⟩ (D_X12_number_1.at 34 rfl) ?_
    refine J_iconst 152 rfl (D_X12_number_1.at 35 rfl) ?_
    refine J_iload_n 153 rfl 3 3 rfl (D_X12_number_1.at 36 rfl) ?_
    refine J_callV (d' := 1) (sr := fun z => []) (as := [vI 2, vI v3]) (st := []) (o := 68) 156 rfl ok_X12_fail im_X12_fail se_X12_fail ml_12_257 isC_12 ob_68 (Ob.lt ob_68) rfl (by decide) ⟨Nat.le_refl _, Nat.le_refl _⟩ (Nat.le_of_ble_eq_true rfl) (D_X12_number_1.at 37 rfl) (fun _ => rfl) T (fun r36 h37 T b38 => ?_)
    exact J_sub (lv' := [(4, vI v4)]) [4] rfl T
  replace T := T.2 c45
  refine J_lload_n 7 rfl 0 0 rfl (D_X12_isIn_0.at 4 rfl) ?_
  refine J_lload 9 rfl 4 2 rfl (D_X12_isIn_0.at 5 rfl) ?_
  obtain ⟨s39, T⟩ := T
  obtain ⟨s40, T⟩ := T
  refine J_lcmp_gt 13 rfl 17 s39 s40 (D_X12_isIn_0.at 6 rfl) (D_X12_isIn_0.at 7 rfl) (by decide) (fun c44 => ?_) (fun c44 => ?_)
  · replace T := T.1 c44
    refine J_iconst 18 rfl (D_X12_isIn_0.at 10 rfl) ?_
    refine J_zret rfl (Or.inl rfl) (D_X12_isIn_0.at 11 rfl) (fun _ => ?_)
    refine J_if_ne 150 rfl 156 ⟨by decide, by decide⟩ (D_X12_number_1.at 33 rfl) (by decide) (fun c => absurd c (by decide)) (fun _ => ?_)
    refine J_aload_n 151 rfl 0 0 rfl ⟨by decide, by decide⟩ (D_X12_number_1.at 34 rfl) ?_
    refine J_iconst 152 rfl (D_X12_number_1.at 35 rfl) ?_
    refine J_iload_n 153 rfl 3 3 rfl (D_X12_number_1.at 36 rfl) ?_
    refine J_callV (d' := 1) (sr := fun z => []) (as := [vI 2, vI v3]) (st := []) (o := 68) 156 rfl ok_X12_fail im_X12_fail se_X12_fail ml_12_257 isC_12 ob_68 (Ob.lt ob_68) rfl (by decide) ⟨Nat.le_refl _, Nat.le_refl _⟩ (Nat.le_of_ble_eq_true rfl) (D_X12_number_1.at 37 rfl) (fun _ => rfl) T (fun r41 h42 T b43 => ?_)
    exact J_sub (lv' := [(4, vI v4)]) [4] rfl T
  replace T := T.2 c44
  refine J_iconst 14 rfl (D_X12_isIn_0.at 8 rfl) ?_
  refine J_goto 18 (D_X12_isIn_0.at 9 rfl) (by decide) ?_
  refine J_zret rfl (Or.inr rfl) (D_X12_isIn_0.at 11 rfl) (fun _ => ?_)
  refine J_if_ne 150 rfl 156 ⟨by decide, by decide⟩ (D_X12_number_1.at 33 rfl) (by decide) (fun _ => ?_) (fun c => absurd (by decide) c)
  exact J_sub (lv' := [(4, vI v4)]) [4] rfl T
theorem l_X12_number_156 {w : Wd} {v4 : Int} {h : Hp} {K : Int → Hp → Prop} (T : K v4 h) : L_X12_number_156 w v4 h K := by
  unfold L_X12_number_156
  refine J_iload 158 rfl 4 0 rfl (D_X12_number_1.at 38 rfl) ?_
  exact J_iret rfl (D_X12_number_1.at 39 rfl) T
theorem l_X12_number_30 {w : Wd} {h : Hp} {K : Int → Hp → Prop} (T : C_X12_fail w 1 (h 68 2) h (fun _ h47 => K 0 h47)) : L_X12_number_30 w h K := by
  unfold L_X12_number_30
  refine J_aload_n 31 rfl 0 0 rfl ⟨by decide, by decide⟩ (D_X12_number_0.at 14 rfl) ?_
  refine J_iconst 32 rfl (D_X12_number_0.at 15 rfl) ?_
  refine J_aload_n 33 rfl 0 0 rfl ⟨by decide, by decide⟩ (D_X12_number_0.at 16 rfl) ?_
  refine J_getI (z := (h 68 2)) 36 rfl fl_12_233 rfl ob_68 (Ob.lt ob_68) (D_X12_number_0.at 17 rfl) rfl ?_
  refine J_callV (d' := 1) (sr := fun z => []) (as := [vI 1, vI (h 68 2)]) (st := []) (o := 68) 39 rfl ok_X12_fail im_X12_fail se_X12_fail ml_12_257 isC_12 ob_68 (Ob.lt ob_68) rfl (by decide) ⟨Nat.le_refl _, Nat.le_refl _⟩ (Nat.le_of_ble_eq_true rfl) (D_X12_number_0.at 18 rfl) (fun _ => rfl) T (fun r46 h47 T b48 => ?_)
  refine J_iconst 40 rfl (D_X12_number_0.at 19 rfl) ?_
  exact J_iret rfl (D_X12_number_0.at 20 rfl) T
theorem c_X12_takesSign {w : Wd} {a1 : Int} {h : Hp} {K : Int → Hp → Prop} (T : (inR (h 68 5)) ∧ ((((h 68 5) ≠ 0) → (K 0 h)) ∧ (¬ ((h 68 5) ≠ 0) → (C_X12_look w h (fun r2 h3 => (inR r2) ∧ ((inR a1) ∧ (((r2 = a1) → (∀ h7 : Hp, h7 = hu h3 68 2 ((h3 68 2) + 1) → K 1 h7)) ∧ (¬ (r2 = a1) → (K 0 h3))))))))) : C_X12_takesSign w a1 h K := by
  refine CGm_of2 (by decide) (by decide) trivial (Nat.le_of_ble_eq_true rfl) ?_
  refine J_aload_n 1 rfl 0 0 rfl ⟨by decide, by decide⟩ (D_X12_takesSign_0.at 0 rfl) ?_
  refine J_getI (z := (h 68 5)) 4 rfl fl_12_227 rfl ob_68 (Ob.lt ob_68) (D_X12_takesSign_0.at 1 rfl) rfl ?_
  obtain ⟨s1, T⟩ := T
  refine J_if_ne 7 rfl 15 s1 (D_X12_takesSign_0.at 2 rfl) (by decide) (fun c10 => ?_) (fun c10 => ?_)
  · replace T := T.1 c10
    refine J_iconst 16 rfl (D_X12_takesSign_0.at 7 rfl) ?_
    exact J_zret rfl (Or.inl rfl) (D_X12_takesSign_0.at 8 rfl) T
  replace T := T.2 c10
  refine J_aload_n 8 rfl 0 0 rfl ⟨by decide, by decide⟩ (D_X12_takesSign_0.at 3 rfl) ?_
  refine J_callV (d' := 1) (sr := fun z => [vI z]) (as := []) (st := []) (o := 68) 11 rfl ok_X12_look im_X12_look se_X12_look ml_12_239 isC_12 ob_68 (Ob.lt ob_68) rfl (by decide) ⟨Nat.le_refl _, Nat.le_refl _⟩ (Nat.le_of_ble_eq_true rfl) (D_X12_takesSign_0.at 4 rfl) (fun _ => rfl) T (fun r2 h3 T b4 => ?_)
  refine J_iload_n 12 rfl 1 1 rfl (D_X12_takesSign_0.at 5 rfl) ?_
  obtain ⟨s5, T⟩ := T
  obtain ⟨s6, T⟩ := T
  refine J_icmp_eq 15 rfl 17 s5 s6 (D_X12_takesSign_0.at 6 rfl) (by decide) (fun c9 => ?_) (fun c9 => ?_)
  · replace T := T.1 c9
    refine J_aload_n 18 rfl 0 0 rfl ⟨by decide, by decide⟩ (D_X12_takesSign_0.at 9 rfl) ?_
    refine J_dup 19 rfl rfl (D_X12_takesSign_0.at 10 rfl) ?_
    refine J_getI (z := (h3 68 2)) 22 rfl fl_12_233 rfl ob_68 (Ob.lt ob_68) (D_X12_takesSign_0.at 11 rfl) rfl ?_
    refine J_iconst 23 rfl (D_X12_takesSign_0.at 12 rfl) ?_
    refine J_iadd 24 rfl (D_X12_takesSign_0.at 13 rfl) ?_
    refine J_putI 27 rfl fl_12_233 rfl rfl ob_68 (Ob.lt ob_68) (D_X12_takesSign_0.at 14 rfl) (fun h7 e8 => ?_)
    replace T := T h7 e8
    refine J_iconst 28 rfl (D_X12_takesSign_0.at 15 rfl) ?_
    exact J_zret rfl (Or.inr rfl) (D_X12_takesSign_0.at 16 rfl) T
  replace T := T.2 c9
  refine J_iconst 16 rfl (D_X12_takesSign_0.at 7 rfl) ?_
  exact J_zret rfl (Or.inl rfl) (D_X12_takesSign_0.at 8 rfl) T
theorem c_X12_isFull {w : Wd} {a1 a2 a3 : Int} {h : Hp} {K : Int → Hp → Prop} (T : (inR (h 68 5)) ∧ ((((h 68 5) ≠ 0) → ((inR (h 68 5)) ∧ ((((h 68 5) = 0) → (K 0 h)) ∧ (¬ ((h 68 5) = 0) → (K 1 h))))) ∧ (¬ ((h 68 5) ≠ 0) → ((0 ≤ a1 ∧ a1 < 6) ∧ ((inR (h 93 a1)) ∧ ((inR a2) ∧ ((((h 93 a1) ≠ a2) → ((inR (h 68 5)) ∧ ((((h 68 5) = 0) → (K 0 h)) ∧ (¬ ((h 68 5) = 0) → (K 1 h))))) ∧ (¬ ((h 93 a1) ≠ a2) → (C_X12_fail w 5 a3 h (fun _ h10 => (inR (h10 68 5)) ∧ ((((h10 68 5) = 0) → (K 0 h10)) ∧ (¬ ((h10 68 5) = 0) → (K 1 h10))))))))))))) : C_X12_isFull w a1 a2 a3 h K := by
  refine CGm_of2 (by decide) (by decide) trivial (Nat.le_of_ble_eq_true rfl) ?_
  refine J_aload_n 1 rfl 0 0 rfl ⟨by decide, by decide⟩ (D_X12_isFull_0.at 0 rfl) ?_
  refine J_getI (z := (h 68 5)) 4 rfl fl_12_227 rfl ob_68 (Ob.lt ob_68) (D_X12_isFull_0.at 1 rfl) rfl ?_
  obtain ⟨s1, T⟩ := T
  refine J_if_ne 7 rfl 23 s1 (D_X12_isFull_0.at 2 rfl) (by decide) (fun c15 => ?_) (fun c15 => ?_)
  · replace T := T.1 c15
    refine J_aload_n 24 rfl 0 0 rfl ⟨by decide, by decide⟩ (D_X12_isFull_0.at 13 rfl) ?_
    refine J_getI (z := (h 68 5)) 27 rfl fl_12_227 rfl ob_68 (Ob.lt ob_68) (D_X12_isFull_0.at 14 rfl) rfl ?_
    obtain ⟨s2, T⟩ := T
    refine J_if_eq 30 rfl 34 s2 (D_X12_isFull_0.at 15 rfl) (by decide) (fun c3 => ?_) (fun c3 => ?_)
    · replace T := T.1 c3
      refine J_iconst 35 rfl (D_X12_isFull_0.at 18 rfl) ?_
      exact J_zret rfl (Or.inl rfl) (D_X12_isFull_0.at 19 rfl) T
    replace T := T.2 c3
    refine J_iconst 31 rfl (D_X12_isFull_0.at 16 rfl) ?_
    refine J_goto 35 (D_X12_isFull_0.at 17 rfl) (by decide) ?_
    exact J_zret rfl (Or.inr rfl) (D_X12_isFull_0.at 19 rfl) T
  replace T := T.2 c15
  refine J_aload_n 8 rfl 0 0 rfl ⟨by decide, by decide⟩ (D_X12_isFull_0.at 3 rfl) ?_
  refine J_getF (ov := 93) (dd := 1025) 11 rfl fl_12_87 rfl (by decide) rfl ob_68 (Ob.lt ob_68) (D_X12_isFull_0.at 4 rfl) ?_
  refine J_iload_n 12 rfl 1 1 rfl (D_X12_isFull_0.at 5 rfl) ?_
  obtain ⟨s4, T⟩ := T
  refine J_iald 13 rfl ar_93 (Ar.lt ar_93) s4 (D_X12_isFull_0.at 6 rfl) ?_
  refine J_iload_n 14 rfl 2 2 rfl (D_X12_isFull_0.at 7 rfl) ?_
  obtain ⟨s5, T⟩ := T
  obtain ⟨s6, T⟩ := T
  refine J_icmp_ne 17 rfl 23 s5 s6 (D_X12_isFull_0.at 8 rfl) (by decide) (fun c14 => ?_) (fun c14 => ?_)
  · replace T := T.1 c14
    refine J_aload_n 24 rfl 0 0 rfl ⟨by decide, by decide⟩ (D_X12_isFull_0.at 13 rfl) ?_
    refine J_getI (z := (h 68 5)) 27 rfl fl_12_227 rfl ob_68 (Ob.lt ob_68) (D_X12_isFull_0.at 14 rfl) rfl ?_
    obtain ⟨s7, T⟩ := T
    refine J_if_eq 30 rfl 34 s7 (D_X12_isFull_0.at 15 rfl) (by decide) (fun c8 => ?_) (fun c8 => ?_)
    · replace T := T.1 c8
      refine J_iconst 35 rfl (D_X12_isFull_0.at 18 rfl) ?_
      exact J_zret rfl (Or.inl rfl) (D_X12_isFull_0.at 19 rfl) T
    replace T := T.2 c8
    refine J_iconst 31 rfl (D_X12_isFull_0.at 16 rfl) ?_
    refine J_goto 35 (D_X12_isFull_0.at 17 rfl) (by decide) ?_
    exact J_zret rfl (Or.inr rfl) (D_X12_isFull_0.at 19 rfl) T
  replace T := T.2 c14
  refine J_aload_n 18 rfl 0 0 rfl ⟨by decide, by decide⟩ (D_X12_isFull_0.at 9 rfl) ?_
  refine J_iconst 19 rfl (D_X12_isFull_0.at 10 rfl) ?_
  refine J_iload_n 20 rfl 3 3 rfl (D_X12_isFull_0.at 11 rfl) ?_
  refine J_callV (d' := 1) (sr := fun z => []) (as := [vI 5, vI a3]) (st := []) (o := 68) 23 rfl ok_X12_fail im_X12_fail se_X12_fail ml_12_257 isC_12 ob_68 (Ob.lt ob_68) rfl (by decide) ⟨Nat.le_refl _, Nat.le_refl _⟩ (Nat.le_of_ble_eq_true rfl) (D_X12_isFull_0.at 12 rfl) (fun _ => rfl) T (fun r9 h10 T b11 => ?_)
  refine J_aload_n 24 rfl 0 0 rfl ⟨by decide, by decide⟩ (D_X12_isFull_0.at 13 rfl) ?_
  refine J_getI (z := (h10 68 5)) 27 rfl fl_12_227 rfl ob_68 (Ob.lt ob_68) (D_X12_isFull_0.at 14 rfl) rfl ?_
  obtain ⟨s12, T⟩ := T
  refine J_if_eq 30 rfl 34 s12 (D_X12_isFull_0.at 15 rfl) (by decide) (fun c13 => ?_) (fun c13 => ?_)
  · replace T := T.1 c13
    refine J_iconst 35 rfl (D_X12_isFull_0.at 18 rfl) ?_
    exact J_zret rfl (Or.inl rfl) (D_X12_isFull_0.at 19 rfl) T
  replace T := T.2 c13
  refine J_iconst 31 rfl (D_X12_isFull_0.at 16 rfl) ?_
  refine J_goto 35 (D_X12_isFull_0.at 17 rfl) (by decide) ?_
  exact J_zret rfl (Or.inr rfl) (D_X12_isFull_0.at 19 rfl) T
theorem c_X12_opens {w : Wd} {a1 a2 : Int} {h : Hp} {K : Int → Hp → Prop} (T : (inR (h 68 47)) ∧ ((((h 68 47) ≠ 6) → (∀ h2 : Hp, h2 = hu h 68 47 ((h 68 47) + 1) → (0 ≤ (h2 68 46) ∧ (h2 68 46) < 1700) ∧ (∀ h5 : Hp, h5 = hu h2 101 (h2 68 46) a1 → ∀ h7 : Hp, h7 = hu h5 68 46 ((h5 68 46) + 1) → K 0 h7))) ∧ (¬ ((h 68 47) ≠ 6) → (C_X12_fail w 4 a2 h (fun _ h10 => K 0 h10))))) : C_X12_opens w a1 a2 h K := by
  refine CGm_of2 (by decide) (by decide) trivial (Nat.le_of_ble_eq_true rfl) ?_
  refine J_aload_n 1 rfl 0 0 rfl ⟨by decide, by decide⟩ (D_X12_opens_0.at 0 rfl) ?_
  refine J_getI (z := (h 68 47)) 4 rfl fl_12_318 rfl ob_68 (Ob.lt ob_68) (D_X12_opens_0.at 1 rfl) rfl ?_
  refine J_bipush 6 rfl ⟨by decide, by decide⟩ (D_X12_opens_0.at 2 rfl) ?_
  obtain ⟨s1, T⟩ := T
  refine J_icmp_ne 9 rfl 16 s1 ⟨by decide, by decide⟩ (D_X12_opens_0.at 3 rfl) (by decide) (fun c12 => ?_) (fun c12 => ?_)
  · replace T := T.1 c12
    refine J_aload_n 17 rfl 0 0 rfl ⟨by decide, by decide⟩ (D_X12_opens_0.at 9 rfl) ?_
    refine J_dup 18 rfl rfl (D_X12_opens_0.at 10 rfl) ?_
    refine J_getI (z := (h 68 47)) 21 rfl fl_12_318 rfl ob_68 (Ob.lt ob_68) (D_X12_opens_0.at 11 rfl) rfl ?_
    refine J_iconst 22 rfl (D_X12_opens_0.at 12 rfl) ?_
    refine J_iadd 23 rfl (D_X12_opens_0.at 13 rfl) ?_
    refine J_putI 26 rfl fl_12_318 rfl rfl ob_68 (Ob.lt ob_68) (D_X12_opens_0.at 14 rfl) (fun h2 e3 => ?_)
    replace T := T h2 e3
    refine J_aload_n 27 rfl 0 0 rfl ⟨by decide, by decide⟩ (D_X12_opens_0.at 15 rfl) ?_
    refine J_getF (ov := 101) (dd := 1033) 30 rfl fl_12_112 rfl (by decide) rfl ob_68 (Ob.lt ob_68) (D_X12_opens_0.at 16 rfl) ?_
    refine J_aload_n 31 rfl 0 0 rfl ⟨by decide, by decide⟩ (D_X12_opens_0.at 17 rfl) ?_
    refine J_getI (z := (h2 68 46)) 34 rfl fl_12_315 rfl ob_68 (Ob.lt ob_68) (D_X12_opens_0.at 18 rfl) rfl ?_
    refine J_iload_n 35 rfl 1 1 rfl (D_X12_opens_0.at 19 rfl) ?_
    obtain ⟨s4, T⟩ := T
    refine J_iastH 36 rfl ar_101 (Ar.lt ar_101) s4 trivial (D_X12_opens_0.at 20 rfl) (fun h5 e6 => ?_)
    replace T := T h5 e6
    refine J_aload_n 37 rfl 0 0 rfl ⟨by decide, by decide⟩ (D_X12_opens_0.at 21 rfl) ?_
    refine J_dup 38 rfl rfl (D_X12_opens_0.at 22 rfl) ?_
    refine J_getI (z := (h5 68 46)) 41 rfl fl_12_315 rfl ob_68 (Ob.lt ob_68) (D_X12_opens_0.at 23 rfl) rfl ?_
    refine J_iconst 42 rfl (D_X12_opens_0.at 24 rfl) ?_
    refine J_iadd 43 rfl (D_X12_opens_0.at 25 rfl) ?_
    refine J_putI 46 rfl fl_12_315 rfl rfl ob_68 (Ob.lt ob_68) (D_X12_opens_0.at 26 rfl) (fun h7 e8 => ?_)
    replace T := T h7 e8
    exact J_vret rfl (D_X12_opens_0.at 27 rfl) T
  replace T := T.2 c12
  refine J_aload_n 10 rfl 0 0 rfl ⟨by decide, by decide⟩ (D_X12_opens_0.at 4 rfl) ?_
  refine J_iconst 11 rfl (D_X12_opens_0.at 5 rfl) ?_
  refine J_iload_n 12 rfl 2 2 rfl (D_X12_opens_0.at 6 rfl) ?_
  refine J_callV (d' := 1) (sr := fun z => []) (as := [vI 4, vI a2]) (st := []) (o := 68) 15 rfl ok_X12_fail im_X12_fail se_X12_fail ml_12_257 isC_12 ob_68 (Ob.lt ob_68) rfl (by decide) ⟨Nat.le_refl _, Nat.le_refl _⟩ (Nat.le_of_ble_eq_true rfl) (D_X12_opens_0.at 7 rfl) (fun _ => rfl) T (fun r9 h10 T b11 => ?_)
  exact J_vret rfl (D_X12_opens_0.at 8 rfl) T
theorem c_X12_waitsLast {w : Wd} {h : Hp} {K : Int → Hp → Prop} (T : L_X12_waitsLast_7 w ((h 68 46) - 1) h K) : C_X12_waitsLast w h K := by
  refine CGm_of2 (by decide) (by decide) trivial (Nat.le_of_ble_eq_true rfl) ?_
  refine J_aload_n 1 rfl 0 0 rfl ⟨by decide, by decide⟩ (D_X12_waitsLast_0.at 0 rfl) ?_
  refine J_getI (z := (h 68 46)) 4 rfl fl_12_315 rfl ob_68 (Ob.lt ob_68) (D_X12_waitsLast_0.at 1 rfl) rfl ?_
  refine J_iconst 5 rfl (D_X12_waitsLast_0.at 2 rfl) ?_
  refine J_isub 6 rfl (D_X12_waitsLast_0.at 3 rfl) ?_
  refine J_istore_n (lv' := [(1, vI ((h 68 46) - 1)), (0, vR 68)]) 7 rfl 1 (by decide) rfl (D_X12_waitsLast_0.at 4 rfl) ?_
  exact J_sub (lv' := [(0, vR 68), (1, vI ((h 68 46) - 1))]) [1, 0] rfl T
theorem l_X12_waitsLast_7 {w : Wd} {v1 : Int} {h : Hp} {K : Int → Hp → Prop} (T : (inR v1) ∧ ((inR (h 68 48)) ∧ (((v1 < (h 68 48)) → ((inR v1) ∧ ((inR (h 68 48)) ∧ (((v1 < (h 68 48)) → (K (-1) h)) ∧ (¬ (v1 < (h 68 48)) → ((0 ≤ v1 ∧ v1 < 1700) ∧ (K (h 101 v1) h))))))) ∧ (¬ (v1 < (h 68 48)) → ((0 ≤ v1 ∧ v1 < 1700) ∧ (C_X12_isMark w (h 101 v1) h (fun r8 h9 => (r8 = 0 ∨ r8 = 1) → ((r8 ≠ 0) → ((inR v1) ∧ ((inR (h9 68 48)) ∧ (((v1 < (h9 68 48)) → (K (-1) h9)) ∧ (¬ (v1 < (h9 68 48)) → ((0 ≤ v1 ∧ v1 < 1700) ∧ (K (h9 101 v1) h9))))))) ∧ (¬ (r8 ≠ 0) → (L_X12_waitsLast_7 w (v1 + (-1)) h9 K))))))))) : L_X12_waitsLast_7 w v1 h K := by
  unfold L_X12_waitsLast_7
  refine J_iload_n 8 rfl 1 1 rfl (D_X12_waitsLast_0.at 5 rfl) ?_
  refine J_aload_n 9 rfl 0 0 rfl ⟨by decide, by decide⟩ (D_X12_waitsLast_0.at 6 rfl) ?_
  refine J_getI (z := (h 68 48)) 12 rfl fl_12_321 rfl ob_68 (Ob.lt ob_68) (D_X12_waitsLast_0.at 7 rfl) rfl ?_
  obtain ⟨s1, T⟩ := T
  obtain ⟨s2, T⟩ := T
  refine J_icmp_lt 15 rfl 34 s1 s2 (D_X12_waitsLast_0.at 8 rfl) (by decide) (fun c16 => ?_) (fun c16 => ?_)
  · replace T := T.1 c16
    refine J_iload_n 35 rfl 1 1 rfl (D_X12_waitsLast_0.at 18 rfl) ?_
    refine J_aload_n 36 rfl 0 0 rfl ⟨by decide, by decide⟩ (D_X12_waitsLast_0.at 19 rfl) ?_
    refine J_getI (z := (h 68 48)) 39 rfl fl_12_321 rfl ob_68 (Ob.lt ob_68) (D_X12_waitsLast_0.at 20 rfl) rfl ?_
    obtain ⟨s3, T⟩ := T
    obtain ⟨s4, T⟩ := T
    refine J_icmp_lt 42 rfl 51 s3 s4 (D_X12_waitsLast_0.at 21 rfl) (by decide) (fun c6 => ?_) (fun c6 => ?_)
    · replace T := T.1 c6
      refine J_iconst 52 rfl (D_X12_waitsLast_0.at 27 rfl) ?_
      exact J_iret rfl (D_X12_waitsLast_0.at 28 rfl) T
    replace T := T.2 c6
    refine J_aload_n 43 rfl 0 0 rfl ⟨by decide, by decide⟩ (D_X12_waitsLast_0.at 22 rfl) ?_
    refine J_getF (ov := 101) (dd := 1033) 46 rfl fl_12_112 rfl (by decide) rfl ob_68 (Ob.lt ob_68) (D_X12_waitsLast_0.at 23 rfl) ?_
    refine J_iload_n 47 rfl 1 1 rfl (D_X12_waitsLast_0.at 24 rfl) ?_
    obtain ⟨s5, T⟩ := T
    refine J_iald 48 rfl ar_101 (Ar.lt ar_101) s5 (D_X12_waitsLast_0.at 25 rfl) ?_
    refine J_goto 52 (D_X12_waitsLast_0.at 26 rfl) (by decide) ?_
    exact J_iret rfl (D_X12_waitsLast_0.at 28 rfl) T
  replace T := T.2 c16
  refine J_aload_n 16 rfl 0 0 rfl ⟨by decide, by decide⟩ (D_X12_waitsLast_0.at 9 rfl) ?_
  refine J_aload_n 17 rfl 0 0 rfl ⟨by decide, by decide⟩ (D_X12_waitsLast_0.at 10 rfl) ?_
  refine J_getF (ov := 101) (dd := 1033) 20 rfl fl_12_112 rfl (by decide) rfl ob_68 (Ob.lt ob_68) (D_X12_waitsLast_0.at 11 rfl) ?_
  refine J_iload_n 21 rfl 1 1 rfl (D_X12_waitsLast_0.at 12 rfl) ?_
  obtain ⟨s7, T⟩ := T
  refine J_iald 22 rfl ar_101 (Ar.lt ar_101) s7 (D_X12_waitsLast_0.at 13 rfl) ?_
  refine J_callV (d' := 1) (sr := fun z => [vI z]) (as := [vI (h 101 v1)]) (st := []) (o := 68) 25 rfl ok_X12_isMark im_X12_isMark se_X12_isMark ml_12_369 isC_12 ob_68 (Ob.lt ob_68) rfl (by decide) ⟨Nat.le_refl _, Nat.le_refl _⟩ (Nat.le_of_ble_eq_true rfl) (D_X12_waitsLast_0.at 14 rfl) (fun _ => rfl) T (fun r8 h9 T b10 => ?_)
  replace T := T b10
  refine J_if_ne 28 rfl 34 (inR_b b10) (D_X12_waitsLast_0.at 15 rfl) (by decide) (fun c15 => ?_) (fun c15 => ?_)
  · replace T := T.1 c15
    refine J_iload_n 35 rfl 1 1 rfl (D_X12_waitsLast_0.at 18 rfl) ?_
    refine J_aload_n 36 rfl 0 0 rfl ⟨by decide, by decide⟩ (D_X12_waitsLast_0.at 19 rfl) ?_
    refine J_getI (z := (h9 68 48)) 39 rfl fl_12_321 rfl ob_68 (Ob.lt ob_68) (D_X12_waitsLast_0.at 20 rfl) rfl ?_
    obtain ⟨s11, T⟩ := T
    obtain ⟨s12, T⟩ := T
    refine J_icmp_lt 42 rfl 51 s11 s12 (D_X12_waitsLast_0.at 21 rfl) (by decide) (fun c14 => ?_) (fun c14 => ?_)
    · replace T := T.1 c14
      refine J_iconst 52 rfl (D_X12_waitsLast_0.at 27 rfl) ?_
      exact J_iret rfl (D_X12_waitsLast_0.at 28 rfl) T
    replace T := T.2 c14
    refine J_aload_n 43 rfl 0 0 rfl ⟨by decide, by decide⟩ (D_X12_waitsLast_0.at 22 rfl) ?_
    refine J_getF (ov := 101) (dd := 1033) 46 rfl fl_12_112 rfl (by decide) rfl ob_68 (Ob.lt ob_68) (D_X12_waitsLast_0.at 23 rfl) ?_
    refine J_iload_n 47 rfl 1 1 rfl (D_X12_waitsLast_0.at 24 rfl) ?_
    obtain ⟨s13, T⟩ := T
    refine J_iald 48 rfl ar_101 (Ar.lt ar_101) s13 (D_X12_waitsLast_0.at 25 rfl) ?_
    refine J_goto 52 (D_X12_waitsLast_0.at 26 rfl) (by decide) ?_
    exact J_iret rfl (D_X12_waitsLast_0.at 28 rfl) T
  replace T := T.2 c15
  refine J_iinc (v := (v1 + (-1))) (lv' := [(1, vI (v1 + (-1))), (0, vR 68)]) 31 rfl 1 1 (-1) rfl rfl (by decide) rfl (D_X12_waitsLast_0.at 16 rfl) ?_
  refine J_goto 7 (D_X12_waitsLast_0.at 17 rfl) (by decide) ?_
  exact J_sub (lv' := [(0, vR 68), (1, vI (v1 + (-1)))]) [1, 0] rfl T
theorem c_X12_drops {w : Wd} {h : Hp} {K : Int → Hp → Prop} (T : ∀ h1 : Hp, h1 = hu h 68 46 ((h 68 46) - 1) → (0 ≤ (h1 68 46) ∧ (h1 68 46) < 1700) ∧ (C_X12_code w (h1 101 (h1 68 46)) h1 (fun _ h5 => K 0 h5))) : C_X12_drops w h K := by
  refine CGm_of2 (by decide) (by decide) trivial (Nat.le_of_ble_eq_true rfl) ?_
  refine J_aload_n 1 rfl 0 0 rfl ⟨by decide, by decide⟩ (D_X12_drops_0.at 0 rfl) ?_
  refine J_dup 2 rfl rfl (D_X12_drops_0.at 1 rfl) ?_
  refine J_getI (z := (h 68 46)) 5 rfl fl_12_315 rfl ob_68 (Ob.lt ob_68) (D_X12_drops_0.at 2 rfl) rfl ?_
  refine J_iconst 6 rfl (D_X12_drops_0.at 3 rfl) ?_
  refine J_isub 7 rfl (D_X12_drops_0.at 4 rfl) ?_
  refine J_putI 10 rfl fl_12_315 rfl rfl ob_68 (Ob.lt ob_68) (D_X12_drops_0.at 5 rfl) (fun h1 e2 => ?_)
  replace T := T h1 e2
  refine J_aload_n 11 rfl 0 0 rfl ⟨by decide, by decide⟩ (D_X12_drops_0.at 6 rfl) ?_
  refine J_aload_n 12 rfl 0 0 rfl ⟨by decide, by decide⟩ (D_X12_drops_0.at 7 rfl) ?_
  refine J_getF (ov := 101) (dd := 1033) 15 rfl fl_12_112 rfl (by decide) rfl ob_68 (Ob.lt ob_68) (D_X12_drops_0.at 8 rfl) ?_
  refine J_aload_n 16 rfl 0 0 rfl ⟨by decide, by decide⟩ (D_X12_drops_0.at 9 rfl) ?_
  refine J_getI (z := (h1 68 46)) 19 rfl fl_12_315 rfl ob_68 (Ob.lt ob_68) (D_X12_drops_0.at 10 rfl) rfl ?_
  obtain ⟨s3, T⟩ := T
  refine J_iald 20 rfl ar_101 (Ar.lt ar_101) s3 (D_X12_drops_0.at 11 rfl) ?_
  refine J_callV (d' := 1) (sr := fun z => []) (as := [vI (h1 101 (h1 68 46))]) (st := []) (o := 68) 23 rfl ok_X12_code im_X12_code se_X12_code ml_12_366 isC_12 ob_68 (Ob.lt ob_68) rfl (by decide) ⟨Nat.le_refl _, Nat.le_refl _⟩ (Nat.le_of_ble_eq_true rfl) (D_X12_drops_0.at 12 rfl) (fun _ => rfl) T (fun r4 h5 T b6 => ?_)
  exact J_vret rfl (D_X12_drops_0.at 13 rfl) T
theorem c_X12_has {w : Wd} {a1 : Int} {h : Hp} {K : Int → Hp → Prop} (T : (inR a1) ∧ ((a1 = 0 → K (h 68 36) h) ∧ (a1 = 1 → K (h 93 3) h) ∧ (a1 = 2 → K (h 93 4) h) ∧ (a1 = 3 → K (h 93 5) h) ∧ (a1 = 4 → (0 ≤ (3 + (a1 - 4)) ∧ (3 + (a1 - 4)) < 6) ∧ (K (h 97 (3 + (a1 - 4))) h)) ∧ (a1 = 5 → (0 ≤ (3 + (a1 - 4)) ∧ (3 + (a1 - 4)) < 6) ∧ (K (h 97 (3 + (a1 - 4))) h)) ∧ (a1 = 6 → (0 ≤ (3 + (a1 - 4)) ∧ (3 + (a1 - 4)) < 6) ∧ (K (h 97 (3 + (a1 - 4))) h)) ∧ (a1 = 7 → K (h 104 0) h) ∧ (a1 = 8 → C_X12_sumNow w 1 8 h (fun r6 h7 => K r6 h7)) ∧ (a1 = 9 → C_X12_sumNow w 9 10 h (fun r9 h10 => K r9 h10)) ∧ (a1 = 10 → C_X12_sumNow w 29 80 h (fun r12 h13 => K r12 h13)) ∧ (a1 = 11 → C_X12_sumNow w 19 10 h (fun r15 h16 => K r15 h16)) ∧ (a1 = 12 → K (h 68 61) h) ∧ ((a1 < 0 ∨ 12 < a1) → K (-1) h))) : C_X12_has w a1 h K := by
  refine CGm_of2 (by decide) (by decide) trivial (Nat.le_of_ble_eq_true rfl) ?_
  refine J_iload_n 1 rfl 1 1 rfl (D_X12_has_0.at 0 rfl) ?_
  obtain ⟨s1, T⟩ := T
  have tg : a1 = 0 ∨ a1 = 1 ∨ a1 = 2 ∨ a1 = 3 ∨ a1 = 4 ∨ a1 = 5 ∨ a1 = 6 ∨ a1 = 7 ∨ a1 = 8 ∨ a1 = 9 ∨ a1 = 10 ∨ a1 = 11 ∨ a1 = 12 ∨ (a1 < 0 ∨ 12 < a1) := by omega
  rcases tg with g2 | g2 | g2 | g2 | g2 | g2 | g2 | g2 | g2 | g2 | g2 | g2 | g2 | g2
  · replace T := T.1 g2
    refine J_tab 67 68 s1 (D_X12_has_0.at 1 rfl) ⟨by omega, by omega⟩ (by rw [g2]; rfl) (by decide) ?_
    refine J_aload_n 69 rfl 0 0 rfl ⟨by decide, by decide⟩ (D_X12_has_0.at 2 rfl) ?_
    refine J_getI (z := (h 68 36)) 72 rfl fl_12_356 rfl ob_68 (Ob.lt ob_68) (D_X12_has_0.at 3 rfl) rfl ?_
    exact J_iret rfl (D_X12_has_0.at 4 rfl) T
  · replace T := T.2.1 g2
    refine J_tab 72 73 s1 (D_X12_has_0.at 1 rfl) ⟨by omega, by omega⟩ (by rw [g2]; rfl) (by decide) ?_
    refine J_aload_n 74 rfl 0 0 rfl ⟨by decide, by decide⟩ (D_X12_has_0.at 5 rfl) ?_
    refine J_callV (d' := 1) (K1 := fun z h0 => rok (some .int) z → JG w true m_X12_has 2 NT NT 77 [(0, vR 68), (1, vI a1)] [vI z] h0 _) (sr := fun z => [vI z]) (as := []) (st := []) (o := 68) 77 rfl ok_X12_ownerMany im_X12_ownerMany se_X12_ownerMany ml_12_422 isC_12 ob_68 (Ob.lt ob_68) rfl (by decide) ⟨Nat.le_refl _, Nat.le_refl _⟩ (Nat.le_of_ble_eq_true rfl) (D_X12_has_0.at 6 rfl) (fun _ => rfl) (CGm_of2 (by decide) (by decide) trivial (Nat.le_of_ble_eq_true rfl) ?_) (fun _ _ kq hb => kq hb)
    refine J_aload_n 1 rfl 0 0 rfl ⟨by decide, by decide⟩ (D_X12_ownerMany_0.at 0 rfl) ?_
    refine J_getF (ov := 93) (dd := 1025) 4 rfl fl_12_87 rfl (by decide) rfl ob_68 (Ob.lt ob_68) (D_X12_ownerMany_0.at 1 rfl) ?_
    refine J_iconst 5 rfl (D_X12_ownerMany_0.at 2 rfl) ?_
    refine J_iald 6 rfl ar_93 (Ar.lt ar_93) ⟨by decide, by decide⟩ (D_X12_ownerMany_0.at 3 rfl) ?_
    refine J_iret rfl (D_X12_ownerMany_0.at 4 rfl) (fun _ => ?_)
    exact J_iret rfl (D_X12_has_0.at 7 rfl) T
  · replace T := T.2.2.1 g2
    refine J_tab 77 78 s1 (D_X12_has_0.at 1 rfl) ⟨by omega, by omega⟩ (by rw [g2]; rfl) (by decide) ?_
    refine J_aload_n 79 rfl 0 0 rfl ⟨by decide, by decide⟩ (D_X12_has_0.at 8 rfl) ?_
    refine J_callV (d' := 1) (K1 := fun z h0 => rok (some .int) z → JG w true m_X12_has 2 NT NT 82 [(0, vR 68), (1, vI a1)] [vI z] h0 _) (sr := fun z => [vI z]) (as := []) (st := []) (o := 68) 82 rfl ok_X12_colourMany im_X12_colourMany se_X12_colourMany ml_12_471 isC_12 ob_68 (Ob.lt ob_68) rfl (by decide) ⟨Nat.le_refl _, Nat.le_refl _⟩ (Nat.le_of_ble_eq_true rfl) (D_X12_has_0.at 9 rfl) (fun _ => rfl) (CGm_of2 (by decide) (by decide) trivial (Nat.le_of_ble_eq_true rfl) ?_) (fun _ _ kq hb => kq hb)
    refine J_aload_n 1 rfl 0 0 rfl ⟨by decide, by decide⟩ (D_X12_colourMany_0.at 0 rfl) ?_
    refine J_getF (ov := 93) (dd := 1025) 4 rfl fl_12_87 rfl (by decide) rfl ob_68 (Ob.lt ob_68) (D_X12_colourMany_0.at 1 rfl) ?_
    refine J_iconst 5 rfl (D_X12_colourMany_0.at 2 rfl) ?_
    refine J_iald 6 rfl ar_93 (Ar.lt ar_93) ⟨by decide, by decide⟩ (D_X12_colourMany_0.at 3 rfl) ?_
    refine J_iret rfl (D_X12_colourMany_0.at 4 rfl) (fun _ => ?_)
    exact J_iret rfl (D_X12_has_0.at 10 rfl) T
  · replace T := T.2.2.2.1 g2
    refine J_tab 82 83 s1 (D_X12_has_0.at 1 rfl) ⟨by omega, by omega⟩ (by rw [g2]; rfl) (by decide) ?_
    refine J_aload_n 84 rfl 0 0 rfl ⟨by decide, by decide⟩ (D_X12_has_0.at 11 rfl) ?_
    refine J_callV (d' := 1) (K1 := fun z h0 => rok (some .int) z → JG w true m_X12_has 2 NT NT 87 [(0, vR 68), (1, vI a1)] [vI z] h0 _) (sr := fun z => [vI z]) (as := []) (st := []) (o := 68) 87 rfl ok_X12_bankMany im_X12_bankMany se_X12_bankMany ml_12_419 isC_12 ob_68 (Ob.lt ob_68) rfl (by decide) ⟨Nat.le_refl _, Nat.le_refl _⟩ (Nat.le_of_ble_eq_true rfl) (D_X12_has_0.at 12 rfl) (fun _ => rfl) (CGm_of2 (by decide) (by decide) trivial (Nat.le_of_ble_eq_true rfl) ?_) (fun _ _ kq hb => kq hb)
    refine J_aload_n 1 rfl 0 0 rfl ⟨by decide, by decide⟩ (D_X12_bankMany_0.at 0 rfl) ?_
    refine J_getF (ov := 93) (dd := 1025) 4 rfl fl_12_87 rfl (by decide) rfl ob_68 (Ob.lt ob_68) (D_X12_bankMany_0.at 1 rfl) ?_
    refine J_iconst 5 rfl (D_X12_bankMany_0.at 2 rfl) ?_
    refine J_iald 6 rfl ar_93 (Ar.lt ar_93) ⟨by decide, by decide⟩ (D_X12_bankMany_0.at 3 rfl) ?_
    refine J_iret rfl (D_X12_bankMany_0.at 4 rfl) (fun _ => ?_)
    exact J_iret rfl (D_X12_has_0.at 13 rfl) T
  · replace T := T.2.2.2.2.1 g2
    refine J_tab 87 88 s1 (D_X12_has_0.at 1 rfl) ⟨by omega, by omega⟩ (by rw [g2]; rfl) (by decide) ?_
    refine J_aload_n 89 rfl 0 0 rfl ⟨by decide, by decide⟩ (D_X12_has_0.at 14 rfl) ?_
    refine J_iload_n 90 rfl 1 1 rfl (D_X12_has_0.at 15 rfl) ?_
    refine J_iconst 91 rfl (D_X12_has_0.at 16 rfl) ?_
    refine J_isub 92 rfl (D_X12_has_0.at 17 rfl) ?_
    refine J_callV (d' := 1) (K1 := fun z h0 => rok (some .int) z → JG w true m_X12_has 2 NT NT 95 [(0, vR 68), (1, vI a1)] [vI z] h0 _) (sr := fun z => [vI z]) (as := [vI (a1 - 4)]) (st := []) (o := 68) 95 rfl ok_X12_settingOf im_X12_settingOf se_X12_settingOf ml_12_462 isC_12 ob_68 (Ob.lt ob_68) rfl (by decide) ⟨Nat.le_refl _, Nat.le_refl _⟩ (Nat.le_of_ble_eq_true rfl) (D_X12_has_0.at 18 rfl) (fun _ => rfl) (CGm_of2 (by decide) (by decide) trivial (Nat.le_of_ble_eq_true rfl) ?_) (fun _ _ kq hb => kq hb)
    refine J_aload_n 1 rfl 0 0 rfl ⟨by decide, by decide⟩ (D_X12_settingOf_0.at 0 rfl) ?_
    refine J_getF (ov := 97) (dd := 1029) 4 rfl fl_12_100 rfl (by decide) rfl ob_68 (Ob.lt ob_68) (D_X12_settingOf_0.at 1 rfl) ?_
    refine J_iconst 5 rfl (D_X12_settingOf_0.at 2 rfl) ?_
    refine J_iload_n 6 rfl 1 1 rfl (D_X12_settingOf_0.at 3 rfl) ?_
    refine J_iadd 7 rfl (D_X12_settingOf_0.at 4 rfl) ?_
    obtain ⟨s3, T⟩ := T
    refine J_iald 8 rfl ar_97 (Ar.lt ar_97) s3 (D_X12_settingOf_0.at 5 rfl) ?_
    refine J_iret rfl (D_X12_settingOf_0.at 6 rfl) (fun _ => ?_)
    exact J_iret rfl (D_X12_has_0.at 19 rfl) T
  · replace T := T.2.2.2.2.2.1 g2
    refine J_tab 87 88 s1 (D_X12_has_0.at 1 rfl) ⟨by omega, by omega⟩ (by rw [g2]; rfl) (by decide) ?_
    refine J_aload_n 89 rfl 0 0 rfl ⟨by decide, by decide⟩ (D_X12_has_0.at 14 rfl) ?_
    refine J_iload_n 90 rfl 1 1 rfl (D_X12_has_0.at 15 rfl) ?_
    refine J_iconst 91 rfl (D_X12_has_0.at 16 rfl) ?_
    refine J_isub 92 rfl (D_X12_has_0.at 17 rfl) ?_
    refine J_callV (d' := 1) (K1 := fun z h0 => rok (some .int) z → JG w true m_X12_has 2 NT NT 95 [(0, vR 68), (1, vI a1)] [vI z] h0 _) (sr := fun z => [vI z]) (as := [vI (a1 - 4)]) (st := []) (o := 68) 95 rfl ok_X12_settingOf im_X12_settingOf se_X12_settingOf ml_12_462 isC_12 ob_68 (Ob.lt ob_68) rfl (by decide) ⟨Nat.le_refl _, Nat.le_refl _⟩ (Nat.le_of_ble_eq_true rfl) (D_X12_has_0.at 18 rfl) (fun _ => rfl) (CGm_of2 (by decide) (by decide) trivial (Nat.le_of_ble_eq_true rfl) ?_) (fun _ _ kq hb => kq hb)
    refine J_aload_n 1 rfl 0 0 rfl ⟨by decide, by decide⟩ (D_X12_settingOf_0.at 0 rfl) ?_
    refine J_getF (ov := 97) (dd := 1029) 4 rfl fl_12_100 rfl (by decide) rfl ob_68 (Ob.lt ob_68) (D_X12_settingOf_0.at 1 rfl) ?_
    refine J_iconst 5 rfl (D_X12_settingOf_0.at 2 rfl) ?_
    refine J_iload_n 6 rfl 1 1 rfl (D_X12_settingOf_0.at 3 rfl) ?_
    refine J_iadd 7 rfl (D_X12_settingOf_0.at 4 rfl) ?_
    obtain ⟨s4, T⟩ := T
    refine J_iald 8 rfl ar_97 (Ar.lt ar_97) s4 (D_X12_settingOf_0.at 5 rfl) ?_
    refine J_iret rfl (D_X12_settingOf_0.at 6 rfl) (fun _ => ?_)
    exact J_iret rfl (D_X12_has_0.at 19 rfl) T
  · replace T := T.2.2.2.2.2.2.1 g2
    refine J_tab 87 88 s1 (D_X12_has_0.at 1 rfl) ⟨by omega, by omega⟩ (by rw [g2]; rfl) (by decide) ?_
    refine J_aload_n 89 rfl 0 0 rfl ⟨by decide, by decide⟩ (D_X12_has_0.at 14 rfl) ?_
    refine J_iload_n 90 rfl 1 1 rfl (D_X12_has_0.at 15 rfl) ?_
    refine J_iconst 91 rfl (D_X12_has_0.at 16 rfl) ?_
    refine J_isub 92 rfl (D_X12_has_0.at 17 rfl) ?_
    refine J_callV (d' := 1) (K1 := fun z h0 => rok (some .int) z → JG w true m_X12_has 2 NT NT 95 [(0, vR 68), (1, vI a1)] [vI z] h0 _) (sr := fun z => [vI z]) (as := [vI (a1 - 4)]) (st := []) (o := 68) 95 rfl ok_X12_settingOf im_X12_settingOf se_X12_settingOf ml_12_462 isC_12 ob_68 (Ob.lt ob_68) rfl (by decide) ⟨Nat.le_refl _, Nat.le_refl _⟩ (Nat.le_of_ble_eq_true rfl) (D_X12_has_0.at 18 rfl) (fun _ => rfl) (CGm_of2 (by decide) (by decide) trivial (Nat.le_of_ble_eq_true rfl) ?_) (fun _ _ kq hb => kq hb)
    refine J_aload_n 1 rfl 0 0 rfl ⟨by decide, by decide⟩ (D_X12_settingOf_0.at 0 rfl) ?_
    refine J_getF (ov := 97) (dd := 1029) 4 rfl fl_12_100 rfl (by decide) rfl ob_68 (Ob.lt ob_68) (D_X12_settingOf_0.at 1 rfl) ?_
    refine J_iconst 5 rfl (D_X12_settingOf_0.at 2 rfl) ?_
    refine J_iload_n 6 rfl 1 1 rfl (D_X12_settingOf_0.at 3 rfl) ?_
    refine J_iadd 7 rfl (D_X12_settingOf_0.at 4 rfl) ?_
    obtain ⟨s5, T⟩ := T
    refine J_iald 8 rfl ar_97 (Ar.lt ar_97) s5 (D_X12_settingOf_0.at 5 rfl) ?_
    refine J_iret rfl (D_X12_settingOf_0.at 6 rfl) (fun _ => ?_)
    exact J_iret rfl (D_X12_has_0.at 19 rfl) T
  · replace T := T.2.2.2.2.2.2.2.1 g2
    refine J_tab 95 96 s1 (D_X12_has_0.at 1 rfl) ⟨by omega, by omega⟩ (by rw [g2]; rfl) (by decide) ?_
    refine J_aload_n 97 rfl 0 0 rfl ⟨by decide, by decide⟩ (D_X12_has_0.at 20 rfl) ?_
    refine J_getF (ov := 104) (dd := 1036) 100 rfl fl_12_121 rfl (by decide) rfl ob_68 (Ob.lt ob_68) (D_X12_has_0.at 21 rfl) ?_
    refine J_iconst 101 rfl (D_X12_has_0.at 22 rfl) ?_
    refine J_iald 102 rfl ar_104 (Ar.lt ar_104) ⟨by decide, by decide⟩ (D_X12_has_0.at 23 rfl) ?_
    exact J_iret rfl (D_X12_has_0.at 24 rfl) T
  · replace T := T.2.2.2.2.2.2.2.2.1 g2
    refine J_tab 102 103 s1 (D_X12_has_0.at 1 rfl) ⟨by omega, by omega⟩ (by rw [g2]; rfl) (by decide) ?_
    refine J_aload_n 104 rfl 0 0 rfl ⟨by decide, by decide⟩ (D_X12_has_0.at 25 rfl) ?_
    refine J_iconst 105 rfl (D_X12_has_0.at 26 rfl) ?_
    refine J_bipush 107 rfl ⟨by decide, by decide⟩ (D_X12_has_0.at 27 rfl) ?_
    refine J_callV (d' := 1) (sr := fun z => [vI z]) (as := [vI 1, vI 8]) (st := []) (o := 68) 110 rfl ok_X12_sumNow im_X12_sumNow se_X12_sumNow ml_12_474 isC_12 ob_68 (Ob.lt ob_68) rfl (by decide) ⟨Nat.le_refl _, Nat.le_refl _⟩ (Nat.le_of_ble_eq_true rfl) (D_X12_has_0.at 28 rfl) (fun _ => rfl) T (fun r6 h7 T b8 => ?_)
    exact J_iret rfl (D_X12_has_0.at 29 rfl) T
  · replace T := T.2.2.2.2.2.2.2.2.2.1 g2
    refine J_tab 110 111 s1 (D_X12_has_0.at 1 rfl) ⟨by omega, by omega⟩ (by rw [g2]; rfl) (by decide) ?_
    refine J_aload_n 112 rfl 0 0 rfl ⟨by decide, by decide⟩ (D_X12_has_0.at 30 rfl) ?_
    refine J_bipush 114 rfl ⟨by decide, by decide⟩ (D_X12_has_0.at 31 rfl) ?_
    refine J_bipush 116 rfl ⟨by decide, by decide⟩ (D_X12_has_0.at 32 rfl) ?_
    refine J_callV (d' := 1) (sr := fun z => [vI z]) (as := [vI 9, vI 10]) (st := []) (o := 68) 119 rfl ok_X12_sumNow im_X12_sumNow se_X12_sumNow ml_12_474 isC_12 ob_68 (Ob.lt ob_68) rfl (by decide) ⟨Nat.le_refl _, Nat.le_refl _⟩ (Nat.le_of_ble_eq_true rfl) (D_X12_has_0.at 33 rfl) (fun _ => rfl) T (fun r9 h10 T b11 => ?_)
    exact J_iret rfl (D_X12_has_0.at 34 rfl) T
  · replace T := T.2.2.2.2.2.2.2.2.2.2.1 g2
    refine J_tab 119 120 s1 (D_X12_has_0.at 1 rfl) ⟨by omega, by omega⟩ (by rw [g2]; rfl) (by decide) ?_
    refine J_aload_n 121 rfl 0 0 rfl ⟨by decide, by decide⟩ (D_X12_has_0.at 35 rfl) ?_
    refine J_bipush 123 rfl ⟨by decide, by decide⟩ (D_X12_has_0.at 36 rfl) ?_
    refine J_bipush 125 rfl ⟨by decide, by decide⟩ (D_X12_has_0.at 37 rfl) ?_
    refine J_callV (d' := 1) (sr := fun z => [vI z]) (as := [vI 29, vI 80]) (st := []) (o := 68) 128 rfl ok_X12_sumNow im_X12_sumNow se_X12_sumNow ml_12_474 isC_12 ob_68 (Ob.lt ob_68) rfl (by decide) ⟨Nat.le_refl _, Nat.le_refl _⟩ (Nat.le_of_ble_eq_true rfl) (D_X12_has_0.at 38 rfl) (fun _ => rfl) T (fun r12 h13 T b14 => ?_)
    exact J_iret rfl (D_X12_has_0.at 39 rfl) T
  · replace T := T.2.2.2.2.2.2.2.2.2.2.2.1 g2
    refine J_tab 128 129 s1 (D_X12_has_0.at 1 rfl) ⟨by omega, by omega⟩ (by rw [g2]; rfl) (by decide) ?_
    refine J_aload_n 130 rfl 0 0 rfl ⟨by decide, by decide⟩ (D_X12_has_0.at 40 rfl) ?_
    refine J_bipush 132 rfl ⟨by decide, by decide⟩ (D_X12_has_0.at 41 rfl) ?_
    refine J_bipush 134 rfl ⟨by decide, by decide⟩ (D_X12_has_0.at 42 rfl) ?_
    refine J_callV (d' := 1) (sr := fun z => [vI z]) (as := [vI 19, vI 10]) (st := []) (o := 68) 137 rfl ok_X12_sumNow im_X12_sumNow se_X12_sumNow ml_12_474 isC_12 ob_68 (Ob.lt ob_68) rfl (by decide) ⟨Nat.le_refl _, Nat.le_refl _⟩ (Nat.le_of_ble_eq_true rfl) (D_X12_has_0.at 43 rfl) (fun _ => rfl) T (fun r15 h16 T b17 => ?_)
    exact J_iret rfl (D_X12_has_0.at 44 rfl) T
  · replace T := T.2.2.2.2.2.2.2.2.2.2.2.2.1 g2
    refine J_tab 137 138 s1 (D_X12_has_0.at 1 rfl) ⟨by omega, by omega⟩ (by rw [g2]; rfl) (by decide) ?_
    refine J_aload_n 139 rfl 0 0 rfl ⟨by decide, by decide⟩ (D_X12_has_0.at 45 rfl) ?_
    refine J_getI (z := (h 68 61)) 142 rfl fl_12_359 rfl ob_68 (Ob.lt ob_68) (D_X12_has_0.at 46 rfl) rfl ?_
    exact J_iret rfl (D_X12_has_0.at 47 rfl) T
  · replace T := T.2.2.2.2.2.2.2.2.2.2.2.2.2 g2
    refine J_tabO 143 s1 (D_X12_has_0.at 1 rfl) g2 (by decide) ?_
    refine J_iconst 144 rfl (D_X12_has_1.at 0 rfl) ?_
    exact J_iret rfl (D_X12_has_1.at 1 rfl) T
theorem c_X12_letter {w : Wd} {a1 a2 a3 : Int} {h : Hp} {K : Int → Hp → Prop} (T : (inR a1) ∧ ((inL a1) ∧ (((a1 < 0) → (K (-1) h)) ∧ (¬ (a1 < 0) → ((inL a1) ∧ (((a1 > 2) → (K (-1) h)) ∧ (¬ (a1 > 2) → ((inR a2) ∧ ((0 ≤ (3 + a1) ∧ (3 + a1) < 6) ∧ ((inR ((h 93 (3 + a1)) - 1)) ∧ ((inL a2) ∧ (((a2 < 0) → (K (-1) h)) ∧ (¬ (a2 < 0) → ((inL a2) ∧ ((inL ((h 93 (3 + a1)) - 1)) ∧ (((a2 > ((h 93 (3 + a1)) - 1)) → (K (-1) h)) ∧ (¬ (a2 > ((h 93 (3 + a1)) - 1)) → ((inR a3) ∧ ((inL a3) ∧ (((a3 < 0) → (K (-1) h)) ∧ (¬ (a3 < 0) → ((inL a3) ∧ (((a3 > 5) → (K (-1) h)) ∧ (¬ (a3 > 5) → ((0 ≤ ((30 + (10 * a1)) + a2) ∧ ((30 + (10 * a1)) + a2) < 60) ∧ (L_X12_letter_69 w a3 (h 94 ((30 + (10 * a1)) + a2)) 0 (h 94 ((30 + (10 * a1)) + a2)) h K)))))))))))))))))))))))))) : C_X12_letter w a1 a2 a3 h K := by
  refine CGm_of2 (by decide) (by decide) trivial (Nat.le_of_ble_eq_true rfl) ?_
  refine J_iload_n 1 rfl 1 1 rfl (D_X12_letter_0.at 0 rfl) ?_
  obtain ⟨s1, T⟩ := T
  refine J_i2l 2 rfl s1 (D_X12_letter_0.at 1 rfl) ?_
  refine J_lconst (z := 0) 3 rfl rfl (D_X12_letter_0.at 2 rfl) ?_
  refine J_ldc2 6 rfl ko_12_477 (D_X12_letter_0.at 3 rfl) ?_
  refine J_callS (d' := 1) (K1 := fun z h0 => rok (some .boolean) z → JG w true m_X12_letter 2 NT NT 9 [(0, vR 68), (1, vI a1), (2, vI a2), (3, vI a3)] [vI z] h0 _) (sr := fun z => [vI z]) (as := [vL a1, vL 0, vL 2]) (st := []) 9 rfl ok_X12_isIn sm_X12_isIn ml_12_267 rfl (by decide) ⟨Nat.le_refl _, Nat.le_refl _⟩ (Nat.le_of_ble_eq_true rfl) (D_X12_letter_0.at 4 rfl) (fun _ => rfl) (CGm_of2 (by decide) (by decide) trivial (Nat.le_of_ble_eq_true rfl) ?_) (fun _ _ kq hb => kq hb)
  refine J_lload_n 1 rfl 0 0 rfl (D_X12_isIn_0.at 0 rfl) ?_
  refine J_lload_n 2 rfl 2 1 rfl (D_X12_isIn_0.at 1 rfl) ?_
  obtain ⟨s2, T⟩ := T
  refine J_lcmp_lt 6 rfl 17 s2 ⟨by decide, by decide⟩ (D_X12_isIn_0.at 2 rfl) (D_X12_isIn_0.at 3 rfl) (by decide) (fun c19 => ?_) (fun c19 => ?_)
  · replace T := T.1 c19
    refine J_iconst 18 rfl (D_X12_isIn_0.at 10 rfl) ?_
    refine J_zret rfl (Or.inl rfl) (D_X12_isIn_0.at 11 rfl) (fun _ => ?_)
    refine J_if_eq 12 rfl 44 ⟨by decide, by decide⟩ (D_X12_letter_0.at 5 rfl) (by decide) (fun _ => ?_) (fun c => absurd (by decide) c)
    refine J_iconst 45 rfl (D_X12_letter_0.at 26 rfl) ?_
    exact J_iret rfl (D_X12_letter_0.at 27 rfl) T
  replace T := T.2 c19
  refine J_lload_n 7 rfl 0 0 rfl (D_X12_isIn_0.at 4 rfl) ?_
  refine J_lload 9 rfl 4 2 rfl (D_X12_isIn_0.at 5 rfl) ?_
  obtain ⟨s3, T⟩ := T
  refine J_lcmp_gt 13 rfl 17 s3 ⟨by decide, by decide⟩ (D_X12_isIn_0.at 6 rfl) (D_X12_isIn_0.at 7 rfl) (by decide) (fun c18 => ?_) (fun c18 => ?_)
  · replace T := T.1 c18
    refine J_iconst 18 rfl (D_X12_isIn_0.at 10 rfl) ?_
    refine J_zret rfl (Or.inl rfl) (D_X12_isIn_0.at 11 rfl) (fun _ => ?_)
    refine J_if_eq 12 rfl 44 ⟨by decide, by decide⟩ (D_X12_letter_0.at 5 rfl) (by decide) (fun _ => ?_) (fun c => absurd (by decide) c)
    refine J_iconst 45 rfl (D_X12_letter_0.at 26 rfl) ?_
    exact J_iret rfl (D_X12_letter_0.at 27 rfl) T
  replace T := T.2 c18
  refine J_iconst 14 rfl (D_X12_isIn_0.at 8 rfl) ?_
  refine J_goto 18 (D_X12_isIn_0.at 9 rfl) (by decide) ?_
  refine J_zret rfl (Or.inr rfl) (D_X12_isIn_0.at 11 rfl) (fun _ => ?_)
  refine J_if_eq 12 rfl 44 ⟨by decide, by decide⟩ (D_X12_letter_0.at 5 rfl) (by decide) (fun c => absurd c (by decide)) (fun _ => ?_)
  refine J_iload_n 13 rfl 2 2 rfl (D_X12_letter_0.at 6 rfl) ?_
  obtain ⟨s4, T⟩ := T
  refine J_i2l 14 rfl s4 (D_X12_letter_0.at 7 rfl) ?_
  refine J_lconst (z := 0) 15 rfl rfl (D_X12_letter_0.at 8 rfl) ?_
  refine J_aload_n 16 rfl 0 0 rfl ⟨by decide, by decide⟩ (D_X12_letter_0.at 9 rfl) ?_
  refine J_getF (ov := 93) (dd := 1025) 19 rfl fl_12_87 rfl (by decide) rfl ob_68 (Ob.lt ob_68) (D_X12_letter_0.at 10 rfl) ?_
  refine J_iconst 20 rfl (D_X12_letter_0.at 11 rfl) ?_
  refine J_iload_n 21 rfl 1 1 rfl (D_X12_letter_0.at 12 rfl) ?_
  refine J_iadd 22 rfl (D_X12_letter_0.at 13 rfl) ?_
  obtain ⟨s5, T⟩ := T
  refine J_iald 23 rfl ar_93 (Ar.lt ar_93) s5 (D_X12_letter_0.at 14 rfl) ?_
  refine J_iconst 24 rfl (D_X12_letter_0.at 15 rfl) ?_
  refine J_isub 25 rfl (D_X12_letter_0.at 16 rfl) ?_
  obtain ⟨s6, T⟩ := T
  refine J_i2l 26 rfl s6 (D_X12_letter_0.at 17 rfl) ?_
  refine J_callS (d' := 1) (K1 := fun z h0 => rok (some .boolean) z → JG w true m_X12_letter 2 NT NT 29 [(0, vR 68), (1, vI a1), (2, vI a2), (3, vI a3)] [vI z] h0 _) (sr := fun z => [vI z]) (as := [vL a2, vL 0, vL ((h 93 (3 + a1)) - 1)]) (st := []) 29 rfl ok_X12_isIn sm_X12_isIn ml_12_267 rfl (by decide) ⟨Nat.le_refl _, Nat.le_refl _⟩ (Nat.le_of_ble_eq_true rfl) (D_X12_letter_0.at 18 rfl) (fun _ => rfl) (CGm_of2 (by decide) (by decide) trivial (Nat.le_of_ble_eq_true rfl) ?_) (fun _ _ kq hb => kq hb)
  refine J_lload_n 1 rfl 0 0 rfl (D_X12_isIn_0.at 0 rfl) ?_
  refine J_lload_n 2 rfl 2 1 rfl (D_X12_isIn_0.at 1 rfl) ?_
  obtain ⟨s7, T⟩ := T
  refine J_lcmp_lt 6 rfl 17 s7 ⟨by decide, by decide⟩ (D_X12_isIn_0.at 2 rfl) (D_X12_isIn_0.at 3 rfl) (by decide) (fun c17 => ?_) (fun c17 => ?_)
  · replace T := T.1 c17
    refine J_iconst 18 rfl (D_X12_isIn_0.at 10 rfl) ?_
    refine J_zret rfl (Or.inl rfl) (D_X12_isIn_0.at 11 rfl) (fun _ => ?_)
    refine J_if_eq 32 rfl 44 ⟨by decide, by decide⟩ (D_X12_letter_0.at 19 rfl) (by decide) (fun _ => ?_) (fun c => absurd (by decide) c)
    refine J_iconst 45 rfl (D_X12_letter_0.at 26 rfl) ?_
    exact J_iret rfl (D_X12_letter_0.at 27 rfl) T
  replace T := T.2 c17
  refine J_lload_n 7 rfl 0 0 rfl (D_X12_isIn_0.at 4 rfl) ?_
  refine J_lload 9 rfl 4 2 rfl (D_X12_isIn_0.at 5 rfl) ?_
  obtain ⟨s8, T⟩ := T
  obtain ⟨s9, T⟩ := T
  refine J_lcmp_gt 13 rfl 17 s8 s9 (D_X12_isIn_0.at 6 rfl) (D_X12_isIn_0.at 7 rfl) (by decide) (fun c16 => ?_) (fun c16 => ?_)
  · replace T := T.1 c16
    refine J_iconst 18 rfl (D_X12_isIn_0.at 10 rfl) ?_
    refine J_zret rfl (Or.inl rfl) (D_X12_isIn_0.at 11 rfl) (fun _ => ?_)
    refine J_if_eq 32 rfl 44 ⟨by decide, by decide⟩ (D_X12_letter_0.at 19 rfl) (by decide) (fun _ => ?_) (fun c => absurd (by decide) c)
    refine J_iconst 45 rfl (D_X12_letter_0.at 26 rfl) ?_
    exact J_iret rfl (D_X12_letter_0.at 27 rfl) T
  replace T := T.2 c16
  refine J_iconst 14 rfl (D_X12_isIn_0.at 8 rfl) ?_
  refine J_goto 18 (D_X12_isIn_0.at 9 rfl) (by decide) ?_
  refine J_zret rfl (Or.inr rfl) (D_X12_isIn_0.at 11 rfl) (fun _ => ?_)
  refine J_if_eq 32 rfl 44 ⟨by decide, by decide⟩ (D_X12_letter_0.at 19 rfl) (by decide) (fun c => absurd c (by decide)) (fun _ => ?_)
  refine J_iload_n 33 rfl 3 3 rfl (D_X12_letter_0.at 20 rfl) ?_
  obtain ⟨s10, T⟩ := T
  refine J_i2l 34 rfl s10 (D_X12_letter_0.at 21 rfl) ?_
  refine J_lconst (z := 0) 35 rfl rfl (D_X12_letter_0.at 22 rfl) ?_
  refine J_ldc2 38 rfl ko_12_479 (D_X12_letter_0.at 23 rfl) ?_
  refine J_callS (d' := 1) (K1 := fun z h0 => rok (some .boolean) z → JG w true m_X12_letter 2 NT NT 41 [(0, vR 68), (1, vI a1), (2, vI a2), (3, vI a3)] [vI z] h0 _) (sr := fun z => [vI z]) (as := [vL a3, vL 0, vL 5]) (st := []) 41 rfl ok_X12_isIn sm_X12_isIn ml_12_267 rfl (by decide) ⟨Nat.le_refl _, Nat.le_refl _⟩ (Nat.le_of_ble_eq_true rfl) (D_X12_letter_0.at 24 rfl) (fun _ => rfl) (CGm_of2 (by decide) (by decide) trivial (Nat.le_of_ble_eq_true rfl) ?_) (fun _ _ kq hb => kq hb)
  refine J_lload_n 1 rfl 0 0 rfl (D_X12_isIn_0.at 0 rfl) ?_
  refine J_lload_n 2 rfl 2 1 rfl (D_X12_isIn_0.at 1 rfl) ?_
  obtain ⟨s11, T⟩ := T
  refine J_lcmp_lt 6 rfl 17 s11 ⟨by decide, by decide⟩ (D_X12_isIn_0.at 2 rfl) (D_X12_isIn_0.at 3 rfl) (by decide) (fun c15 => ?_) (fun c15 => ?_)
  · replace T := T.1 c15
    refine J_iconst 18 rfl (D_X12_isIn_0.at 10 rfl) ?_
    refine J_zret rfl (Or.inl rfl) (D_X12_isIn_0.at 11 rfl) (fun _ => ?_)
    refine J_if_ne 44 rfl 46 ⟨by decide, by decide⟩ (D_X12_letter_0.at 25 rfl) (by decide) (fun c => absurd c (by decide)) (fun _ => ?_)
    refine J_iconst 45 rfl (D_X12_letter_0.at 26 rfl) ?_
    exact J_iret rfl (D_X12_letter_0.at 27 rfl) T
  replace T := T.2 c15
  refine J_lload_n 7 rfl 0 0 rfl (D_X12_isIn_0.at 4 rfl) ?_
  refine J_lload 9 rfl 4 2 rfl (D_X12_isIn_0.at 5 rfl) ?_
  obtain ⟨s12, T⟩ := T
  refine J_lcmp_gt 13 rfl 17 s12 ⟨by decide, by decide⟩ (D_X12_isIn_0.at 6 rfl) (D_X12_isIn_0.at 7 rfl) (by decide) (fun c14 => ?_) (fun c14 => ?_)
  · replace T := T.1 c14
    refine J_iconst 18 rfl (D_X12_isIn_0.at 10 rfl) ?_
    refine J_zret rfl (Or.inl rfl) (D_X12_isIn_0.at 11 rfl) (fun _ => ?_)
    refine J_if_ne 44 rfl 46 ⟨by decide, by decide⟩ (D_X12_letter_0.at 25 rfl) (by decide) (fun c => absurd c (by decide)) (fun _ => ?_)
    refine J_iconst 45 rfl (D_X12_letter_0.at 26 rfl) ?_
    exact J_iret rfl (D_X12_letter_0.at 27 rfl) T
  replace T := T.2 c14
  refine J_iconst 14 rfl (D_X12_isIn_0.at 8 rfl) ?_
  refine J_goto 18 (D_X12_isIn_0.at 9 rfl) (by decide) ?_
  refine J_zret rfl (Or.inr rfl) (D_X12_isIn_0.at 11 rfl) (fun _ => ?_)
  refine J_if_ne 44 rfl 46 ⟨by decide, by decide⟩ (D_X12_letter_0.at 25 rfl) (by decide) (fun _ => ?_) (fun c => absurd (by decide) c)
  refine J_aload_n 47 rfl 0 0 rfl ⟨by decide, by decide⟩ (D_X12_letter_0.at 28 rfl) ?_
  refine J_getF (ov := 94) (dd := 1026) 50 rfl fl_12_90 rfl (by decide) rfl ob_68 (Ob.lt ob_68) (D_X12_letter_0.at 29 rfl) ?_
  refine J_bipush 52 rfl ⟨by decide, by decide⟩ (D_X12_letter_0.at 30 rfl) ?_
  refine J_bipush 54 rfl ⟨by decide, by decide⟩ (D_X12_letter_0.at 31 rfl) ?_
  refine J_iload_n 55 rfl 1 1 rfl (D_X12_letter_0.at 32 rfl) ?_
  refine J_imul 56 rfl (D_X12_letter_0.at 33 rfl) ?_
  refine J_iadd 57 rfl (D_X12_letter_0.at 34 rfl) ?_
  refine J_iload_n 58 rfl 2 2 rfl (D_X12_letter_0.at 35 rfl) ?_
  refine J_iadd 59 rfl (D_X12_letter_0.at 36 rfl) ?_
  obtain ⟨s13, T⟩ := T
  refine J_lald 60 rfl ar_94 (Ar.lt ar_94) s13 (D_X12_letter_0.at 37 rfl) ?_
  refine J_lstore (lv' := [(4, vL (h 94 ((30 + (10 * a1)) + a2))), (0, vR 68), (1, vI a1), (2, vI a2), (3, vI a3)]) 62 rfl 4 (by decide) rfl (D_X12_letter_0.at 38 rfl) ?_
  refine J_iconst 63 rfl (D_X12_letter_0.at 39 rfl) ?_
  refine J_istore (lv' := [(6, vI 0), (4, vL (h 94 ((30 + (10 * a1)) + a2))), (0, vR 68), (1, vI a1), (2, vI a2), (3, vI a3)]) 65 rfl 6 (by decide) rfl (D_X12_letter_0.at 40 rfl) ?_
  refine J_lload 67 rfl 4 1 rfl (D_X12_letter_0.at 41 rfl) ?_
  refine J_lstore (lv' := [(7, vL (h 94 ((30 + (10 * a1)) + a2))), (6, vI 0), (4, vL (h 94 ((30 + (10 * a1)) + a2))), (0, vR 68), (1, vI a1), (2, vI a2), (3, vI a3)]) 69 rfl 7 (by decide) rfl (D_X12_letter_0.at 42 rfl) ?_
  exact J_sub (lv' := [(3, vI a3), (4, vL (h 94 ((30 + (10 * a1)) + a2))), (6, vI 0), (7, vL (h 94 ((30 + (10 * a1)) + a2)))]) [6, 2, 1, 0] rfl T
theorem l_X12_letter_69 {w : Wd} {v3 v4 v6 v7 : Int} {h : Hp} {K : Int → Hp → Prop} (T : (inL v7) ∧ (((v7 ≤ 0) → ((inR v3) ∧ ((inR v6) ∧ (((v3 < v6) → (L_X12_letter_104 w v3 v4 (v6 - 1) h K)) ∧ (¬ (v3 < v6) → (K 0 h)))))) ∧ (¬ (v7 ≤ 0) → ((0 ≤ v7 ∧ v7 < 9223372036854775808) ∧ (L_X12_letter_69 w v3 v4 (v6 + 1) (v7 / 27) h K))))) : L_X12_letter_69 w v3 v4 v6 v7 h K := by
  unfold L_X12_letter_69
  refine J_lload 71 rfl 7 3 rfl (D_X12_letter_0.at 43 rfl) ?_
  refine J_lconst (z := 0) 72 rfl rfl (D_X12_letter_0.at 44 rfl) ?_
  obtain ⟨s20, T⟩ := T
  refine J_lcmp_le 76 rfl 90 s20 ⟨by decide, by decide⟩ (D_X12_letter_0.at 45 rfl) (D_X12_letter_0.at 46 rfl) (by decide) (fun c25 => ?_) (fun c25 => ?_)
  · replace T := T.1 c25
    refine J_iload_n 91 rfl 3 0 rfl (D_X12_letter_1.at 5 rfl) ?_
    refine J_iload 93 rfl 6 2 rfl (D_X12_letter_1.at 6 rfl) ?_
    obtain ⟨s21, T⟩ := T
    obtain ⟨s22, T⟩ := T
    refine J_icmp_lt 96 rfl 98 s21 s22 (D_X12_letter_1.at 7 rfl) (by decide) (fun c23 => ?_) (fun c23 => ?_)
    · replace T := T.1 c23
      refine J_iload 100 rfl 6 2 rfl (D_X12_letter_1.at 10 rfl) ?_
      refine J_iconst 101 rfl (D_X12_letter_1.at 11 rfl) ?_
      refine J_isub 102 rfl (D_X12_letter_1.at 12 rfl) ?_
      refine J_istore (lv' := [(7, vI (v6 - 1)), (3, vI v3), (4, vL v4), (6, vI v6)]) 104 rfl 7 (by decide) rfl (D_X12_letter_1.at 13 rfl) ?_
      exact J_sub (lv' := [(3, vI v3), (4, vL v4), (7, vI (v6 - 1))]) [1, 2, 0] rfl T
    replace T := T.2 c23
    refine J_iconst 97 rfl (D_X12_letter_1.at 8 rfl) ?_
    exact J_iret rfl (D_X12_letter_1.at 9 rfl) T
  replace T := T.2 c25
  refine J_iinc (v := (v6 + 1)) (lv' := [(6, vI (v6 + 1)), (3, vI v3), (4, vL v4), (7, vL v7)]) 79 rfl 6 2 1 rfl rfl (by decide) rfl (D_X12_letter_0.at 47 rfl) ?_
  refine J_lload 81 rfl 7 3 rfl (D_X12_letter_1.at 0 rfl) ?_
  refine J_ldc2 84 rfl ko_12_278 (D_X12_letter_1.at 1 rfl) ?_
  obtain ⟨s24, T⟩ := T
  refine J_ldiv 85 rfl s24 ⟨by decide, by decide⟩ (D_X12_letter_1.at 2 rfl) ?_
  refine J_lstore (lv' := [(7, vL (v7 / 27)), (6, vI (v6 + 1)), (3, vI v3), (4, vL v4)]) 87 rfl 7 (by decide) rfl (D_X12_letter_1.at 3 rfl) ?_
  refine J_goto 69 (D_X12_letter_1.at 4 rfl) (by decide) ?_
  exact J_sub (lv' := [(3, vI v3), (4, vL v4), (6, vI (v6 + 1)), (7, vL (v7 / 27))]) [2, 3, 1, 0] rfl T
theorem l_X12_letter_104 {w : Wd} {v3 v4 v7 : Int} {h : Hp} {K : Int → Hp → Prop} (T : (inR v7) ∧ ((inR v3) ∧ (((v7 ≤ v3) → ((0 ≤ v4 ∧ v4 < 9223372036854775808) ∧ (K (v4 % 27) h))) ∧ (¬ (v7 ≤ v3) → ((0 ≤ v4 ∧ v4 < 9223372036854775808) ∧ (L_X12_letter_104 w v3 (v4 / 27) (v7 + (-1)) h K)))))) : L_X12_letter_104 w v3 v4 v7 h K := by
  unfold L_X12_letter_104
  refine J_iload 106 rfl 7 2 rfl (D_X12_letter_1.at 14 rfl) ?_
  refine J_iload_n 107 rfl 3 0 rfl (D_X12_letter_1.at 15 rfl) ?_
  obtain ⟨s26, T⟩ := T
  obtain ⟨s27, T⟩ := T
  refine J_icmp_le 110 rfl 124 s26 s27 (D_X12_letter_1.at 16 rfl) (by decide) (fun c30 => ?_) (fun c30 => ?_)
  · replace T := T.1 c30
    refine J_lload 126 rfl 4 1 rfl (D_X12_letter_1.at 23 rfl) ?_
    refine J_ldc2 129 rfl ko_12_278 (D_X12_letter_1.at 24 rfl) ?_
    obtain ⟨s28, T⟩ := T
    refine J_lrem 130 rfl s28 ⟨by decide, by decide⟩ (D_X12_letter_1.at 25 rfl) ?_
    refine J_l2i 131 rfl (D_X12_letter_1.at 26 rfl) ?_
    exact J_iret rfl (D_X12_letter_1.at 27 rfl) T
  replace T := T.2 c30
  refine J_lload 112 rfl 4 1 rfl (D_X12_letter_1.at 17 rfl) ?_
  refine J_ldc2 115 rfl ko_12_278 (D_X12_letter_1.at 18 rfl) ?_
  obtain ⟨s29, T⟩ := T
  refine J_ldiv 116 rfl s29 ⟨by decide, by decide⟩ (D_X12_letter_1.at 19 rfl) ?_
  refine J_lstore (lv' := [(4, vL (v4 / 27)), (3, vI v3), (7, vI v7)]) 118 rfl 4 (by decide) rfl (D_X12_letter_1.at 20 rfl) ?_
  refine J_iinc (v := (v7 + (-1))) (lv' := [(7, vI (v7 + (-1))), (4, vL (v4 / 27)), (3, vI v3)]) 121 rfl 7 2 (-1) rfl rfl (by decide) rfl (D_X12_letter_1.at 21 rfl) ?_
  refine J_goto 104 (D_X12_letter_1.at 22 rfl) (by decide) ?_
  exact J_sub (lv' := [(3, vI v3), (4, vL (v4 / 27)), (7, vI (v7 + (-1)))]) [2, 1, 0] rfl T
theorem c_X12_isBank {w : Wd} {a1 : Int} {h : Hp} {K : Int → Hp → Prop} (T : (inR a1) ∧ ((inR ((h 93 5) - 1)) ∧ ((inL a1) ∧ (((a1 < 0) → (K 0 h)) ∧ (¬ (a1 < 0) → ((inL a1) ∧ ((inL ((h 93 5) - 1)) ∧ (((a1 > ((h 93 5) - 1)) → (K 0 h)) ∧ (¬ (a1 > ((h 93 5) - 1)) → (K 1 h)))))))))) : C_X12_isBank w a1 h K := by
  refine CGm_of2 (by decide) (by decide) trivial (Nat.le_of_ble_eq_true rfl) ?_
  refine J_iload_n 1 rfl 1 1 rfl (D_X12_isBank_0.at 0 rfl) ?_
  obtain ⟨s1, T⟩ := T
  refine J_i2l 2 rfl s1 (D_X12_isBank_0.at 1 rfl) ?_
  refine J_lconst (z := 0) 3 rfl rfl (D_X12_isBank_0.at 2 rfl) ?_
  refine J_aload_n 4 rfl 0 0 rfl ⟨by decide, by decide⟩ (D_X12_isBank_0.at 3 rfl) ?_
  refine J_callV (d' := 1) (K1 := fun z h0 => rok (some .int) z → JG w true m_X12_isBank 2 NT NT 7 [(0, vR 68), (1, vI a1)] [vI z, vL 0, vL a1] h0 _) (sr := fun z => [vI z, vL 0, vL a1]) (as := []) (st := [vL 0, vL a1]) (o := 68) 7 rfl ok_X12_bankMany im_X12_bankMany se_X12_bankMany ml_12_419 isC_12 ob_68 (Ob.lt ob_68) rfl (by decide) ⟨Nat.le_refl _, Nat.le_refl _⟩ (Nat.le_of_ble_eq_true rfl) (D_X12_isBank_0.at 4 rfl) (fun _ => rfl) (CGm_of2 (by decide) (by decide) trivial (Nat.le_of_ble_eq_true rfl) ?_) (fun _ _ kq hb => kq hb)
  refine J_aload_n 1 rfl 0 0 rfl ⟨by decide, by decide⟩ (D_X12_bankMany_0.at 0 rfl) ?_
  refine J_getF (ov := 93) (dd := 1025) 4 rfl fl_12_87 rfl (by decide) rfl ob_68 (Ob.lt ob_68) (D_X12_bankMany_0.at 1 rfl) ?_
  refine J_iconst 5 rfl (D_X12_bankMany_0.at 2 rfl) ?_
  refine J_iald 6 rfl ar_93 (Ar.lt ar_93) ⟨by decide, by decide⟩ (D_X12_bankMany_0.at 3 rfl) ?_
  refine J_iret rfl (D_X12_bankMany_0.at 4 rfl) (fun _ => ?_)
  refine J_iconst 8 rfl (D_X12_isBank_0.at 5 rfl) ?_
  refine J_isub 9 rfl (D_X12_isBank_0.at 6 rfl) ?_
  obtain ⟨s2, T⟩ := T
  refine J_i2l 10 rfl s2 (D_X12_isBank_0.at 7 rfl) ?_
  refine J_callS (d' := 1) (K1 := fun z h0 => rok (some .boolean) z → JG w true m_X12_isBank 2 NT NT 13 [(0, vR 68), (1, vI a1)] [vI z] h0 _) (sr := fun z => [vI z]) (as := [vL a1, vL 0, vL ((h 93 5) - 1)]) (st := []) 13 rfl ok_X12_isIn sm_X12_isIn ml_12_267 rfl (by decide) ⟨Nat.le_refl _, Nat.le_refl _⟩ (Nat.le_of_ble_eq_true rfl) (D_X12_isBank_0.at 8 rfl) (fun _ => rfl) (CGm_of2 (by decide) (by decide) trivial (Nat.le_of_ble_eq_true rfl) ?_) (fun _ _ kq hb => kq hb)
  refine J_lload_n 1 rfl 0 0 rfl (D_X12_isIn_0.at 0 rfl) ?_
  refine J_lload_n 2 rfl 2 1 rfl (D_X12_isIn_0.at 1 rfl) ?_
  obtain ⟨s3, T⟩ := T
  refine J_lcmp_lt 6 rfl 17 s3 ⟨by decide, by decide⟩ (D_X12_isIn_0.at 2 rfl) (D_X12_isIn_0.at 3 rfl) (by decide) (fun c7 => ?_) (fun c7 => ?_)
  · replace T := T.1 c7
    refine J_iconst 18 rfl (D_X12_isIn_0.at 10 rfl) ?_
    refine J_zret rfl (Or.inl rfl) (D_X12_isIn_0.at 11 rfl) (fun _ => ?_)
    exact J_zret rfl (Or.inl rfl) (D_X12_isBank_0.at 9 rfl) T
  replace T := T.2 c7
  refine J_lload_n 7 rfl 0 0 rfl (D_X12_isIn_0.at 4 rfl) ?_
  refine J_lload 9 rfl 4 2 rfl (D_X12_isIn_0.at 5 rfl) ?_
  obtain ⟨s4, T⟩ := T
  obtain ⟨s5, T⟩ := T
  refine J_lcmp_gt 13 rfl 17 s4 s5 (D_X12_isIn_0.at 6 rfl) (D_X12_isIn_0.at 7 rfl) (by decide) (fun c6 => ?_) (fun c6 => ?_)
  · replace T := T.1 c6
    refine J_iconst 18 rfl (D_X12_isIn_0.at 10 rfl) ?_
    refine J_zret rfl (Or.inl rfl) (D_X12_isIn_0.at 11 rfl) (fun _ => ?_)
    exact J_zret rfl (Or.inl rfl) (D_X12_isBank_0.at 9 rfl) T
  replace T := T.2 c6
  refine J_iconst 14 rfl (D_X12_isIn_0.at 8 rfl) ?_
  refine J_goto 18 (D_X12_isIn_0.at 9 rfl) (by decide) ?_
  refine J_zret rfl (Or.inr rfl) (D_X12_isIn_0.at 11 rfl) (fun _ => ?_)
  exact J_zret rfl (Or.inr rfl) (D_X12_isBank_0.at 9 rfl) T
theorem c_X12_lyingOf {w : Wd} {a1 : Int} {h : Hp} {K : Int → Hp → Prop} (T : L_X12_lyingOf_4 w a1 0 0 h K) : C_X12_lyingOf w a1 h K := by
  refine CGm_of2 (by decide) (by decide) trivial (Nat.le_of_ble_eq_true rfl) ?_
  refine J_iconst 1 rfl (D_X12_lyingOf_0.at 0 rfl) ?_
  refine J_istore_n (lv' := [(2, vI 0), (0, vR 68), (1, vI a1)]) 2 rfl 2 (by decide) rfl (D_X12_lyingOf_0.at 1 rfl) ?_
  refine J_iconst 3 rfl (D_X12_lyingOf_0.at 2 rfl) ?_
  refine J_istore_n (lv' := [(3, vI 0), (2, vI 0), (0, vR 68), (1, vI a1)]) 4 rfl 3 (by decide) rfl (D_X12_lyingOf_0.at 3 rfl) ?_
  exact J_sub (lv' := [(0, vR 68), (1, vI a1), (2, vI 0), (3, vI 0)]) [2, 3, 1, 0] rfl T
theorem l_X12_lyingOf_4 {w : Wd} {v1 v2 v3 : Int} {h : Hp} {K : Int → Hp → Prop} (T : (inR v3) ∧ ((inR (h 68 36)) ∧ (((v3 ≥ (h 68 36)) → (K v2 h)) ∧ (¬ (v3 ≥ (h 68 36)) → ((0 ≤ ((29 + (10 * v3)) + v1) ∧ ((29 + (10 * v3)) + v1) < 109) ∧ (L_X12_lyingOf_4 w v1 (v2 + (h 104 ((29 + (10 * v3)) + v1))) (v3 + 1) h K)))))) : L_X12_lyingOf_4 w v1 v2 v3 h K := by
  unfold L_X12_lyingOf_4
  refine J_iload_n 5 rfl 3 3 rfl (D_X12_lyingOf_0.at 4 rfl) ?_
  refine J_aload_n 6 rfl 0 0 rfl ⟨by decide, by decide⟩ (D_X12_lyingOf_0.at 5 rfl) ?_
  refine J_getI (z := (h 68 36)) 9 rfl fl_12_356 rfl ob_68 (Ob.lt ob_68) (D_X12_lyingOf_0.at 6 rfl) rfl ?_
  obtain ⟨s1, T⟩ := T
  obtain ⟨s2, T⟩ := T
  refine J_icmp_ge 12 rfl 27 s1 s2 (D_X12_lyingOf_0.at 7 rfl) (by decide) (fun c4 => ?_) (fun c4 => ?_)
  · replace T := T.1 c4
    refine J_iload_n 28 rfl 2 2 rfl (D_X12_lyingOf_0.at 17 rfl) ?_
    exact J_iret rfl (D_X12_lyingOf_0.at 18 rfl) T
  replace T := T.2 c4
  refine J_iload_n 13 rfl 2 2 rfl (D_X12_lyingOf_0.at 8 rfl) ?_
  refine J_aload_n 14 rfl 0 0 rfl ⟨by decide, by decide⟩ (D_X12_lyingOf_0.at 9 rfl) ?_
  refine J_iload_n 15 rfl 3 3 rfl (D_X12_lyingOf_0.at 10 rfl) ?_
  refine J_iload_n 16 rfl 1 1 rfl (D_X12_lyingOf_0.at 11 rfl) ?_
  refine J_callV (d' := 1) (K1 := fun z h0 => rok (some .int) z → JG w true m_X12_lyingOf 2 NT NT 19 [(0, vR 68), (1, vI v1), (2, vI v2), (3, vI v3)] [vI z, vI v2] h0 _) (sr := fun z => [vI z, vI v2]) (as := [vI v3, vI v1]) (st := [vI v2]) (o := 68) 19 rfl ok_X12_liesIn im_X12_liesIn se_X12_liesIn ml_12_468 isC_12 ob_68 (Ob.lt ob_68) rfl (by decide) ⟨Nat.le_refl _, Nat.le_refl _⟩ (Nat.le_of_ble_eq_true rfl) (D_X12_lyingOf_0.at 12 rfl) (fun _ => rfl) (CGm_of2 (by decide) (by decide) trivial (Nat.le_of_ble_eq_true rfl) ?_) (fun _ _ kq hb => kq hb)
  refine J_aload_n 1 rfl 0 0 rfl ⟨by decide, by decide⟩ (D_X12_liesIn_0.at 0 rfl) ?_
  refine J_getF (ov := 104) (dd := 1036) 4 rfl fl_12_121 rfl (by decide) rfl ob_68 (Ob.lt ob_68) (D_X12_liesIn_0.at 1 rfl) ?_
  refine J_bipush 6 rfl ⟨by decide, by decide⟩ (D_X12_liesIn_0.at 2 rfl) ?_
  refine J_bipush 8 rfl ⟨by decide, by decide⟩ (D_X12_liesIn_0.at 3 rfl) ?_
  refine J_iload_n 9 rfl 1 1 rfl (D_X12_liesIn_0.at 4 rfl) ?_
  refine J_imul 10 rfl (D_X12_liesIn_0.at 5 rfl) ?_
  refine J_iadd 11 rfl (D_X12_liesIn_0.at 6 rfl) ?_
  refine J_iload_n 12 rfl 2 2 rfl (D_X12_liesIn_0.at 7 rfl) ?_
  refine J_iadd 13 rfl (D_X12_liesIn_0.at 8 rfl) ?_
  obtain ⟨s3, T⟩ := T
  refine J_iald 14 rfl ar_104 (Ar.lt ar_104) s3 (D_X12_liesIn_0.at 9 rfl) ?_
  refine J_iret rfl (D_X12_liesIn_0.at 10 rfl) (fun _ => ?_)
  refine J_iadd 20 rfl (D_X12_lyingOf_0.at 13 rfl) ?_
  refine J_istore_n (lv' := [(2, vI (v2 + (h 104 ((29 + (10 * v3)) + v1)))), (0, vR 68), (1, vI v1), (3, vI v3)]) 21 rfl 2 (by decide) rfl (D_X12_lyingOf_0.at 14 rfl) ?_
  refine J_iinc (v := (v3 + 1)) (lv' := [(3, vI (v3 + 1)), (2, vI (v2 + (h 104 ((29 + (10 * v3)) + v1)))), (0, vR 68), (1, vI v1)]) 24 rfl 3 3 1 rfl rfl (by decide) rfl (D_X12_lyingOf_0.at 15 rfl) ?_
  refine J_goto 4 (D_X12_lyingOf_0.at 16 rfl) (by decide) ?_
  exact J_sub (lv' := [(0, vR 68), (1, vI v1), (2, vI (v2 + (h 104 ((29 + (10 * v3)) + v1)))), (3, vI (v3 + 1))]) [2, 3, 1, 0] rfl T
theorem c_X12_isReach {w : Wd} {a1 : Int} {h : Hp} {K : Int → Hp → Prop} (T : (inR a1) ∧ ((inR ((h 68 36) - 1)) ∧ ((inL a1) ∧ (((a1 < 0) → (K 0 h)) ∧ (¬ (a1 < 0) → ((inL a1) ∧ ((inL ((h 68 36) - 1)) ∧ (((a1 > ((h 68 36) - 1)) → (K 0 h)) ∧ (¬ (a1 > ((h 68 36) - 1)) → (K 1 h)))))))))) : C_X12_isReach w a1 h K := by
  refine CGm_of2 (by decide) (by decide) trivial (Nat.le_of_ble_eq_true rfl) ?_
  refine J_iload_n 1 rfl 1 1 rfl (D_X12_isReach_0.at 0 rfl) ?_
  obtain ⟨s1, T⟩ := T
  refine J_i2l 2 rfl s1 (D_X12_isReach_0.at 1 rfl) ?_
  refine J_lconst (z := 0) 3 rfl rfl (D_X12_isReach_0.at 2 rfl) ?_
  refine J_aload_n 4 rfl 0 0 rfl ⟨by decide, by decide⟩ (D_X12_isReach_0.at 3 rfl) ?_
  refine J_getI (z := (h 68 36)) 7 rfl fl_12_356 rfl ob_68 (Ob.lt ob_68) (D_X12_isReach_0.at 4 rfl) rfl ?_
  refine J_iconst 8 rfl (D_X12_isReach_0.at 5 rfl) ?_
  refine J_isub 9 rfl (D_X12_isReach_0.at 6 rfl) ?_
  obtain ⟨s2, T⟩ := T
  refine J_i2l 10 rfl s2 (D_X12_isReach_0.at 7 rfl) ?_
  refine J_callS (d' := 1) (K1 := fun z h0 => rok (some .boolean) z → JG w true m_X12_isReach 2 NT NT 13 [(0, vR 68), (1, vI a1)] [vI z] h0 _) (sr := fun z => [vI z]) (as := [vL a1, vL 0, vL ((h 68 36) - 1)]) (st := []) 13 rfl ok_X12_isIn sm_X12_isIn ml_12_267 rfl (by decide) ⟨Nat.le_refl _, Nat.le_refl _⟩ (Nat.le_of_ble_eq_true rfl) (D_X12_isReach_0.at 8 rfl) (fun _ => rfl) (CGm_of2 (by decide) (by decide) trivial (Nat.le_of_ble_eq_true rfl) ?_) (fun _ _ kq hb => kq hb)
  refine J_lload_n 1 rfl 0 0 rfl (D_X12_isIn_0.at 0 rfl) ?_
  refine J_lload_n 2 rfl 2 1 rfl (D_X12_isIn_0.at 1 rfl) ?_
  obtain ⟨s3, T⟩ := T
  refine J_lcmp_lt 6 rfl 17 s3 ⟨by decide, by decide⟩ (D_X12_isIn_0.at 2 rfl) (D_X12_isIn_0.at 3 rfl) (by decide) (fun c7 => ?_) (fun c7 => ?_)
  · replace T := T.1 c7
    refine J_iconst 18 rfl (D_X12_isIn_0.at 10 rfl) ?_
    refine J_zret rfl (Or.inl rfl) (D_X12_isIn_0.at 11 rfl) (fun _ => ?_)
    exact J_zret rfl (Or.inl rfl) (D_X12_isReach_0.at 9 rfl) T
  replace T := T.2 c7
  refine J_lload_n 7 rfl 0 0 rfl (D_X12_isIn_0.at 4 rfl) ?_
  refine J_lload 9 rfl 4 2 rfl (D_X12_isIn_0.at 5 rfl) ?_
  obtain ⟨s4, T⟩ := T
  obtain ⟨s5, T⟩ := T
  refine J_lcmp_gt 13 rfl 17 s4 s5 (D_X12_isIn_0.at 6 rfl) (D_X12_isIn_0.at 7 rfl) (by decide) (fun c6 => ?_) (fun c6 => ?_)
  · replace T := T.1 c6
    refine J_iconst 18 rfl (D_X12_isIn_0.at 10 rfl) ?_
    refine J_zret rfl (Or.inl rfl) (D_X12_isIn_0.at 11 rfl) (fun _ => ?_)
    exact J_zret rfl (Or.inl rfl) (D_X12_isReach_0.at 9 rfl) T
  replace T := T.2 c6
  refine J_iconst 14 rfl (D_X12_isIn_0.at 8 rfl) ?_
  refine J_goto 18 (D_X12_isIn_0.at 9 rfl) (by decide) ?_
  refine J_zret rfl (Or.inr rfl) (D_X12_isIn_0.at 11 rfl) (fun _ => ?_)
  exact J_zret rfl (Or.inr rfl) (D_X12_isReach_0.at 9 rfl) T
theorem c_X12_liesAll {w : Wd} {a1 : Int} {h : Hp} {K : Int → Hp → Prop} (T : L_X12_liesAll_4 w a1 0 0 h K) : C_X12_liesAll w a1 h K := by
  refine CGm_of2 (by decide) (by decide) trivial (Nat.le_of_ble_eq_true rfl) ?_
  refine J_iconst 1 rfl (D_X12_liesAll_0.at 0 rfl) ?_
  refine J_istore_n (lv' := [(2, vI 0), (0, vR 68), (1, vI a1)]) 2 rfl 2 (by decide) rfl (D_X12_liesAll_0.at 1 rfl) ?_
  refine J_iconst 3 rfl (D_X12_liesAll_0.at 2 rfl) ?_
  refine J_istore_n (lv' := [(3, vI 0), (2, vI 0), (0, vR 68), (1, vI a1)]) 4 rfl 3 (by decide) rfl (D_X12_liesAll_0.at 3 rfl) ?_
  exact J_sub (lv' := [(0, vR 68), (1, vI a1), (2, vI 0), (3, vI 0)]) [2, 3, 1, 0] rfl T
theorem l_X12_liesAll_4 {w : Wd} {v1 v2 v3 : Int} {h : Hp} {K : Int → Hp → Prop} (T : (inR v3) ∧ ((inR (h 93 5)) ∧ (((v3 ≥ (h 93 5)) → (K v2 h)) ∧ (¬ (v3 ≥ (h 93 5)) → ((0 ≤ ((29 + (10 * v1)) + v3) ∧ ((29 + (10 * v1)) + v3) < 109) ∧ (L_X12_liesAll_4 w v1 (v2 + (h 104 ((29 + (10 * v1)) + v3))) (v3 + 1) h K)))))) : L_X12_liesAll_4 w v1 v2 v3 h K := by
  unfold L_X12_liesAll_4
  refine J_iload_n 5 rfl 3 3 rfl (D_X12_liesAll_0.at 4 rfl) ?_
  refine J_aload_n 6 rfl 0 0 rfl ⟨by decide, by decide⟩ (D_X12_liesAll_0.at 5 rfl) ?_
  refine J_callV (d' := 1) (K1 := fun z h0 => rok (some .int) z → JG w true m_X12_liesAll 2 NT NT 9 [(0, vR 68), (1, vI v1), (2, vI v2), (3, vI v3)] [vI z, vI v3] h0 _) (sr := fun z => [vI z, vI v3]) (as := []) (st := [vI v3]) (o := 68) 9 rfl ok_X12_bankMany im_X12_bankMany se_X12_bankMany ml_12_419 isC_12 ob_68 (Ob.lt ob_68) rfl (by decide) ⟨Nat.le_refl _, Nat.le_refl _⟩ (Nat.le_of_ble_eq_true rfl) (D_X12_liesAll_0.at 6 rfl) (fun _ => rfl) (CGm_of2 (by decide) (by decide) trivial (Nat.le_of_ble_eq_true rfl) ?_) (fun _ _ kq hb => kq hb)
  refine J_aload_n 1 rfl 0 0 rfl ⟨by decide, by decide⟩ (D_X12_bankMany_0.at 0 rfl) ?_
  refine J_getF (ov := 93) (dd := 1025) 4 rfl fl_12_87 rfl (by decide) rfl ob_68 (Ob.lt ob_68) (D_X12_bankMany_0.at 1 rfl) ?_
  refine J_iconst 5 rfl (D_X12_bankMany_0.at 2 rfl) ?_
  refine J_iald 6 rfl ar_93 (Ar.lt ar_93) ⟨by decide, by decide⟩ (D_X12_bankMany_0.at 3 rfl) ?_
  refine J_iret rfl (D_X12_bankMany_0.at 4 rfl) (fun _ => ?_)
  obtain ⟨s1, T⟩ := T
  obtain ⟨s2, T⟩ := T
  refine J_icmp_ge 12 rfl 27 s1 s2 (D_X12_liesAll_0.at 7 rfl) (by decide) (fun c4 => ?_) (fun c4 => ?_)
  · replace T := T.1 c4
    refine J_iload_n 28 rfl 2 2 rfl (D_X12_liesAll_0.at 17 rfl) ?_
    exact J_iret rfl (D_X12_liesAll_0.at 18 rfl) T
  replace T := T.2 c4
  refine J_iload_n 13 rfl 2 2 rfl (D_X12_liesAll_0.at 8 rfl) ?_
  refine J_aload_n 14 rfl 0 0 rfl ⟨by decide, by decide⟩ (D_X12_liesAll_0.at 9 rfl) ?_
  refine J_iload_n 15 rfl 1 1 rfl (D_X12_liesAll_0.at 10 rfl) ?_
  refine J_iload_n 16 rfl 3 3 rfl (D_X12_liesAll_0.at 11 rfl) ?_
  refine J_callV (d' := 1) (K1 := fun z h0 => rok (some .int) z → JG w true m_X12_liesAll 2 NT NT 19 [(0, vR 68), (1, vI v1), (2, vI v2), (3, vI v3)] [vI z, vI v2] h0 _) (sr := fun z => [vI z, vI v2]) (as := [vI v1, vI v3]) (st := [vI v2]) (o := 68) 19 rfl ok_X12_liesIn im_X12_liesIn se_X12_liesIn ml_12_468 isC_12 ob_68 (Ob.lt ob_68) rfl (by decide) ⟨Nat.le_refl _, Nat.le_refl _⟩ (Nat.le_of_ble_eq_true rfl) (D_X12_liesAll_0.at 12 rfl) (fun _ => rfl) (CGm_of2 (by decide) (by decide) trivial (Nat.le_of_ble_eq_true rfl) ?_) (fun _ _ kq hb => kq hb)
  refine J_aload_n 1 rfl 0 0 rfl ⟨by decide, by decide⟩ (D_X12_liesIn_0.at 0 rfl) ?_
  refine J_getF (ov := 104) (dd := 1036) 4 rfl fl_12_121 rfl (by decide) rfl ob_68 (Ob.lt ob_68) (D_X12_liesIn_0.at 1 rfl) ?_
  refine J_bipush 6 rfl ⟨by decide, by decide⟩ (D_X12_liesIn_0.at 2 rfl) ?_
  refine J_bipush 8 rfl ⟨by decide, by decide⟩ (D_X12_liesIn_0.at 3 rfl) ?_
  refine J_iload_n 9 rfl 1 1 rfl (D_X12_liesIn_0.at 4 rfl) ?_
  refine J_imul 10 rfl (D_X12_liesIn_0.at 5 rfl) ?_
  refine J_iadd 11 rfl (D_X12_liesIn_0.at 6 rfl) ?_
  refine J_iload_n 12 rfl 2 2 rfl (D_X12_liesIn_0.at 7 rfl) ?_
  refine J_iadd 13 rfl (D_X12_liesIn_0.at 8 rfl) ?_
  obtain ⟨s3, T⟩ := T
  refine J_iald 14 rfl ar_104 (Ar.lt ar_104) s3 (D_X12_liesIn_0.at 9 rfl) ?_
  refine J_iret rfl (D_X12_liesIn_0.at 10 rfl) (fun _ => ?_)
  refine J_iadd 20 rfl (D_X12_liesAll_0.at 13 rfl) ?_
  refine J_istore_n (lv' := [(2, vI (v2 + (h 104 ((29 + (10 * v1)) + v3)))), (0, vR 68), (1, vI v1), (3, vI v3)]) 21 rfl 2 (by decide) rfl (D_X12_liesAll_0.at 14 rfl) ?_
  refine J_iinc (v := (v3 + 1)) (lv' := [(3, vI (v3 + 1)), (2, vI (v2 + (h 104 ((29 + (10 * v1)) + v3)))), (0, vR 68), (1, vI v1)]) 24 rfl 3 3 1 rfl rfl (by decide) rfl (D_X12_liesAll_0.at 15 rfl) ?_
  refine J_goto 4 (D_X12_liesAll_0.at 16 rfl) (by decide) ?_
  exact J_sub (lv' := [(0, vR 68), (1, vI v1), (2, vI (v2 + (h 104 ((29 + (10 * v1)) + v3)))), (3, vI (v3 + 1))]) [2, 3, 1, 0] rfl T
theorem c_X12_ownersIn {w : Wd} {a1 a2 : Int} {h : Hp} {K : Int → Hp → Prop} (T : L_X12_ownersIn_5 w a1 a2 0 0 h K) : C_X12_ownersIn w a1 a2 h K := by
  refine CGm_of2 (by decide) (by decide) trivial (Nat.le_of_ble_eq_true rfl) ?_
  refine J_iconst 1 rfl (D_X12_ownersIn_0.at 0 rfl) ?_
  refine J_istore_n (lv' := [(3, vI 0), (0, vR 68), (1, vI a1), (2, vI a2)]) 2 rfl 3 (by decide) rfl (D_X12_ownersIn_0.at 1 rfl) ?_
  refine J_iconst 3 rfl (D_X12_ownersIn_0.at 2 rfl) ?_
  refine J_istore (lv' := [(4, vI 0), (3, vI 0), (0, vR 68), (1, vI a1), (2, vI a2)]) 5 rfl 4 (by decide) rfl (D_X12_ownersIn_0.at 3 rfl) ?_
  exact J_sub (lv' := [(0, vR 68), (1, vI a1), (2, vI a2), (3, vI 0), (4, vI 0)]) [2, 3, 4, 1, 0] rfl T
theorem l_X12_ownersIn_5 {w : Wd} {v1 v2 v3 v4 : Int} {h : Hp} {K : Int → Hp → Prop} (T : (inR v4) ∧ ((inR (h 93 5)) ∧ (((v4 ≥ (h 93 5)) → (K v3 h)) ∧ (¬ (v4 ≥ (h 93 5)) → ((0 ≤ ((50 + (5 * v4)) + 0) ∧ ((50 + (5 * v4)) + 0) < 100) ∧ ((inR (h 96 ((50 + (5 * v4)) + 0))) ∧ ((inR v2) ∧ ((((h 96 ((50 + (5 * v4)) + 0)) ≠ v2) → (L_X12_ownersIn_5 w v1 v2 v3 (v4 + 1) h K)) ∧ (¬ ((h 96 ((50 + (5 * v4)) + 0)) ≠ v2) → ((0 ≤ ((29 + (10 * v1)) + v4) ∧ ((29 + (10 * v1)) + v4) < 109) ∧ (L_X12_ownersIn_5 w v1 v2 (v3 + (h 104 ((29 + (10 * v1)) + v4))) (v4 + 1) h K))))))))))) : L_X12_ownersIn_5 w v1 v2 v3 v4 h K := by
  unfold L_X12_ownersIn_5
  refine J_iload 7 rfl 4 4 rfl (D_X12_ownersIn_0.at 4 rfl) ?_
  refine J_aload_n 8 rfl 0 0 rfl ⟨by decide, by decide⟩ (D_X12_ownersIn_0.at 5 rfl) ?_
  refine J_callV (d' := 1) (K1 := fun z h0 => rok (some .int) z → JG w true m_X12_ownersIn 2 NT NT 11 [(0, vR 68), (1, vI v1), (2, vI v2), (3, vI v3), (4, vI v4)] [vI z, vI v4] h0 _) (sr := fun z => [vI z, vI v4]) (as := []) (st := [vI v4]) (o := 68) 11 rfl ok_X12_bankMany im_X12_bankMany se_X12_bankMany ml_12_419 isC_12 ob_68 (Ob.lt ob_68) rfl (by decide) ⟨Nat.le_refl _, Nat.le_refl _⟩ (Nat.le_of_ble_eq_true rfl) (D_X12_ownersIn_0.at 6 rfl) (fun _ => rfl) (CGm_of2 (by decide) (by decide) trivial (Nat.le_of_ble_eq_true rfl) ?_) (fun _ _ kq hb => kq hb)
  refine J_aload_n 1 rfl 0 0 rfl ⟨by decide, by decide⟩ (D_X12_bankMany_0.at 0 rfl) ?_
  refine J_getF (ov := 93) (dd := 1025) 4 rfl fl_12_87 rfl (by decide) rfl ob_68 (Ob.lt ob_68) (D_X12_bankMany_0.at 1 rfl) ?_
  refine J_iconst 5 rfl (D_X12_bankMany_0.at 2 rfl) ?_
  refine J_iald 6 rfl ar_93 (Ar.lt ar_93) ⟨by decide, by decide⟩ (D_X12_bankMany_0.at 3 rfl) ?_
  refine J_iret rfl (D_X12_bankMany_0.at 4 rfl) (fun _ => ?_)
  obtain ⟨s1, T⟩ := T
  obtain ⟨s2, T⟩ := T
  refine J_icmp_ge 14 rfl 41 s1 s2 (D_X12_ownersIn_0.at 7 rfl) (by decide) (fun c8 => ?_) (fun c8 => ?_)
  · replace T := T.1 c8
    refine J_iload_n 42 rfl 3 3 rfl (D_X12_ownersIn_0.at 23 rfl) ?_
    exact J_iret rfl (D_X12_ownersIn_0.at 24 rfl) T
  replace T := T.2 c8
  refine J_aload_n 15 rfl 0 0 rfl ⟨by decide, by decide⟩ (D_X12_ownersIn_0.at 8 rfl) ?_
  refine J_iload 17 rfl 4 4 rfl (D_X12_ownersIn_0.at 9 rfl) ?_
  refine J_iconst 18 rfl (D_X12_ownersIn_0.at 10 rfl) ?_
  refine J_callV (d' := 1) (K1 := fun z h0 => rok (some .int) z → JG w true m_X12_ownersIn 2 NT NT 21 [(0, vR 68), (1, vI v1), (2, vI v2), (3, vI v3), (4, vI v4)] [vI z] h0 _) (sr := fun z => [vI z]) (as := [vI v4, vI 0]) (st := []) (o := 68) 21 rfl ok_X12_bankOf im_X12_bankOf se_X12_bankOf ml_12_430 isC_12 ob_68 (Ob.lt ob_68) rfl (by decide) ⟨Nat.le_refl _, Nat.le_refl _⟩ (Nat.le_of_ble_eq_true rfl) (D_X12_ownersIn_0.at 11 rfl) (fun _ => rfl) (CGm_of2 (by decide) (by decide) trivial (Nat.le_of_ble_eq_true rfl) ?_) (fun _ _ kq hb => kq hb)
  refine J_aload_n 1 rfl 0 0 rfl ⟨by decide, by decide⟩ (D_X12_bankOf_0.at 0 rfl) ?_
  refine J_getF (ov := 96) (dd := 1028) 4 rfl fl_12_97 rfl (by decide) rfl ob_68 (Ob.lt ob_68) (D_X12_bankOf_0.at 1 rfl) ?_
  refine J_bipush 6 rfl ⟨by decide, by decide⟩ (D_X12_bankOf_0.at 2 rfl) ?_
  refine J_iconst 7 rfl (D_X12_bankOf_0.at 3 rfl) ?_
  refine J_iload_n 8 rfl 1 1 rfl (D_X12_bankOf_0.at 4 rfl) ?_
  refine J_imul 9 rfl (D_X12_bankOf_0.at 5 rfl) ?_
  refine J_iadd 10 rfl (D_X12_bankOf_0.at 6 rfl) ?_
  refine J_iload_n 11 rfl 2 2 rfl (D_X12_bankOf_0.at 7 rfl) ?_
  refine J_iadd 12 rfl (D_X12_bankOf_0.at 8 rfl) ?_
  obtain ⟨s3, T⟩ := T
  refine J_iald 13 rfl ar_96 (Ar.lt ar_96) s3 (D_X12_bankOf_0.at 9 rfl) ?_
  refine J_iret rfl (D_X12_bankOf_0.at 10 rfl) (fun _ => ?_)
  refine J_iload_n 22 rfl 2 2 rfl (D_X12_ownersIn_0.at 12 rfl) ?_
  obtain ⟨s4, T⟩ := T
  obtain ⟨s5, T⟩ := T
  refine J_icmp_ne 25 rfl 35 s4 s5 (D_X12_ownersIn_0.at 13 rfl) (by decide) (fun c7 => ?_) (fun c7 => ?_)
  · replace T := T.1 c7
    refine J_iinc (v := (v4 + 1)) (lv' := [(4, vI (v4 + 1)), (0, vR 68), (1, vI v1), (2, vI v2), (3, vI v3)]) 38 rfl 4 4 1 rfl rfl (by decide) rfl (D_X12_ownersIn_0.at 21 rfl) ?_
    refine J_goto 5 (D_X12_ownersIn_0.at 22 rfl) (by decide) ?_
    exact J_sub (lv' := [(0, vR 68), (1, vI v1), (2, vI v2), (3, vI v3), (4, vI (v4 + 1))]) [1, 2, 3, 4, 0] rfl T
  replace T := T.2 c7
  refine J_iload_n 26 rfl 3 3 rfl (D_X12_ownersIn_0.at 14 rfl) ?_
  refine J_aload_n 27 rfl 0 0 rfl ⟨by decide, by decide⟩ (D_X12_ownersIn_0.at 15 rfl) ?_
  refine J_iload_n 28 rfl 1 1 rfl (D_X12_ownersIn_0.at 16 rfl) ?_
  refine J_iload 30 rfl 4 4 rfl (D_X12_ownersIn_0.at 17 rfl) ?_
  refine J_callV (d' := 1) (K1 := fun z h0 => rok (some .int) z → JG w true m_X12_ownersIn 2 NT NT 33 [(0, vR 68), (1, vI v1), (2, vI v2), (3, vI v3), (4, vI v4)] [vI z, vI v3] h0 _) (sr := fun z => [vI z, vI v3]) (as := [vI v1, vI v4]) (st := [vI v3]) (o := 68) 33 rfl ok_X12_liesIn im_X12_liesIn se_X12_liesIn ml_12_468 isC_12 ob_68 (Ob.lt ob_68) rfl (by decide) ⟨Nat.le_refl _, Nat.le_refl _⟩ (Nat.le_of_ble_eq_true rfl) (D_X12_ownersIn_0.at 18 rfl) (fun _ => rfl) (CGm_of2 (by decide) (by decide) trivial (Nat.le_of_ble_eq_true rfl) ?_) (fun _ _ kq hb => kq hb)
  refine J_aload_n 1 rfl 0 0 rfl ⟨by decide, by decide⟩ (D_X12_liesIn_0.at 0 rfl) ?_
  refine J_getF (ov := 104) (dd := 1036) 4 rfl fl_12_121 rfl (by decide) rfl ob_68 (Ob.lt ob_68) (D_X12_liesIn_0.at 1 rfl) ?_
  refine J_bipush 6 rfl ⟨by decide, by decide⟩ (D_X12_liesIn_0.at 2 rfl) ?_
  refine J_bipush 8 rfl ⟨by decide, by decide⟩ (D_X12_liesIn_0.at 3 rfl) ?_
  refine J_iload_n 9 rfl 1 1 rfl (D_X12_liesIn_0.at 4 rfl) ?_
  refine J_imul 10 rfl (D_X12_liesIn_0.at 5 rfl) ?_
  refine J_iadd 11 rfl (D_X12_liesIn_0.at 6 rfl) ?_
  refine J_iload_n 12 rfl 2 2 rfl (D_X12_liesIn_0.at 7 rfl) ?_
  refine J_iadd 13 rfl (D_X12_liesIn_0.at 8 rfl) ?_
  obtain ⟨s6, T⟩ := T
  refine J_iald 14 rfl ar_104 (Ar.lt ar_104) s6 (D_X12_liesIn_0.at 9 rfl) ?_
  refine J_iret rfl (D_X12_liesIn_0.at 10 rfl) (fun _ => ?_)
  refine J_iadd 34 rfl (D_X12_ownersIn_0.at 19 rfl) ?_
  refine J_istore_n (lv' := [(3, vI (v3 + (h 104 ((29 + (10 * v1)) + v4)))), (0, vR 68), (1, vI v1), (2, vI v2), (4, vI v4)]) 35 rfl 3 (by decide) rfl (D_X12_ownersIn_0.at 20 rfl) ?_
  refine J_iinc (v := (v4 + 1)) (lv' := [(4, vI (v4 + 1)), (3, vI (v3 + (h 104 ((29 + (10 * v1)) + v4)))), (0, vR 68), (1, vI v1), (2, vI v2)]) 38 rfl 4 4 1 rfl rfl (by decide) rfl (D_X12_ownersIn_0.at 21 rfl) ?_
  refine J_goto 5 (D_X12_ownersIn_0.at 22 rfl) (by decide) ?_
  exact J_sub (lv' := [(0, vR 68), (1, vI v1), (2, vI v2), (3, vI (v3 + (h 104 ((29 + (10 * v1)) + v4)))), (4, vI (v4 + 1))]) [2, 3, 4, 1, 0] rfl T
theorem c_X12_isOwner {w : Wd} {a1 : Int} {h : Hp} {K : Int → Hp → Prop} (T : (inR a1) ∧ ((inR ((h 93 3) - 1)) ∧ ((inL a1) ∧ (((a1 < 0) → (K 0 h)) ∧ (¬ (a1 < 0) → ((inL a1) ∧ ((inL ((h 93 3) - 1)) ∧ (((a1 > ((h 93 3) - 1)) → (K 0 h)) ∧ (¬ (a1 > ((h 93 3) - 1)) → (K 1 h)))))))))) : C_X12_isOwner w a1 h K := by
  refine CGm_of2 (by decide) (by decide) trivial (Nat.le_of_ble_eq_true rfl) ?_
  refine J_iload_n 1 rfl 1 1 rfl (D_X12_isOwner_0.at 0 rfl) ?_
  obtain ⟨s1, T⟩ := T
  refine J_i2l 2 rfl s1 (D_X12_isOwner_0.at 1 rfl) ?_
  refine J_lconst (z := 0) 3 rfl rfl (D_X12_isOwner_0.at 2 rfl) ?_
  refine J_aload_n 4 rfl 0 0 rfl ⟨by decide, by decide⟩ (D_X12_isOwner_0.at 3 rfl) ?_
  refine J_callV (d' := 1) (K1 := fun z h0 => rok (some .int) z → JG w true m_X12_isOwner 2 NT NT 7 [(0, vR 68), (1, vI a1)] [vI z, vL 0, vL a1] h0 _) (sr := fun z => [vI z, vL 0, vL a1]) (as := []) (st := [vL 0, vL a1]) (o := 68) 7 rfl ok_X12_ownerMany im_X12_ownerMany se_X12_ownerMany ml_12_422 isC_12 ob_68 (Ob.lt ob_68) rfl (by decide) ⟨Nat.le_refl _, Nat.le_refl _⟩ (Nat.le_of_ble_eq_true rfl) (D_X12_isOwner_0.at 4 rfl) (fun _ => rfl) (CGm_of2 (by decide) (by decide) trivial (Nat.le_of_ble_eq_true rfl) ?_) (fun _ _ kq hb => kq hb)
  refine J_aload_n 1 rfl 0 0 rfl ⟨by decide, by decide⟩ (D_X12_ownerMany_0.at 0 rfl) ?_
  refine J_getF (ov := 93) (dd := 1025) 4 rfl fl_12_87 rfl (by decide) rfl ob_68 (Ob.lt ob_68) (D_X12_ownerMany_0.at 1 rfl) ?_
  refine J_iconst 5 rfl (D_X12_ownerMany_0.at 2 rfl) ?_
  refine J_iald 6 rfl ar_93 (Ar.lt ar_93) ⟨by decide, by decide⟩ (D_X12_ownerMany_0.at 3 rfl) ?_
  refine J_iret rfl (D_X12_ownerMany_0.at 4 rfl) (fun _ => ?_)
  refine J_iconst 8 rfl (D_X12_isOwner_0.at 5 rfl) ?_
  refine J_isub 9 rfl (D_X12_isOwner_0.at 6 rfl) ?_
  obtain ⟨s2, T⟩ := T
  refine J_i2l 10 rfl s2 (D_X12_isOwner_0.at 7 rfl) ?_
  refine J_callS (d' := 1) (K1 := fun z h0 => rok (some .boolean) z → JG w true m_X12_isOwner 2 NT NT 13 [(0, vR 68), (1, vI a1)] [vI z] h0 _) (sr := fun z => [vI z]) (as := [vL a1, vL 0, vL ((h 93 3) - 1)]) (st := []) 13 rfl ok_X12_isIn sm_X12_isIn ml_12_267 rfl (by decide) ⟨Nat.le_refl _, Nat.le_refl _⟩ (Nat.le_of_ble_eq_true rfl) (D_X12_isOwner_0.at 8 rfl) (fun _ => rfl) (CGm_of2 (by decide) (by decide) trivial (Nat.le_of_ble_eq_true rfl) ?_) (fun _ _ kq hb => kq hb)
  refine J_lload_n 1 rfl 0 0 rfl (D_X12_isIn_0.at 0 rfl) ?_
  refine J_lload_n 2 rfl 2 1 rfl (D_X12_isIn_0.at 1 rfl) ?_
  obtain ⟨s3, T⟩ := T
  refine J_lcmp_lt 6 rfl 17 s3 ⟨by decide, by decide⟩ (D_X12_isIn_0.at 2 rfl) (D_X12_isIn_0.at 3 rfl) (by decide) (fun c7 => ?_) (fun c7 => ?_)
  · replace T := T.1 c7
    refine J_iconst 18 rfl (D_X12_isIn_0.at 10 rfl) ?_
    refine J_zret rfl (Or.inl rfl) (D_X12_isIn_0.at 11 rfl) (fun _ => ?_)
    exact J_zret rfl (Or.inl rfl) (D_X12_isOwner_0.at 9 rfl) T
  replace T := T.2 c7
  refine J_lload_n 7 rfl 0 0 rfl (D_X12_isIn_0.at 4 rfl) ?_
  refine J_lload 9 rfl 4 2 rfl (D_X12_isIn_0.at 5 rfl) ?_
  obtain ⟨s4, T⟩ := T
  obtain ⟨s5, T⟩ := T
  refine J_lcmp_gt 13 rfl 17 s4 s5 (D_X12_isIn_0.at 6 rfl) (D_X12_isIn_0.at 7 rfl) (by decide) (fun c6 => ?_) (fun c6 => ?_)
  · replace T := T.1 c6
    refine J_iconst 18 rfl (D_X12_isIn_0.at 10 rfl) ?_
    refine J_zret rfl (Or.inl rfl) (D_X12_isIn_0.at 11 rfl) (fun _ => ?_)
    exact J_zret rfl (Or.inl rfl) (D_X12_isOwner_0.at 9 rfl) T
  replace T := T.2 c6
  refine J_iconst 14 rfl (D_X12_isIn_0.at 8 rfl) ?_
  refine J_goto 18 (D_X12_isIn_0.at 9 rfl) (by decide) ?_
  refine J_zret rfl (Or.inr rfl) (D_X12_isIn_0.at 11 rfl) (fun _ => ?_)
  exact J_zret rfl (Or.inr rfl) (D_X12_isOwner_0.at 9 rfl) T
theorem c_X12_tintOf {w : Wd} {a1 a2 : Int} {h : Hp} {K : Int → Hp → Prop} (T : L_X12_tintOf_5 w a1 a2 0 0 h K) : C_X12_tintOf w a1 a2 h K := by
  refine CGm_of2 (by decide) (by decide) trivial (Nat.le_of_ble_eq_true rfl) ?_
  refine J_iconst 1 rfl (D_X12_tintOf_0.at 0 rfl) ?_
  refine J_istore_n (lv' := [(3, vI 0), (0, vR 68), (1, vI a1), (2, vI a2)]) 2 rfl 3 (by decide) rfl (D_X12_tintOf_0.at 1 rfl) ?_
  refine J_iconst 3 rfl (D_X12_tintOf_0.at 2 rfl) ?_
  refine J_istore (lv' := [(4, vI 0), (3, vI 0), (0, vR 68), (1, vI a1), (2, vI a2)]) 5 rfl 4 (by decide) rfl (D_X12_tintOf_0.at 3 rfl) ?_
  exact J_sub (lv' := [(0, vR 68), (1, vI a1), (2, vI a2), (3, vI 0), (4, vI 0)]) [2, 3, 4, 1, 0] rfl T
theorem l_X12_tintOf_5 {w : Wd} {v1 v2 v3 v4 : Int} {h : Hp} {K : Int → Hp → Prop} (T : (inR v4) ∧ ((inR (h 93 5)) ∧ (((v4 ≥ (h 93 5)) → (K v3 h)) ∧ (¬ (v4 ≥ (h 93 5)) → ((0 ≤ ((50 + (5 * v4)) + 1) ∧ ((50 + (5 * v4)) + 1) < 100) ∧ ((inR (h 96 ((50 + (5 * v4)) + 1))) ∧ ((inR v2) ∧ ((((h 96 ((50 + (5 * v4)) + 1)) ≠ v2) → (L_X12_tintOf_5 w v1 v2 v3 (v4 + 1) h K)) ∧ (¬ ((h 96 ((50 + (5 * v4)) + 1)) ≠ v2) → ((0 ≤ ((29 + (10 * v1)) + v4) ∧ ((29 + (10 * v1)) + v4) < 109) ∧ (L_X12_tintOf_5 w v1 v2 (v3 + (h 104 ((29 + (10 * v1)) + v4))) (v4 + 1) h K))))))))))) : L_X12_tintOf_5 w v1 v2 v3 v4 h K := by
  unfold L_X12_tintOf_5
  refine J_iload 7 rfl 4 4 rfl (D_X12_tintOf_0.at 4 rfl) ?_
  refine J_aload_n 8 rfl 0 0 rfl ⟨by decide, by decide⟩ (D_X12_tintOf_0.at 5 rfl) ?_
  refine J_callV (d' := 1) (K1 := fun z h0 => rok (some .int) z → JG w true m_X12_tintOf 2 NT NT 11 [(0, vR 68), (1, vI v1), (2, vI v2), (3, vI v3), (4, vI v4)] [vI z, vI v4] h0 _) (sr := fun z => [vI z, vI v4]) (as := []) (st := [vI v4]) (o := 68) 11 rfl ok_X12_bankMany im_X12_bankMany se_X12_bankMany ml_12_419 isC_12 ob_68 (Ob.lt ob_68) rfl (by decide) ⟨Nat.le_refl _, Nat.le_refl _⟩ (Nat.le_of_ble_eq_true rfl) (D_X12_tintOf_0.at 6 rfl) (fun _ => rfl) (CGm_of2 (by decide) (by decide) trivial (Nat.le_of_ble_eq_true rfl) ?_) (fun _ _ kq hb => kq hb)
  refine J_aload_n 1 rfl 0 0 rfl ⟨by decide, by decide⟩ (D_X12_bankMany_0.at 0 rfl) ?_
  refine J_getF (ov := 93) (dd := 1025) 4 rfl fl_12_87 rfl (by decide) rfl ob_68 (Ob.lt ob_68) (D_X12_bankMany_0.at 1 rfl) ?_
  refine J_iconst 5 rfl (D_X12_bankMany_0.at 2 rfl) ?_
  refine J_iald 6 rfl ar_93 (Ar.lt ar_93) ⟨by decide, by decide⟩ (D_X12_bankMany_0.at 3 rfl) ?_
  refine J_iret rfl (D_X12_bankMany_0.at 4 rfl) (fun _ => ?_)
  obtain ⟨s1, T⟩ := T
  obtain ⟨s2, T⟩ := T
  refine J_icmp_ge 14 rfl 41 s1 s2 (D_X12_tintOf_0.at 7 rfl) (by decide) (fun c8 => ?_) (fun c8 => ?_)
  · replace T := T.1 c8
    refine J_iload_n 42 rfl 3 3 rfl (D_X12_tintOf_0.at 23 rfl) ?_
    exact J_iret rfl (D_X12_tintOf_0.at 24 rfl) T
  replace T := T.2 c8
  refine J_aload_n 15 rfl 0 0 rfl ⟨by decide, by decide⟩ (D_X12_tintOf_0.at 8 rfl) ?_
  refine J_iload 17 rfl 4 4 rfl (D_X12_tintOf_0.at 9 rfl) ?_
  refine J_iconst 18 rfl (D_X12_tintOf_0.at 10 rfl) ?_
  refine J_callV (d' := 1) (K1 := fun z h0 => rok (some .int) z → JG w true m_X12_tintOf 2 NT NT 21 [(0, vR 68), (1, vI v1), (2, vI v2), (3, vI v3), (4, vI v4)] [vI z] h0 _) (sr := fun z => [vI z]) (as := [vI v4, vI 1]) (st := []) (o := 68) 21 rfl ok_X12_bankOf im_X12_bankOf se_X12_bankOf ml_12_430 isC_12 ob_68 (Ob.lt ob_68) rfl (by decide) ⟨Nat.le_refl _, Nat.le_refl _⟩ (Nat.le_of_ble_eq_true rfl) (D_X12_tintOf_0.at 11 rfl) (fun _ => rfl) (CGm_of2 (by decide) (by decide) trivial (Nat.le_of_ble_eq_true rfl) ?_) (fun _ _ kq hb => kq hb)
  refine J_aload_n 1 rfl 0 0 rfl ⟨by decide, by decide⟩ (D_X12_bankOf_0.at 0 rfl) ?_
  refine J_getF (ov := 96) (dd := 1028) 4 rfl fl_12_97 rfl (by decide) rfl ob_68 (Ob.lt ob_68) (D_X12_bankOf_0.at 1 rfl) ?_
  refine J_bipush 6 rfl ⟨by decide, by decide⟩ (D_X12_bankOf_0.at 2 rfl) ?_
  refine J_iconst 7 rfl (D_X12_bankOf_0.at 3 rfl) ?_
  refine J_iload_n 8 rfl 1 1 rfl (D_X12_bankOf_0.at 4 rfl) ?_
  refine J_imul 9 rfl (D_X12_bankOf_0.at 5 rfl) ?_
  refine J_iadd 10 rfl (D_X12_bankOf_0.at 6 rfl) ?_
  refine J_iload_n 11 rfl 2 2 rfl (D_X12_bankOf_0.at 7 rfl) ?_
  refine J_iadd 12 rfl (D_X12_bankOf_0.at 8 rfl) ?_
  obtain ⟨s3, T⟩ := T
  refine J_iald 13 rfl ar_96 (Ar.lt ar_96) s3 (D_X12_bankOf_0.at 9 rfl) ?_
  refine J_iret rfl (D_X12_bankOf_0.at 10 rfl) (fun _ => ?_)
  refine J_iload_n 22 rfl 2 2 rfl (D_X12_tintOf_0.at 12 rfl) ?_
  obtain ⟨s4, T⟩ := T
  obtain ⟨s5, T⟩ := T
  refine J_icmp_ne 25 rfl 35 s4 s5 (D_X12_tintOf_0.at 13 rfl) (by decide) (fun c7 => ?_) (fun c7 => ?_)
  · replace T := T.1 c7
    refine J_iinc (v := (v4 + 1)) (lv' := [(4, vI (v4 + 1)), (0, vR 68), (1, vI v1), (2, vI v2), (3, vI v3)]) 38 rfl 4 4 1 rfl rfl (by decide) rfl (D_X12_tintOf_0.at 21 rfl) ?_
    refine J_goto 5 (D_X12_tintOf_0.at 22 rfl) (by decide) ?_
    exact J_sub (lv' := [(0, vR 68), (1, vI v1), (2, vI v2), (3, vI v3), (4, vI (v4 + 1))]) [1, 2, 3, 4, 0] rfl T
  replace T := T.2 c7
  refine J_iload_n 26 rfl 3 3 rfl (D_X12_tintOf_0.at 14 rfl) ?_
  refine J_aload_n 27 rfl 0 0 rfl ⟨by decide, by decide⟩ (D_X12_tintOf_0.at 15 rfl) ?_
  refine J_iload_n 28 rfl 1 1 rfl (D_X12_tintOf_0.at 16 rfl) ?_
  refine J_iload 30 rfl 4 4 rfl (D_X12_tintOf_0.at 17 rfl) ?_
  refine J_callV (d' := 1) (K1 := fun z h0 => rok (some .int) z → JG w true m_X12_tintOf 2 NT NT 33 [(0, vR 68), (1, vI v1), (2, vI v2), (3, vI v3), (4, vI v4)] [vI z, vI v3] h0 _) (sr := fun z => [vI z, vI v3]) (as := [vI v1, vI v4]) (st := [vI v3]) (o := 68) 33 rfl ok_X12_liesIn im_X12_liesIn se_X12_liesIn ml_12_468 isC_12 ob_68 (Ob.lt ob_68) rfl (by decide) ⟨Nat.le_refl _, Nat.le_refl _⟩ (Nat.le_of_ble_eq_true rfl) (D_X12_tintOf_0.at 18 rfl) (fun _ => rfl) (CGm_of2 (by decide) (by decide) trivial (Nat.le_of_ble_eq_true rfl) ?_) (fun _ _ kq hb => kq hb)
  refine J_aload_n 1 rfl 0 0 rfl ⟨by decide, by decide⟩ (D_X12_liesIn_0.at 0 rfl) ?_
  refine J_getF (ov := 104) (dd := 1036) 4 rfl fl_12_121 rfl (by decide) rfl ob_68 (Ob.lt ob_68) (D_X12_liesIn_0.at 1 rfl) ?_
  refine J_bipush 6 rfl ⟨by decide, by decide⟩ (D_X12_liesIn_0.at 2 rfl) ?_
  refine J_bipush 8 rfl ⟨by decide, by decide⟩ (D_X12_liesIn_0.at 3 rfl) ?_
  refine J_iload_n 9 rfl 1 1 rfl (D_X12_liesIn_0.at 4 rfl) ?_
  refine J_imul 10 rfl (D_X12_liesIn_0.at 5 rfl) ?_
  refine J_iadd 11 rfl (D_X12_liesIn_0.at 6 rfl) ?_
  refine J_iload_n 12 rfl 2 2 rfl (D_X12_liesIn_0.at 7 rfl) ?_
  refine J_iadd 13 rfl (D_X12_liesIn_0.at 8 rfl) ?_
  obtain ⟨s6, T⟩ := T
  refine J_iald 14 rfl ar_104 (Ar.lt ar_104) s6 (D_X12_liesIn_0.at 9 rfl) ?_
  refine J_iret rfl (D_X12_liesIn_0.at 10 rfl) (fun _ => ?_)
  refine J_iadd 34 rfl (D_X12_tintOf_0.at 19 rfl) ?_
  refine J_istore_n (lv' := [(3, vI (v3 + (h 104 ((29 + (10 * v1)) + v4)))), (0, vR 68), (1, vI v1), (2, vI v2), (4, vI v4)]) 35 rfl 3 (by decide) rfl (D_X12_tintOf_0.at 20 rfl) ?_
  refine J_iinc (v := (v4 + 1)) (lv' := [(4, vI (v4 + 1)), (3, vI (v3 + (h 104 ((29 + (10 * v1)) + v4)))), (0, vR 68), (1, vI v1), (2, vI v2)]) 38 rfl 4 4 1 rfl rfl (by decide) rfl (D_X12_tintOf_0.at 21 rfl) ?_
  refine J_goto 5 (D_X12_tintOf_0.at 22 rfl) (by decide) ?_
  exact J_sub (lv' := [(0, vR 68), (1, vI v1), (2, vI v2), (3, vI (v3 + (h 104 ((29 + (10 * v1)) + v4)))), (4, vI (v4 + 1))]) [2, 3, 4, 1, 0] rfl T
theorem c_X12_isLevel {w : Wd} {a1 : Int} {h : Hp} {K : Int → Hp → Prop} (T : (inR a1) ∧ ((inL a1) ∧ (((a1 < 0) → (K 0 h)) ∧ (¬ (a1 < 0) → ((inL a1) ∧ (((a1 > 9) → (K 0 h)) ∧ (¬ (a1 > 9) → (K 1 h)))))))) : C_X12_isLevel w a1 h K := by
  refine CGm_of2 (by decide) (by decide) trivial (Nat.le_of_ble_eq_true rfl) ?_
  refine J_iload_n 1 rfl 0 0 rfl (D_X12_isLevel_0.at 0 rfl) ?_
  obtain ⟨s1, T⟩ := T
  refine J_i2l 2 rfl s1 (D_X12_isLevel_0.at 1 rfl) ?_
  refine J_lconst (z := 0) 3 rfl rfl (D_X12_isLevel_0.at 2 rfl) ?_
  refine J_ldc2 6 rfl ko_12_425 (D_X12_isLevel_0.at 3 rfl) ?_
  refine J_callS (d' := 1) (K1 := fun z h0 => rok (some .boolean) z → JG w true m_X12_isLevel 2 NT NT 9 [(0, vI a1)] [vI z] h0 _) (sr := fun z => [vI z]) (as := [vL a1, vL 0, vL 9]) (st := []) 9 rfl ok_X12_isIn sm_X12_isIn ml_12_267 rfl (by decide) ⟨Nat.le_refl _, Nat.le_refl _⟩ (Nat.le_of_ble_eq_true rfl) (D_X12_isLevel_0.at 4 rfl) (fun _ => rfl) (CGm_of2 (by decide) (by decide) trivial (Nat.le_of_ble_eq_true rfl) ?_) (fun _ _ kq hb => kq hb)
  refine J_lload_n 1 rfl 0 0 rfl (D_X12_isIn_0.at 0 rfl) ?_
  refine J_lload_n 2 rfl 2 1 rfl (D_X12_isIn_0.at 1 rfl) ?_
  obtain ⟨s2, T⟩ := T
  refine J_lcmp_lt 6 rfl 17 s2 ⟨by decide, by decide⟩ (D_X12_isIn_0.at 2 rfl) (D_X12_isIn_0.at 3 rfl) (by decide) (fun c5 => ?_) (fun c5 => ?_)
  · replace T := T.1 c5
    refine J_iconst 18 rfl (D_X12_isIn_0.at 10 rfl) ?_
    refine J_zret rfl (Or.inl rfl) (D_X12_isIn_0.at 11 rfl) (fun _ => ?_)
    exact J_zret rfl (Or.inl rfl) (D_X12_isLevel_0.at 5 rfl) T
  replace T := T.2 c5
  refine J_lload_n 7 rfl 0 0 rfl (D_X12_isIn_0.at 4 rfl) ?_
  refine J_lload 9 rfl 4 2 rfl (D_X12_isIn_0.at 5 rfl) ?_
  obtain ⟨s3, T⟩ := T
  refine J_lcmp_gt 13 rfl 17 s3 ⟨by decide, by decide⟩ (D_X12_isIn_0.at 6 rfl) (D_X12_isIn_0.at 7 rfl) (by decide) (fun c4 => ?_) (fun c4 => ?_)
  · replace T := T.1 c4
    refine J_iconst 18 rfl (D_X12_isIn_0.at 10 rfl) ?_
    refine J_zret rfl (Or.inl rfl) (D_X12_isIn_0.at 11 rfl) (fun _ => ?_)
    exact J_zret rfl (Or.inl rfl) (D_X12_isLevel_0.at 5 rfl) T
  replace T := T.2 c4
  refine J_iconst 14 rfl (D_X12_isIn_0.at 8 rfl) ?_
  refine J_goto 18 (D_X12_isIn_0.at 9 rfl) (by decide) ?_
  refine J_zret rfl (Or.inr rfl) (D_X12_isIn_0.at 11 rfl) (fun _ => ?_)
  exact J_zret rfl (Or.inr rfl) (D_X12_isLevel_0.at 5 rfl) T
theorem c_X12_asksOf {w : Wd} {a1 a2 a3 a4 : Int} {h : Hp} {K : Int → Hp → Prop} (T : ∀ h1 : Hp, h1 = hu h 103 0 a3 → (0 ≤ (8 + a2) ∧ (8 + a2) < 16) ∧ ((0 ≤ a2 ∧ a2 < 8) ∧ ((inR ((a3 + (h1 95 (8 + a2))) - (3 * (h1 105 a2)))) ∧ (((((a3 + (h1 95 (8 + a2))) - (3 * (h1 105 a2))) ≥ 0) → (∀ h6 : Hp, h6 = hu h1 103 1 ((a3 + (h1 95 (8 + a2))) - (3 * (h1 105 a2))) → (0 ≤ ((50 + (5 * a1)) + 4) ∧ ((50 + (5 * a1)) + 4) < 100) ∧ (∀ h9 : Hp, h9 = hu h6 103 2 (h6 96 ((50 + (5 * a1)) + 4)) → ∀ h11 : Hp, h11 = hu h9 103 3 a4 → (0 ≤ a2 ∧ a2 < 8) ∧ (∀ h14 : Hp, h14 = hu h11 103 4 (h11 105 a2) → ∀ h16 : Hp, h16 = hu h14 103 5 (h14 104 0) → ∀ h18 : Hp, h18 = hu h16 103 6 a2 → K 0 h18)))) ∧ (¬ (((a3 + (h1 95 (8 + a2))) - (3 * (h1 105 a2))) ≥ 0) → (∀ h20 : Hp, h20 = hu h1 103 1 0 → (0 ≤ ((50 + (5 * a1)) + 4) ∧ ((50 + (5 * a1)) + 4) < 100) ∧ (∀ h23 : Hp, h23 = hu h20 103 2 (h20 96 ((50 + (5 * a1)) + 4)) → ∀ h25 : Hp, h25 = hu h23 103 3 a4 → (0 ≤ a2 ∧ a2 < 8) ∧ (∀ h28 : Hp, h28 = hu h25 103 4 (h25 105 a2) → ∀ h30 : Hp, h30 = hu h28 103 5 (h28 104 0) → ∀ h32 : Hp, h32 = hu h30 103 6 a2 → K 0 h32)))))))) : C_X12_asksOf w a1 a2 a3 a4 h K := by
  refine CGm_of2 (by decide) (by decide) trivial (Nat.le_of_ble_eq_true rfl) ?_
  refine J_aload_n 1 rfl 0 0 rfl ⟨by decide, by decide⟩ (D_X12_asksOf_0.at 0 rfl) ?_
  refine J_getF (ov := 103) (dd := 1035) 4 rfl fl_12_118 rfl (by decide) rfl ob_68 (Ob.lt ob_68) (D_X12_asksOf_0.at 1 rfl) ?_
  refine J_iconst 5 rfl (D_X12_asksOf_0.at 2 rfl) ?_
  refine J_iload_n 6 rfl 3 3 rfl (D_X12_asksOf_0.at 3 rfl) ?_
  refine J_iastH 7 rfl ar_103 (Ar.lt ar_103) ⟨by decide, by decide⟩ trivial (D_X12_asksOf_0.at 4 rfl) (fun h1 e2 => ?_)
  replace T := T h1 e2
  refine J_aload_n 8 rfl 0 0 rfl ⟨by decide, by decide⟩ (D_X12_asksOf_0.at 5 rfl) ?_
  refine J_getF (ov := 103) (dd := 1035) 11 rfl fl_12_118 rfl (by decide) rfl ob_68 (Ob.lt ob_68) (D_X12_asksOf_0.at 6 rfl) ?_
  refine J_iconst 12 rfl (D_X12_asksOf_0.at 7 rfl) ?_
  refine J_aload_n 13 rfl 0 0 rfl ⟨by decide, by decide⟩ (D_X12_asksOf_0.at 8 rfl) ?_
  refine J_iload_n 14 rfl 2 2 rfl (D_X12_asksOf_0.at 9 rfl) ?_
  refine J_iload_n 15 rfl 3 3 rfl (D_X12_asksOf_0.at 10 rfl) ?_
  refine J_callV (d' := 1) (K1 := fun z h0 => rok (some .int) z → JG w true m_X12_asksOf 2 NT NT 18 [(0, vR 68), (1, vI a1), (2, vI a2), (3, vI a3), (4, vI a4)] [vI z, vI 1, vR 103] h0 _) (sr := fun z => [vI z, vI 1, vR 103]) (as := [vI a2, vI a3]) (st := [vI 1, vR 103]) (o := 68) 18 rfl ok_X12_flowOf im_X12_flowOf se_X12_flowOf ml_12_427 isC_12 ob_68 (Ob.lt ob_68) rfl (by decide) ⟨Nat.le_refl _, Nat.le_refl _⟩ (Nat.le_of_ble_eq_true rfl) (D_X12_asksOf_0.at 11 rfl) (fun _ => rfl) (CGm_of2 (by decide) (by decide) trivial (Nat.le_of_ble_eq_true rfl) ?_) (fun _ _ kq hb => kq hb)
  refine J_iload_n 1 rfl 2 2 rfl (D_X12_flowOf_0.at 0 rfl) ?_
  refine J_aload_n 2 rfl 0 0 rfl ⟨by decide, by decide⟩ (D_X12_flowOf_0.at 1 rfl) ?_
  refine J_getF (ov := 95) (dd := 1027) 5 rfl fl_12_94 rfl (by decide) rfl ob_68 (Ob.lt ob_68) (D_X12_flowOf_0.at 2 rfl) ?_
  refine J_bipush 7 rfl ⟨by decide, by decide⟩ (D_X12_flowOf_0.at 3 rfl) ?_
  refine J_iload_n 8 rfl 1 1 rfl (D_X12_flowOf_0.at 4 rfl) ?_
  refine J_iadd 9 rfl (D_X12_flowOf_0.at 5 rfl) ?_
  obtain ⟨s3, T⟩ := T
  refine J_iald 10 rfl ar_95 (Ar.lt ar_95) s3 (D_X12_flowOf_0.at 6 rfl) ?_
  refine J_iadd 11 rfl (D_X12_flowOf_0.at 7 rfl) ?_
  refine J_iconst 12 rfl (D_X12_flowOf_0.at 8 rfl) ?_
  refine J_aload_n 13 rfl 0 0 rfl ⟨by decide, by decide⟩ (D_X12_flowOf_0.at 9 rfl) ?_
  refine J_getF (ov := 105) (dd := 1037) 16 rfl fl_12_124 rfl (by decide) rfl ob_68 (Ob.lt ob_68) (D_X12_flowOf_0.at 10 rfl) ?_
  refine J_iload_n 17 rfl 1 1 rfl (D_X12_flowOf_0.at 11 rfl) ?_
  obtain ⟨s4, T⟩ := T
  refine J_iald 18 rfl ar_105 (Ar.lt ar_105) s4 (D_X12_flowOf_0.at 12 rfl) ?_
  refine J_imul 19 rfl (D_X12_flowOf_0.at 13 rfl) ?_
  refine J_isub 20 rfl (D_X12_flowOf_0.at 14 rfl) ?_
  refine J_istore_n (lv' := [(3, vI ((a3 + (h1 95 (8 + a2))) - (3 * (h1 105 a2)))), (0, vR 68), (1, vI a2), (2, vI a3)]) 21 rfl 3 (by decide) rfl (D_X12_flowOf_0.at 15 rfl) ?_
  refine J_iload_n 22 rfl 3 0 rfl (D_X12_flowOf_0.at 16 rfl) ?_
  obtain ⟨s5, T⟩ := T
  refine J_if_ge 25 rfl 29 s5 (D_X12_flowOf_0.at 17 rfl) (by decide) (fun c34 => ?_) (fun c34 => ?_)
  · replace T := T.1 c34
    refine J_iload_n 30 rfl 3 0 rfl (D_X12_flowOf_0.at 20 rfl) ?_
    refine J_iret rfl (D_X12_flowOf_0.at 21 rfl) (fun _ => ?_)
    refine J_iastH 19 rfl ar_103 (Ar.lt ar_103) ⟨by decide, by decide⟩ trivial (D_X12_asksOf_0.at 12 rfl) (fun h6 e7 => ?_)
    replace T := T h6 e7
    refine J_aload_n 20 rfl 0 0 rfl ⟨by decide, by decide⟩ (D_X12_asksOf_0.at 13 rfl) ?_
    refine J_getF (ov := 103) (dd := 1035) 23 rfl fl_12_118 rfl (by decide) rfl ob_68 (Ob.lt ob_68) (D_X12_asksOf_0.at 14 rfl) ?_
    refine J_iconst 24 rfl (D_X12_asksOf_0.at 15 rfl) ?_
    refine J_aload_n 25 rfl 0 0 rfl ⟨by decide, by decide⟩ (D_X12_asksOf_0.at 16 rfl) ?_
    refine J_iload_n 26 rfl 1 1 rfl (D_X12_asksOf_0.at 17 rfl) ?_
    refine J_iconst 27 rfl (D_X12_asksOf_0.at 18 rfl) ?_
    refine J_callV (d' := 1) (K1 := fun z h0 => rok (some .int) z → JG w true m_X12_asksOf 2 NT NT 30 [(0, vR 68), (1, vI a1), (2, vI a2), (3, vI a3), (4, vI a4)] [vI z, vI 2, vR 103] h0 _) (sr := fun z => [vI z, vI 2, vR 103]) (as := [vI a1, vI 4]) (st := [vI 2, vR 103]) (o := 68) 30 rfl ok_X12_bankOf im_X12_bankOf se_X12_bankOf ml_12_430 isC_12 ob_68 (Ob.lt ob_68) rfl (by decide) ⟨Nat.le_refl _, Nat.le_refl _⟩ (Nat.le_of_ble_eq_true rfl) (D_X12_asksOf_0.at 19 rfl) (fun _ => rfl) (CGm_of2 (by decide) (by decide) trivial (Nat.le_of_ble_eq_true rfl) ?_) (fun _ _ kq hb => kq hb)
    refine J_aload_n 1 rfl 0 0 rfl ⟨by decide, by decide⟩ (D_X12_bankOf_0.at 0 rfl) ?_
    refine J_getF (ov := 96) (dd := 1028) 4 rfl fl_12_97 rfl (by decide) rfl ob_68 (Ob.lt ob_68) (D_X12_bankOf_0.at 1 rfl) ?_
    refine J_bipush 6 rfl ⟨by decide, by decide⟩ (D_X12_bankOf_0.at 2 rfl) ?_
    refine J_iconst 7 rfl (D_X12_bankOf_0.at 3 rfl) ?_
    refine J_iload_n 8 rfl 1 1 rfl (D_X12_bankOf_0.at 4 rfl) ?_
    refine J_imul 9 rfl (D_X12_bankOf_0.at 5 rfl) ?_
    refine J_iadd 10 rfl (D_X12_bankOf_0.at 6 rfl) ?_
    refine J_iload_n 11 rfl 2 2 rfl (D_X12_bankOf_0.at 7 rfl) ?_
    refine J_iadd 12 rfl (D_X12_bankOf_0.at 8 rfl) ?_
    obtain ⟨s8, T⟩ := T
    refine J_iald 13 rfl ar_96 (Ar.lt ar_96) s8 (D_X12_bankOf_0.at 9 rfl) ?_
    refine J_iret rfl (D_X12_bankOf_0.at 10 rfl) (fun _ => ?_)
    refine J_iastH 31 rfl ar_103 (Ar.lt ar_103) ⟨by decide, by decide⟩ trivial (D_X12_asksOf_0.at 20 rfl) (fun h9 e10 => ?_)
    replace T := T h9 e10
    refine J_aload_n 32 rfl 0 0 rfl ⟨by decide, by decide⟩ (D_X12_asksOf_0.at 21 rfl) ?_
    refine J_getF (ov := 103) (dd := 1035) 35 rfl fl_12_118 rfl (by decide) rfl ob_68 (Ob.lt ob_68) (D_X12_asksOf_0.at 22 rfl) ?_
    refine J_iconst 36 rfl (D_X12_asksOf_0.at 23 rfl) ?_
    refine J_iload 38 rfl 4 4 rfl (D_X12_asksOf_0.at 24 rfl) ?_
    refine J_iastH 39 rfl ar_103 (Ar.lt ar_103) ⟨by decide, by decide⟩ trivial (D_X12_asksOf_0.at 25 rfl) (fun h11 e12 => ?_)
    replace T := T h11 e12
    refine J_aload_n 40 rfl 0 0 rfl ⟨by decide, by decide⟩ (D_X12_asksOf_0.at 26 rfl) ?_
    refine J_getF (ov := 103) (dd := 1035) 43 rfl fl_12_118 rfl (by decide) rfl ob_68 (Ob.lt ob_68) (D_X12_asksOf_0.at 27 rfl) ?_
    refine J_iconst 44 rfl (D_X12_asksOf_0.at 28 rfl) ?_
    refine J_aload_n 45 rfl 0 0 rfl ⟨by decide, by decide⟩ (D_X12_asksOf_0.at 29 rfl) ?_
    refine J_getF (ov := 105) (dd := 1037) 48 rfl fl_12_124 rfl (by decide) rfl ob_68 (Ob.lt ob_68) (D_X12_asksOf_0.at 30 rfl) ?_
    refine J_iload_n 49 rfl 2 2 rfl (D_X12_asksOf_0.at 31 rfl) ?_
    obtain ⟨s13, T⟩ := T
    refine J_iald 50 rfl ar_105 (Ar.lt ar_105) s13 (D_X12_asksOf_0.at 32 rfl) ?_
    refine J_iastH 51 rfl ar_103 (Ar.lt ar_103) ⟨by decide, by decide⟩ trivial (D_X12_asksOf_0.at 33 rfl) (fun h14 e15 => ?_)
    replace T := T h14 e15
    refine J_aload_n 52 rfl 0 0 rfl ⟨by decide, by decide⟩ (D_X12_asksOf_0.at 34 rfl) ?_
    refine J_getF (ov := 103) (dd := 1035) 55 rfl fl_12_118 rfl (by decide) rfl ob_68 (Ob.lt ob_68) (D_X12_asksOf_0.at 35 rfl) ?_
    refine J_iconst 56 rfl (D_X12_asksOf_0.at 36 rfl) ?_
    refine J_aload_n 57 rfl 0 0 rfl ⟨by decide, by decide⟩ (D_X12_asksOf_0.at 37 rfl) ?_
    refine J_getF (ov := 104) (dd := 1036) 60 rfl fl_12_121 rfl (by decide) rfl ob_68 (Ob.lt ob_68) (D_X12_asksOf_0.at 38 rfl) ?_
    refine J_iconst 61 rfl (D_X12_asksOf_0.at 39 rfl) ?_
    refine J_iald 62 rfl ar_104 (Ar.lt ar_104) ⟨by decide, by decide⟩ (D_X12_asksOf_0.at 40 rfl) ?_
    refine J_iastH 63 rfl ar_103 (Ar.lt ar_103) ⟨by decide, by decide⟩ trivial (D_X12_asksOf_0.at 41 rfl) (fun h16 e17 => ?_)
    replace T := T h16 e17
    refine J_aload_n 64 rfl 0 0 rfl ⟨by decide, by decide⟩ (D_X12_asksOf_0.at 42 rfl) ?_
    refine J_getF (ov := 103) (dd := 1035) 67 rfl fl_12_118 rfl (by decide) rfl ob_68 (Ob.lt ob_68) (D_X12_asksOf_0.at 43 rfl) ?_
    refine J_bipush 69 rfl ⟨by decide, by decide⟩ (D_X12_asksOf_0.at 44 rfl) ?_
    refine J_iload_n 70 rfl 2 2 rfl (D_X12_asksOf_0.at 45 rfl) ?_
    refine J_iastH 71 rfl ar_103 (Ar.lt ar_103) ⟨by decide, by decide⟩ trivial (D_X12_asksOf_0.at 46 rfl) (fun h18 e19 => ?_)
    replace T := T h18 e19
    exact J_vret rfl (D_X12_asksOf_0.at 47 rfl) T
  replace T := T.2 c34
  refine J_iconst 26 rfl (D_X12_flowOf_0.at 18 rfl) ?_
  refine J_goto 30 (D_X12_flowOf_0.at 19 rfl) (by decide) ?_
  refine J_iret rfl (D_X12_flowOf_0.at 21 rfl) (fun _ => ?_)
  refine J_iastH 19 rfl ar_103 (Ar.lt ar_103) ⟨by decide, by decide⟩ trivial (D_X12_asksOf_0.at 12 rfl) (fun h20 e21 => ?_)
  replace T := T h20 e21
  refine J_aload_n 20 rfl 0 0 rfl ⟨by decide, by decide⟩ (D_X12_asksOf_0.at 13 rfl) ?_
  refine J_getF (ov := 103) (dd := 1035) 23 rfl fl_12_118 rfl (by decide) rfl ob_68 (Ob.lt ob_68) (D_X12_asksOf_0.at 14 rfl) ?_
  refine J_iconst 24 rfl (D_X12_asksOf_0.at 15 rfl) ?_
  refine J_aload_n 25 rfl 0 0 rfl ⟨by decide, by decide⟩ (D_X12_asksOf_0.at 16 rfl) ?_
  refine J_iload_n 26 rfl 1 1 rfl (D_X12_asksOf_0.at 17 rfl) ?_
  refine J_iconst 27 rfl (D_X12_asksOf_0.at 18 rfl) ?_
  refine J_callV (d' := 1) (K1 := fun z h0 => rok (some .int) z → JG w true m_X12_asksOf 2 NT NT 30 [(0, vR 68), (1, vI a1), (2, vI a2), (3, vI a3), (4, vI a4)] [vI z, vI 2, vR 103] h0 _) (sr := fun z => [vI z, vI 2, vR 103]) (as := [vI a1, vI 4]) (st := [vI 2, vR 103]) (o := 68) 30 rfl ok_X12_bankOf im_X12_bankOf se_X12_bankOf ml_12_430 isC_12 ob_68 (Ob.lt ob_68) rfl (by decide) ⟨Nat.le_refl _, Nat.le_refl _⟩ (Nat.le_of_ble_eq_true rfl) (D_X12_asksOf_0.at 19 rfl) (fun _ => rfl) (CGm_of2 (by decide) (by decide) trivial (Nat.le_of_ble_eq_true rfl) ?_) (fun _ _ kq hb => kq hb)
  refine J_aload_n 1 rfl 0 0 rfl ⟨by decide, by decide⟩ (D_X12_bankOf_0.at 0 rfl) ?_
  refine J_getF (ov := 96) (dd := 1028) 4 rfl fl_12_97 rfl (by decide) rfl ob_68 (Ob.lt ob_68) (D_X12_bankOf_0.at 1 rfl) ?_
  refine J_bipush 6 rfl ⟨by decide, by decide⟩ (D_X12_bankOf_0.at 2 rfl) ?_
  refine J_iconst 7 rfl (D_X12_bankOf_0.at 3 rfl) ?_
  refine J_iload_n 8 rfl 1 1 rfl (D_X12_bankOf_0.at 4 rfl) ?_
  refine J_imul 9 rfl (D_X12_bankOf_0.at 5 rfl) ?_
  refine J_iadd 10 rfl (D_X12_bankOf_0.at 6 rfl) ?_
  refine J_iload_n 11 rfl 2 2 rfl (D_X12_bankOf_0.at 7 rfl) ?_
  refine J_iadd 12 rfl (D_X12_bankOf_0.at 8 rfl) ?_
  obtain ⟨s22, T⟩ := T
  refine J_iald 13 rfl ar_96 (Ar.lt ar_96) s22 (D_X12_bankOf_0.at 9 rfl) ?_
  refine J_iret rfl (D_X12_bankOf_0.at 10 rfl) (fun _ => ?_)
  refine J_iastH 31 rfl ar_103 (Ar.lt ar_103) ⟨by decide, by decide⟩ trivial (D_X12_asksOf_0.at 20 rfl) (fun h23 e24 => ?_)
  replace T := T h23 e24
  refine J_aload_n 32 rfl 0 0 rfl ⟨by decide, by decide⟩ (D_X12_asksOf_0.at 21 rfl) ?_
  refine J_getF (ov := 103) (dd := 1035) 35 rfl fl_12_118 rfl (by decide) rfl ob_68 (Ob.lt ob_68) (D_X12_asksOf_0.at 22 rfl) ?_
  refine J_iconst 36 rfl (D_X12_asksOf_0.at 23 rfl) ?_
  refine J_iload 38 rfl 4 4 rfl (D_X12_asksOf_0.at 24 rfl) ?_
  refine J_iastH 39 rfl ar_103 (Ar.lt ar_103) ⟨by decide, by decide⟩ trivial (D_X12_asksOf_0.at 25 rfl) (fun h25 e26 => ?_)
  replace T := T h25 e26
  refine J_aload_n 40 rfl 0 0 rfl ⟨by decide, by decide⟩ (D_X12_asksOf_0.at 26 rfl) ?_
  refine J_getF (ov := 103) (dd := 1035) 43 rfl fl_12_118 rfl (by decide) rfl ob_68 (Ob.lt ob_68) (D_X12_asksOf_0.at 27 rfl) ?_
  refine J_iconst 44 rfl (D_X12_asksOf_0.at 28 rfl) ?_
  refine J_aload_n 45 rfl 0 0 rfl ⟨by decide, by decide⟩ (D_X12_asksOf_0.at 29 rfl) ?_
  refine J_getF (ov := 105) (dd := 1037) 48 rfl fl_12_124 rfl (by decide) rfl ob_68 (Ob.lt ob_68) (D_X12_asksOf_0.at 30 rfl) ?_
  refine J_iload_n 49 rfl 2 2 rfl (D_X12_asksOf_0.at 31 rfl) ?_
  obtain ⟨s27, T⟩ := T
  refine J_iald 50 rfl ar_105 (Ar.lt ar_105) s27 (D_X12_asksOf_0.at 32 rfl) ?_
  refine J_iastH 51 rfl ar_103 (Ar.lt ar_103) ⟨by decide, by decide⟩ trivial (D_X12_asksOf_0.at 33 rfl) (fun h28 e29 => ?_)
  replace T := T h28 e29
  refine J_aload_n 52 rfl 0 0 rfl ⟨by decide, by decide⟩ (D_X12_asksOf_0.at 34 rfl) ?_
  refine J_getF (ov := 103) (dd := 1035) 55 rfl fl_12_118 rfl (by decide) rfl ob_68 (Ob.lt ob_68) (D_X12_asksOf_0.at 35 rfl) ?_
  refine J_iconst 56 rfl (D_X12_asksOf_0.at 36 rfl) ?_
  refine J_aload_n 57 rfl 0 0 rfl ⟨by decide, by decide⟩ (D_X12_asksOf_0.at 37 rfl) ?_
  refine J_getF (ov := 104) (dd := 1036) 60 rfl fl_12_121 rfl (by decide) rfl ob_68 (Ob.lt ob_68) (D_X12_asksOf_0.at 38 rfl) ?_
  refine J_iconst 61 rfl (D_X12_asksOf_0.at 39 rfl) ?_
  refine J_iald 62 rfl ar_104 (Ar.lt ar_104) ⟨by decide, by decide⟩ (D_X12_asksOf_0.at 40 rfl) ?_
  refine J_iastH 63 rfl ar_103 (Ar.lt ar_103) ⟨by decide, by decide⟩ trivial (D_X12_asksOf_0.at 41 rfl) (fun h30 e31 => ?_)
  replace T := T h30 e31
  refine J_aload_n 64 rfl 0 0 rfl ⟨by decide, by decide⟩ (D_X12_asksOf_0.at 42 rfl) ?_
  refine J_getF (ov := 103) (dd := 1035) 67 rfl fl_12_118 rfl (by decide) rfl ob_68 (Ob.lt ob_68) (D_X12_asksOf_0.at 43 rfl) ?_
  refine J_bipush 69 rfl ⟨by decide, by decide⟩ (D_X12_asksOf_0.at 44 rfl) ?_
  refine J_iload_n 70 rfl 2 2 rfl (D_X12_asksOf_0.at 45 rfl) ?_
  refine J_iastH 71 rfl ar_103 (Ar.lt ar_103) ⟨by decide, by decide⟩ trivial (D_X12_asksOf_0.at 46 rfl) (fun h32 e33 => ?_)
  replace T := T h32 e33
  exact J_vret rfl (D_X12_asksOf_0.at 47 rfl) T
theorem c_X12_joins {w : Wd} {a1 : Int} {h : Hp} {K : Int → Hp → Prop} (T : (0 ≤ ((h 68 50) - 1) ∧ ((h 68 50) - 1) < 1700) ∧ ((0 ≤ ((h 68 50) - 2) ∧ ((h 68 50) - 2) < 1700) ∧ (∀ h3 : Hp, h3 = hu h 68 50 ((h 68 50) - 2) → (inR a1) ∧ ((a1 = 1 → C_X12_clip w ((h 102 ((h 68 50) - 2)) + (h 102 ((h 68 50) - 1))) h3 (fun r7 h8 => C_X12_puts w r7 h8 (fun _ h11 => K 0 h11))) ∧ (a1 = 2 → C_X12_clip w ((h 102 ((h 68 50) - 2)) - (h 102 ((h 68 50) - 1))) h3 (fun r13 h14 => C_X12_puts w r13 h14 (fun _ h17 => K 0 h17))) ∧ (a1 = 3 → C_X12_clip w ((h 102 ((h 68 50) - 2)) * (h 102 ((h 68 50) - 1))) h3 (fun r19 h20 => C_X12_puts w r19 h20 (fun _ h23 => K 0 h23))) ∧ (a1 = 4 → C_X12_floor w (h 102 ((h 68 50) - 2)) (h 102 ((h 68 50) - 1)) h3 (fun r25 h26 => C_X12_puts w r25 h26 (fun _ h29 => K 0 h29))) ∧ (a1 = 5 → (inL (h 102 ((h 68 50) - 2))) ∧ ((inL (h 102 ((h 68 50) - 1))) ∧ ((((h 102 ((h 68 50) - 2)) ≥ (h 102 ((h 68 50) - 1))) → (C_X12_puts w (h 102 ((h 68 50) - 1)) h3 (fun _ h34 => K 0 h34))) ∧ (¬ ((h 102 ((h 68 50) - 2)) ≥ (h 102 ((h 68 50) - 1))) → (C_X12_puts w (h 102 ((h 68 50) - 2)) h3 (fun _ h37 => K 0 h37)))))) ∧ ((a1 < 1 ∨ 5 < a1) → (inL (h 102 ((h 68 50) - 2))) ∧ ((inL (h 102 ((h 68 50) - 1))) ∧ ((((h 102 ((h 68 50) - 2)) ≤ (h 102 ((h 68 50) - 1))) → (C_X12_puts w (h 102 ((h 68 50) - 1)) h3 (fun _ h43 => K 0 h43))) ∧ (¬ ((h 102 ((h 68 50) - 2)) ≤ (h 102 ((h 68 50) - 1))) → (C_X12_puts w (h 102 ((h 68 50) - 2)) h3 (fun _ h46 => K 0 h46)))))))))) : C_X12_joins w a1 h K := by
  refine CGm_of2 (by decide) (by decide) trivial (Nat.le_of_ble_eq_true rfl) ?_
  refine J_aload_n 1 rfl 0 0 rfl ⟨by decide, by decide⟩ (D_X12_joins_0.at 0 rfl) ?_
  refine J_getF (ov := 102) (dd := 1034) 4 rfl fl_12_115 rfl (by decide) rfl ob_68 (Ob.lt ob_68) (D_X12_joins_0.at 1 rfl) ?_
  refine J_aload_n 5 rfl 0 0 rfl ⟨by decide, by decide⟩ (D_X12_joins_0.at 2 rfl) ?_
  refine J_getI (z := (h 68 50)) 8 rfl fl_12_397 rfl ob_68 (Ob.lt ob_68) (D_X12_joins_0.at 3 rfl) rfl ?_
  refine J_iconst 9 rfl (D_X12_joins_0.at 4 rfl) ?_
  refine J_isub 10 rfl (D_X12_joins_0.at 5 rfl) ?_
  obtain ⟨s1, T⟩ := T
  refine J_lald 11 rfl ar_102 (Ar.lt ar_102) s1 (D_X12_joins_0.at 6 rfl) ?_
  refine J_lstore_n (lv' := [(2, vL (h 102 ((h 68 50) - 1))), (0, vR 68), (1, vI a1)]) 12 rfl 2 (by decide) rfl (D_X12_joins_0.at 7 rfl) ?_
  refine J_aload_n 13 rfl 0 1 rfl ⟨by decide, by decide⟩ (D_X12_joins_0.at 8 rfl) ?_
  refine J_getF (ov := 102) (dd := 1034) 16 rfl fl_12_115 rfl (by decide) rfl ob_68 (Ob.lt ob_68) (D_X12_joins_0.at 9 rfl) ?_
  refine J_aload_n 17 rfl 0 1 rfl ⟨by decide, by decide⟩ (D_X12_joins_0.at 10 rfl) ?_
  refine J_getI (z := (h 68 50)) 20 rfl fl_12_397 rfl ob_68 (Ob.lt ob_68) (D_X12_joins_0.at 11 rfl) rfl ?_
  refine J_iconst 21 rfl (D_X12_joins_0.at 12 rfl) ?_
  refine J_isub 22 rfl (D_X12_joins_0.at 13 rfl) ?_
  obtain ⟨s2, T⟩ := T
  refine J_lald 23 rfl ar_102 (Ar.lt ar_102) s2 (D_X12_joins_0.at 14 rfl) ?_
  refine J_lstore (lv' := [(4, vL (h 102 ((h 68 50) - 2))), (2, vL (h 102 ((h 68 50) - 1))), (0, vR 68), (1, vI a1)]) 25 rfl 4 (by decide) rfl (D_X12_joins_0.at 15 rfl) ?_
  refine J_aload_n 26 rfl 0 2 rfl ⟨by decide, by decide⟩ (D_X12_joins_0.at 16 rfl) ?_
  refine J_dup 27 rfl rfl (D_X12_joins_0.at 17 rfl) ?_
  refine J_getI (z := (h 68 50)) 30 rfl fl_12_397 rfl ob_68 (Ob.lt ob_68) (D_X12_joins_0.at 18 rfl) rfl ?_
  refine J_iconst 31 rfl (D_X12_joins_0.at 19 rfl) ?_
  refine J_isub 32 rfl (D_X12_joins_0.at 20 rfl) ?_
  refine J_putI 35 rfl fl_12_397 rfl rfl ob_68 (Ob.lt ob_68) (D_X12_joins_0.at 21 rfl) (fun h3 e4 => ?_)
  replace T := T h3 e4
  refine J_iload_n 36 rfl 1 3 rfl (D_X12_joins_0.at 22 rfl) ?_
  obtain ⟨s5, T⟩ := T
  have tg : a1 = 1 ∨ a1 = 2 ∨ a1 = 3 ∨ a1 = 4 ∨ a1 = 5 ∨ (a1 < 1 ∨ 5 < a1) := by omega
  rcases tg with g6 | g6 | g6 | g6 | g6 | g6
  · replace T := T.1 g6
    refine J_tab 36 72 s5 (D_X12_joins_0.at 23 rfl) ⟨by omega, by omega⟩ (by rw [g6]; rfl) (by decide) ?_
    refine J_aload_n 73 rfl 0 2 rfl ⟨by decide, by decide⟩ (D_X12_joins_0.at 24 rfl) ?_
    refine J_lload 75 rfl 4 0 rfl (D_X12_joins_0.at 25 rfl) ?_
    refine J_lload_n 76 rfl 2 1 rfl (D_X12_joins_0.at 26 rfl) ?_
    refine J_ladd 77 rfl (D_X12_joins_0.at 27 rfl) ?_
    refine J_callS (d' := 1) (sr := fun z => [vL z, vR 68]) (as := [vL ((h 102 ((h 68 50) - 2)) + (h 102 ((h 68 50) - 1)))]) (st := [vR 68]) 80 rfl ok_X12_clip sm_X12_clip ml_12_400 rfl (by decide) ⟨Nat.le_refl _, Nat.le_refl _⟩ (Nat.le_of_ble_eq_true rfl) (D_X12_joins_0.at 28 rfl) (fun _ => rfl) T (fun r7 h8 T b9 => ?_)
    refine J_callV (d' := 1) (sr := fun z => []) (as := [vL r7]) (st := []) (o := 68) 83 rfl ok_X12_puts im_X12_puts se_X12_puts ml_12_404 isC_12 ob_68 (Ob.lt ob_68) rfl (by decide) ⟨Nat.le_refl _, Nat.le_refl _⟩ (Nat.le_of_ble_eq_true rfl) (D_X12_joins_0.at 29 rfl) (fun _ => rfl) T (fun r10 h11 T b12 => ?_)
    refine J_goto 164 (D_X12_joins_0.at 30 rfl) (by decide) ?_
    exact J_vret rfl (D_X12_joins_1.at 22 rfl) T
  · replace T := T.2.1 g6
    refine J_tab 50 86 s5 (D_X12_joins_0.at 23 rfl) ⟨by omega, by omega⟩ (by rw [g6]; rfl) (by decide) ?_
    refine J_aload_n 87 rfl 0 2 rfl ⟨by decide, by decide⟩ (D_X12_joins_0.at 31 rfl) ?_
    refine J_lload 89 rfl 4 0 rfl (D_X12_joins_0.at 32 rfl) ?_
    refine J_lload_n 90 rfl 2 1 rfl (D_X12_joins_0.at 33 rfl) ?_
    refine J_lsub 91 rfl (D_X12_joins_0.at 34 rfl) ?_
    refine J_callS (d' := 1) (sr := fun z => [vL z, vR 68]) (as := [vL ((h 102 ((h 68 50) - 2)) - (h 102 ((h 68 50) - 1)))]) (st := [vR 68]) 94 rfl ok_X12_clip sm_X12_clip ml_12_400 rfl (by decide) ⟨Nat.le_refl _, Nat.le_refl _⟩ (Nat.le_of_ble_eq_true rfl) (D_X12_joins_0.at 35 rfl) (fun _ => rfl) T (fun r13 h14 T b15 => ?_)
    refine J_callV (d' := 1) (sr := fun z => []) (as := [vL r13]) (st := []) (o := 68) 97 rfl ok_X12_puts im_X12_puts se_X12_puts ml_12_404 isC_12 ob_68 (Ob.lt ob_68) rfl (by decide) ⟨Nat.le_refl _, Nat.le_refl _⟩ (Nat.le_of_ble_eq_true rfl) (D_X12_joins_0.at 36 rfl) (fun _ => rfl) T (fun r16 h17 T b18 => ?_)
    refine J_goto 164 (D_X12_joins_0.at 37 rfl) (by decide) ?_
    exact J_vret rfl (D_X12_joins_1.at 22 rfl) T
  · replace T := T.2.2.1 g6
    refine J_tab 64 100 s5 (D_X12_joins_0.at 23 rfl) ⟨by omega, by omega⟩ (by rw [g6]; rfl) (by decide) ?_
    refine J_aload_n 101 rfl 0 2 rfl ⟨by decide, by decide⟩ (D_X12_joins_0.at 38 rfl) ?_
    refine J_lload 103 rfl 4 0 rfl (D_X12_joins_0.at 39 rfl) ?_
    refine J_lload_n 104 rfl 2 1 rfl (D_X12_joins_0.at 40 rfl) ?_
    refine J_lmul 105 rfl (D_X12_joins_0.at 41 rfl) ?_
    refine J_callS (d' := 1) (sr := fun z => [vL z, vR 68]) (as := [vL ((h 102 ((h 68 50) - 2)) * (h 102 ((h 68 50) - 1)))]) (st := [vR 68]) 108 rfl ok_X12_clip sm_X12_clip ml_12_400 rfl (by decide) ⟨Nat.le_refl _, Nat.le_refl _⟩ (Nat.le_of_ble_eq_true rfl) (D_X12_joins_0.at 42 rfl) (fun _ => rfl) T (fun r19 h20 T b21 => ?_)
    refine J_callV (d' := 1) (sr := fun z => []) (as := [vL r19]) (st := []) (o := 68) 111 rfl ok_X12_puts im_X12_puts se_X12_puts ml_12_404 isC_12 ob_68 (Ob.lt ob_68) rfl (by decide) ⟨Nat.le_refl _, Nat.le_refl _⟩ (Nat.le_of_ble_eq_true rfl) (D_X12_joins_0.at 43 rfl) (fun _ => rfl) T (fun r22 h23 T b24 => ?_)
    refine J_goto 164 (D_X12_joins_0.at 44 rfl) (by decide) ?_
    exact J_vret rfl (D_X12_joins_1.at 22 rfl) T
  · replace T := T.2.2.2.1 g6
    refine J_tab 78 114 s5 (D_X12_joins_0.at 23 rfl) ⟨by omega, by omega⟩ (by rw [g6]; rfl) (by decide) ?_
    refine J_aload_n 115 rfl 0 2 rfl ⟨by decide, by decide⟩ (D_X12_joins_0.at 45 rfl) ?_
    refine J_lload 117 rfl 4 0 rfl (D_X12_joins_0.at 46 rfl) ?_
    refine J_lload_n 118 rfl 2 1 rfl (D_X12_joins_0.at 47 rfl) ?_
    refine J_callS (d' := 1) (sr := fun z => [vL z, vR 68]) (as := [vL (h 102 ((h 68 50) - 2)), vL (h 102 ((h 68 50) - 1))]) (st := [vR 68]) 121 rfl ok_X12_floor sm_X12_floor ml_12_408 rfl (by decide) ⟨Nat.le_refl _, Nat.le_refl _⟩ (Nat.le_of_ble_eq_true rfl) (D_X12_joins_1.at 0 rfl) (fun _ => rfl) T (fun r25 h26 T b27 => ?_)
    refine J_callV (d' := 1) (sr := fun z => []) (as := [vL r25]) (st := []) (o := 68) 124 rfl ok_X12_puts im_X12_puts se_X12_puts ml_12_404 isC_12 ob_68 (Ob.lt ob_68) rfl (by decide) ⟨Nat.le_refl _, Nat.le_refl _⟩ (Nat.le_of_ble_eq_true rfl) (D_X12_joins_1.at 1 rfl) (fun _ => rfl) T (fun r28 h29 T b30 => ?_)
    refine J_goto 164 (D_X12_joins_1.at 2 rfl) (by decide) ?_
    exact J_vret rfl (D_X12_joins_1.at 22 rfl) T
  · replace T := T.2.2.2.2.1 g6
    refine J_tab 91 127 s5 (D_X12_joins_0.at 23 rfl) ⟨by omega, by omega⟩ (by rw [g6]; rfl) (by decide) ?_
    refine J_aload_n 128 rfl 0 2 rfl ⟨by decide, by decide⟩ (D_X12_joins_1.at 3 rfl) ?_
    refine J_lload 130 rfl 4 0 rfl (D_X12_joins_1.at 4 rfl) ?_
    refine J_lload_n 131 rfl 2 1 rfl (D_X12_joins_1.at 5 rfl) ?_
    obtain ⟨s31, T⟩ := T
    obtain ⟨s32, T⟩ := T
    refine J_lcmp_ge 135 rfl 140 s31 s32 (D_X12_joins_1.at 6 rfl) (D_X12_joins_1.at 7 rfl) (by decide) (fun c39 => ?_) (fun c39 => ?_)
    · replace T := T.1 c39
      refine J_lload_n 141 rfl 2 1 rfl (D_X12_joins_1.at 10 rfl) ?_
      refine J_callV (d' := 1) (sr := fun z => []) (as := [vL (h 102 ((h 68 50) - 1))]) (st := []) (o := 68) 144 rfl ok_X12_puts im_X12_puts se_X12_puts ml_12_404 isC_12 ob_68 (Ob.lt ob_68) rfl (by decide) ⟨Nat.le_refl _, Nat.le_refl _⟩ (Nat.le_of_ble_eq_true rfl) (D_X12_joins_1.at 11 rfl) (fun _ => rfl) T (fun r33 h34 T b35 => ?_)
      refine J_goto 164 (D_X12_joins_1.at 12 rfl) (by decide) ?_
      exact J_vret rfl (D_X12_joins_1.at 22 rfl) T
    replace T := T.2 c39
    refine J_lload 137 rfl 4 0 rfl (D_X12_joins_1.at 8 rfl) ?_
    refine J_goto 141 (D_X12_joins_1.at 9 rfl) (by decide) ?_
    refine J_callV (d' := 1) (sr := fun z => []) (as := [vL (h 102 ((h 68 50) - 2))]) (st := []) (o := 68) 144 rfl ok_X12_puts im_X12_puts se_X12_puts ml_12_404 isC_12 ob_68 (Ob.lt ob_68) rfl (by decide) ⟨Nat.le_refl _, Nat.le_refl _⟩ (Nat.le_of_ble_eq_true rfl) (D_X12_joins_1.at 11 rfl) (fun _ => rfl) T (fun r36 h37 T b38 => ?_)
    refine J_goto 164 (D_X12_joins_1.at 12 rfl) (by decide) ?_
    exact J_vret rfl (D_X12_joins_1.at 22 rfl) T
  · replace T := T.2.2.2.2.2 g6
    refine J_tabO 147 s5 (D_X12_joins_0.at 23 rfl) g6 (by decide) ?_
    refine J_aload_n 148 rfl 0 2 rfl ⟨by decide, by decide⟩ (D_X12_joins_1.at 13 rfl) ?_
    refine J_lload 150 rfl 4 0 rfl (D_X12_joins_1.at 14 rfl) ?_
    refine J_lload_n 151 rfl 2 1 rfl (D_X12_joins_1.at 15 rfl) ?_
    obtain ⟨s40, T⟩ := T
    obtain ⟨s41, T⟩ := T
    refine J_lcmp_le 155 rfl 160 s40 s41 (D_X12_joins_1.at 16 rfl) (D_X12_joins_1.at 17 rfl) (by decide) (fun c48 => ?_) (fun c48 => ?_)
    · replace T := T.1 c48
      refine J_lload_n 161 rfl 2 1 rfl (D_X12_joins_1.at 20 rfl) ?_
      refine J_callV (d' := 1) (sr := fun z => []) (as := [vL (h 102 ((h 68 50) - 1))]) (st := []) (o := 68) 164 rfl ok_X12_puts im_X12_puts se_X12_puts ml_12_404 isC_12 ob_68 (Ob.lt ob_68) rfl (by decide) ⟨Nat.le_refl _, Nat.le_refl _⟩ (Nat.le_of_ble_eq_true rfl) (D_X12_joins_1.at 21 rfl) (fun _ => rfl) T (fun r42 h43 T b44 => ?_)
      exact J_vret rfl (D_X12_joins_1.at 22 rfl) T
    replace T := T.2 c48
    refine J_lload 157 rfl 4 0 rfl (D_X12_joins_1.at 18 rfl) ?_
    refine J_goto 161 (D_X12_joins_1.at 19 rfl) (by decide) ?_
    refine J_callV (d' := 1) (sr := fun z => []) (as := [vL (h 102 ((h 68 50) - 2))]) (st := []) (o := 68) 164 rfl ok_X12_puts im_X12_puts se_X12_puts ml_12_404 isC_12 ob_68 (Ob.lt ob_68) rfl (by decide) ⟨Nat.le_refl _, Nat.le_refl _⟩ (Nat.le_of_ble_eq_true rfl) (D_X12_joins_1.at 21 rfl) (fun _ => rfl) T (fun r45 h46 T b47 => ?_)
    exact J_vret rfl (D_X12_joins_1.at 22 rfl) T
theorem c_X12_settledIn {w : Wd} {a1 : Int} {h : Hp} {K : Int → Hp → Prop} (T : L_X12_settledIn_4 w a1 0 0 h K) : C_X12_settledIn w a1 h K := by
  refine CGm_of2 (by decide) (by decide) trivial (Nat.le_of_ble_eq_true rfl) ?_
  refine J_iconst 1 rfl (D_X12_settledIn_0.at 0 rfl) ?_
  refine J_istore_n (lv' := [(2, vI 0), (0, vR 68), (1, vI a1)]) 2 rfl 2 (by decide) rfl (D_X12_settledIn_0.at 1 rfl) ?_
  refine J_iconst 3 rfl (D_X12_settledIn_0.at 2 rfl) ?_
  refine J_istore_n (lv' := [(3, vI 0), (2, vI 0), (0, vR 68), (1, vI a1)]) 4 rfl 3 (by decide) rfl (D_X12_settledIn_0.at 3 rfl) ?_
  exact J_sub (lv' := [(0, vR 68), (1, vI a1), (2, vI 0), (3, vI 0)]) [2, 3, 1, 0] rfl T
theorem l_X12_settledIn_4 {w : Wd} {v1 v2 v3 : Int} {h : Hp} {K : Int → Hp → Prop} (T : (inR v3) ∧ ((inR (h 93 5)) ∧ (((v3 ≥ (h 93 5)) → (K v2 h)) ∧ (¬ (v3 ≥ (h 93 5)) → ((0 ≤ ((10 * v1) + v3) ∧ ((10 * v1) + v3) < 80) ∧ (L_X12_settledIn_4 w v1 (v2 + (h 110 ((10 * v1) + v3))) (v3 + 1) h K)))))) : L_X12_settledIn_4 w v1 v2 v3 h K := by
  unfold L_X12_settledIn_4
  refine J_iload_n 5 rfl 3 3 rfl (D_X12_settledIn_0.at 4 rfl) ?_
  refine J_aload_n 6 rfl 0 0 rfl ⟨by decide, by decide⟩ (D_X12_settledIn_0.at 5 rfl) ?_
  refine J_callV (d' := 1) (K1 := fun z h0 => rok (some .int) z → JG w true m_X12_settledIn 2 NT NT 9 [(0, vR 68), (1, vI v1), (2, vI v2), (3, vI v3)] [vI z, vI v3] h0 _) (sr := fun z => [vI z, vI v3]) (as := []) (st := [vI v3]) (o := 68) 9 rfl ok_X12_bankMany im_X12_bankMany se_X12_bankMany ml_12_419 isC_12 ob_68 (Ob.lt ob_68) rfl (by decide) ⟨Nat.le_refl _, Nat.le_refl _⟩ (Nat.le_of_ble_eq_true rfl) (D_X12_settledIn_0.at 6 rfl) (fun _ => rfl) (CGm_of2 (by decide) (by decide) trivial (Nat.le_of_ble_eq_true rfl) ?_) (fun _ _ kq hb => kq hb)
  refine J_aload_n 1 rfl 0 0 rfl ⟨by decide, by decide⟩ (D_X12_bankMany_0.at 0 rfl) ?_
  refine J_getF (ov := 93) (dd := 1025) 4 rfl fl_12_87 rfl (by decide) rfl ob_68 (Ob.lt ob_68) (D_X12_bankMany_0.at 1 rfl) ?_
  refine J_iconst 5 rfl (D_X12_bankMany_0.at 2 rfl) ?_
  refine J_iald 6 rfl ar_93 (Ar.lt ar_93) ⟨by decide, by decide⟩ (D_X12_bankMany_0.at 3 rfl) ?_
  refine J_iret rfl (D_X12_bankMany_0.at 4 rfl) (fun _ => ?_)
  obtain ⟨s1, T⟩ := T
  obtain ⟨s2, T⟩ := T
  refine J_icmp_ge 12 rfl 32 s1 s2 (D_X12_settledIn_0.at 7 rfl) (by decide) (fun c4 => ?_) (fun c4 => ?_)
  · replace T := T.1 c4
    refine J_iload_n 33 rfl 2 2 rfl (D_X12_settledIn_0.at 21 rfl) ?_
    exact J_iret rfl (D_X12_settledIn_0.at 22 rfl) T
  replace T := T.2 c4
  refine J_iload_n 13 rfl 2 2 rfl (D_X12_settledIn_0.at 8 rfl) ?_
  refine J_aload_n 14 rfl 0 0 rfl ⟨by decide, by decide⟩ (D_X12_settledIn_0.at 9 rfl) ?_
  refine J_getF (ov := 110) (dd := 1042) 17 rfl fl_12_139 rfl (by decide) rfl ob_68 (Ob.lt ob_68) (D_X12_settledIn_0.at 10 rfl) ?_
  refine J_bipush 19 rfl ⟨by decide, by decide⟩ (D_X12_settledIn_0.at 11 rfl) ?_
  refine J_iload_n 20 rfl 1 1 rfl (D_X12_settledIn_0.at 12 rfl) ?_
  refine J_imul 21 rfl (D_X12_settledIn_0.at 13 rfl) ?_
  refine J_iload_n 22 rfl 3 3 rfl (D_X12_settledIn_0.at 14 rfl) ?_
  refine J_iadd 23 rfl (D_X12_settledIn_0.at 15 rfl) ?_
  obtain ⟨s3, T⟩ := T
  refine J_iald 24 rfl ar_110 (Ar.lt ar_110) s3 (D_X12_settledIn_0.at 16 rfl) ?_
  refine J_iadd 25 rfl (D_X12_settledIn_0.at 17 rfl) ?_
  refine J_istore_n (lv' := [(2, vI (v2 + (h 110 ((10 * v1) + v3)))), (0, vR 68), (1, vI v1), (3, vI v3)]) 26 rfl 2 (by decide) rfl (D_X12_settledIn_0.at 18 rfl) ?_
  refine J_iinc (v := (v3 + 1)) (lv' := [(3, vI (v3 + 1)), (2, vI (v2 + (h 110 ((10 * v1) + v3)))), (0, vR 68), (1, vI v1)]) 29 rfl 3 3 1 rfl rfl (by decide) rfl (D_X12_settledIn_0.at 19 rfl) ?_
  refine J_goto 4 (D_X12_settledIn_0.at 20 rfl) (by decide) ?_
  exact J_sub (lv' := [(0, vR 68), (1, vI v1), (2, vI (v2 + (h 110 ((10 * v1) + v3)))), (3, vI (v3 + 1))]) [2, 3, 1, 0] rfl T
theorem c_X12_writesTwo {w : Wd} {a1 : Int} {h : Hp} {K : Int → Hp → Prop} (T : (0 ≤ a1 ∧ a1 < 2147483648) ∧ (C_X12_writes w (a1 / 256) h (fun _ h3 => (0 ≤ a1 ∧ a1 < 2147483648) ∧ (C_X12_writes w (a1 % 256) h3 (fun _ h7 => K 0 h7))))) : C_X12_writesTwo w a1 h K := by
  refine CGm_of2 (by decide) (by decide) trivial (Nat.le_of_ble_eq_true rfl) ?_
  refine J_aload_n 1 rfl 0 0 rfl ⟨by decide, by decide⟩ (D_X12_writesTwo_0.at 0 rfl) ?_
  refine J_iload_n 2 rfl 1 1 rfl (D_X12_writesTwo_0.at 1 rfl) ?_
  refine J_sipush 5 rfl ⟨by decide, by decide⟩ (D_X12_writesTwo_0.at 2 rfl) ?_
  obtain ⟨s1, T⟩ := T
  refine J_idiv 6 rfl s1 ⟨by decide, by decide⟩ (D_X12_writesTwo_0.at 3 rfl) ?_
  refine J_callV (d' := 1) (sr := fun z => []) (as := [vI (a1 / 256)]) (st := []) (o := 68) 9 rfl ok_X12_writes im_X12_writes se_X12_writes ml_12_690 isC_12 ob_68 (Ob.lt ob_68) rfl (by decide) ⟨Nat.le_refl _, Nat.le_refl _⟩ (Nat.le_of_ble_eq_true rfl) (D_X12_writesTwo_0.at 4 rfl) (fun _ => rfl) T (fun r2 h3 T b4 => ?_)
  refine J_aload_n 10 rfl 0 0 rfl ⟨by decide, by decide⟩ (D_X12_writesTwo_0.at 5 rfl) ?_
  refine J_iload_n 11 rfl 1 1 rfl (D_X12_writesTwo_0.at 6 rfl) ?_
  refine J_sipush 14 rfl ⟨by decide, by decide⟩ (D_X12_writesTwo_0.at 7 rfl) ?_
  obtain ⟨s5, T⟩ := T
  refine J_irem 15 rfl s5 ⟨by decide, by decide⟩ (D_X12_writesTwo_0.at 8 rfl) ?_
  refine J_callV (d' := 1) (sr := fun z => []) (as := [vI (a1 % 256)]) (st := []) (o := 68) 18 rfl ok_X12_writes im_X12_writes se_X12_writes ml_12_690 isC_12 ob_68 (Ob.lt ob_68) rfl (by decide) ⟨Nat.le_refl _, Nat.le_refl _⟩ (Nat.le_of_ble_eq_true rfl) (D_X12_writesTwo_0.at 9 rfl) (fun _ => rfl) T (fun r6 h7 T b8 => ?_)
  exact J_vret rfl (D_X12_writesTwo_0.at 10 rfl) T
theorem c_X12_isTold {w : Wd} {a1 : Int} {h : Hp} {K : Int → Hp → Prop} (T : (inR (h 68 36)) ∧ ((((h 68 36) = 0) → (L_X12_isTold_71 w h K)) ∧ (¬ ((h 68 36) = 0) → ((inR a1) ∧ ((inR (((2 + ((1 + (2 * (h 93 5))) * (h 68 36))) + (3 * (h 93 5))) + 1)) ∧ (((a1 ≠ (((2 + ((1 + (2 * (h 93 5))) * (h 68 36))) + (3 * (h 93 5))) + 1)) → (L_X12_isTold_71 w h K)) ∧ (¬ (a1 ≠ (((2 + ((1 + (2 * (h 93 5))) * (h 68 36))) + (3 * (h 93 5))) + 1)) → ((0 ≤ (a1 - 1) ∧ (a1 - 1) < 1600) ∧ (C_X12_checked w 69 (a1 - 1) h (fun r5 h6 => (inR (h 69 (a1 - 1))) ∧ ((inR r5) ∧ ((((h 69 (a1 - 1)) ≠ r5) → (L_X12_isTold_71 w h6 K)) ∧ (¬ ((h 69 (a1 - 1)) ≠ r5) → ((inR ((256 * (h6 69 0)) + (h6 69 1))) ∧ (((((256 * (h6 69 0)) + (h6 69 1)) ≤ 999) → (L_X12_isTold_79 w (1 + (2 * (h 93 5))) (2 + ((1 + (2 * (h 93 5))) * (h 68 36))) 0 0 h6 K)) ∧ (¬ (((256 * (h6 69 0)) + (h6 69 1)) ≤ 999) → (L_X12_isTold_71 w h6 K))))))))))))))))) : C_X12_isTold w a1 h K := by
  refine CGm_of2 (by decide) (by decide) trivial (Nat.le_of_ble_eq_true rfl) ?_
  refine J_iconst 1 rfl (D_X12_isTold_0.at 0 rfl) ?_
  refine J_iconst 2 rfl (D_X12_isTold_0.at 1 rfl) ?_
  refine J_aload_n 3 rfl 0 0 rfl ⟨by decide, by decide⟩ (D_X12_isTold_0.at 2 rfl) ?_
  refine J_callV (d' := 1) (K1 := fun z h0 => rok (some .int) z → JG w true m_X12_isTold 2 NT NT 6 [(0, vR 68), (1, vI a1)] [vI z, vI 2, vI 1] h0 _) (sr := fun z => [vI z, vI 2, vI 1]) (as := []) (st := [vI 2, vI 1]) (o := 68) 6 rfl ok_X12_bankMany im_X12_bankMany se_X12_bankMany ml_12_419 isC_12 ob_68 (Ob.lt ob_68) rfl (by decide) ⟨Nat.le_refl _, Nat.le_refl _⟩ (Nat.le_of_ble_eq_true rfl) (D_X12_isTold_0.at 3 rfl) (fun _ => rfl) (CGm_of2 (by decide) (by decide) trivial (Nat.le_of_ble_eq_true rfl) ?_) (fun _ _ kq hb => kq hb)
  refine J_aload_n 1 rfl 0 0 rfl ⟨by decide, by decide⟩ (D_X12_bankMany_0.at 0 rfl) ?_
  refine J_getF (ov := 93) (dd := 1025) 4 rfl fl_12_87 rfl (by decide) rfl ob_68 (Ob.lt ob_68) (D_X12_bankMany_0.at 1 rfl) ?_
  refine J_iconst 5 rfl (D_X12_bankMany_0.at 2 rfl) ?_
  refine J_iald 6 rfl ar_93 (Ar.lt ar_93) ⟨by decide, by decide⟩ (D_X12_bankMany_0.at 3 rfl) ?_
  refine J_iret rfl (D_X12_bankMany_0.at 4 rfl) (fun _ => ?_)
  refine J_imul 7 rfl (D_X12_isTold_0.at 4 rfl) ?_
  refine J_iadd 8 rfl (D_X12_isTold_0.at 5 rfl) ?_
  refine J_istore_n (lv' := [(2, vI (1 + (2 * (h 93 5)))), (0, vR 68), (1, vI a1)]) 9 rfl 2 (by decide) rfl (D_X12_isTold_0.at 6 rfl) ?_
  refine J_iconst 10 rfl (D_X12_isTold_0.at 7 rfl) ?_
  refine J_iload_n 11 rfl 2 0 rfl (D_X12_isTold_0.at 8 rfl) ?_
  refine J_aload_n 12 rfl 0 1 rfl ⟨by decide, by decide⟩ (D_X12_isTold_0.at 9 rfl) ?_
  refine J_getI (z := (h 68 36)) 15 rfl fl_12_356 rfl ob_68 (Ob.lt ob_68) (D_X12_isTold_0.at 10 rfl) rfl ?_
  refine J_imul 16 rfl (D_X12_isTold_0.at 11 rfl) ?_
  refine J_iadd 17 rfl (D_X12_isTold_0.at 12 rfl) ?_
  refine J_istore_n (lv' := [(3, vI (2 + ((1 + (2 * (h 93 5))) * (h 68 36)))), (2, vI (1 + (2 * (h 93 5)))), (0, vR 68), (1, vI a1)]) 18 rfl 3 (by decide) rfl (D_X12_isTold_0.at 13 rfl) ?_
  refine J_aload_n 19 rfl 0 2 rfl ⟨by decide, by decide⟩ (D_X12_isTold_0.at 14 rfl) ?_
  refine J_getI (z := (h 68 36)) 22 rfl fl_12_356 rfl ob_68 (Ob.lt ob_68) (D_X12_isTold_0.at 15 rfl) rfl ?_
  obtain ⟨s1, T⟩ := T
  refine J_if_eq 25 rfl 71 s1 (D_X12_isTold_0.at 16 rfl) (by decide) (fun c14 => ?_) (fun c14 => ?_)
  · replace T := T.1 c14
    exact J_sub (lv' := []) [] rfl T
  replace T := T.2 c14
  refine J_iload_n 26 rfl 1 3 rfl (D_X12_isTold_0.at 17 rfl) ?_
  refine J_iload_n 27 rfl 3 0 rfl (D_X12_isTold_0.at 18 rfl) ?_
  refine J_iconst 28 rfl (D_X12_isTold_0.at 19 rfl) ?_
  refine J_aload_n 29 rfl 0 2 rfl ⟨by decide, by decide⟩ (D_X12_isTold_0.at 20 rfl) ?_
  refine J_callV (d' := 1) (K1 := fun z h0 => rok (some .int) z → JG w true m_X12_isTold 2 NT NT 32 [(3, vI (2 + ((1 + (2 * (h 93 5))) * (h 68 36)))), (2, vI (1 + (2 * (h 93 5)))), (0, vR 68), (1, vI a1)] [vI z, vI 3, vI (2 + ((1 + (2 * (h 93 5))) * (h 68 36))), vI a1] h0 _) (sr := fun z => [vI z, vI 3, vI (2 + ((1 + (2 * (h 93 5))) * (h 68 36))), vI a1]) (as := []) (st := [vI 3, vI (2 + ((1 + (2 * (h 93 5))) * (h 68 36))), vI a1]) (o := 68) 32 rfl ok_X12_bankMany im_X12_bankMany se_X12_bankMany ml_12_419 isC_12 ob_68 (Ob.lt ob_68) rfl (by decide) ⟨Nat.le_refl _, Nat.le_refl _⟩ (Nat.le_of_ble_eq_true rfl) (D_X12_isTold_0.at 21 rfl) (fun _ => rfl) (CGm_of2 (by decide) (by decide) trivial (Nat.le_of_ble_eq_true rfl) ?_) (fun _ _ kq hb => kq hb)
  refine J_aload_n 1 rfl 0 0 rfl ⟨by decide, by decide⟩ (D_X12_bankMany_0.at 0 rfl) ?_
  refine J_getF (ov := 93) (dd := 1025) 4 rfl fl_12_87 rfl (by decide) rfl ob_68 (Ob.lt ob_68) (D_X12_bankMany_0.at 1 rfl) ?_
  refine J_iconst 5 rfl (D_X12_bankMany_0.at 2 rfl) ?_
  refine J_iald 6 rfl ar_93 (Ar.lt ar_93) ⟨by decide, by decide⟩ (D_X12_bankMany_0.at 3 rfl) ?_
  refine J_iret rfl (D_X12_bankMany_0.at 4 rfl) (fun _ => ?_)
  refine J_imul 33 rfl (D_X12_isTold_0.at 22 rfl) ?_
  refine J_iadd 34 rfl (D_X12_isTold_0.at 23 rfl) ?_
  refine J_iconst 35 rfl (D_X12_isTold_0.at 24 rfl) ?_
  refine J_iadd 36 rfl (D_X12_isTold_0.at 25 rfl) ?_
  obtain ⟨s2, T⟩ := T
  obtain ⟨s3, T⟩ := T
  refine J_icmp_ne 39 rfl 71 s2 s3 (D_X12_isTold_0.at 26 rfl) (by decide) (fun c13 => ?_) (fun c13 => ?_)
  · replace T := T.1 c13
    exact J_sub (lv' := []) [] rfl T
  replace T := T.2 c13
  refine J_aload_n 40 rfl 0 2 rfl ⟨by decide, by decide⟩ (D_X12_isTold_0.at 27 rfl) ?_
  refine J_getF (ov := 69) (dd := 1001) 43 rfl fl_12_7 rfl (by decide) rfl ob_68 (Ob.lt ob_68) (D_X12_isTold_0.at 28 rfl) ?_
  refine J_iload_n 44 rfl 1 3 rfl (D_X12_isTold_0.at 29 rfl) ?_
  refine J_iconst 45 rfl (D_X12_isTold_0.at 30 rfl) ?_
  refine J_isub 46 rfl (D_X12_isTold_0.at 31 rfl) ?_
  obtain ⟨s4, T⟩ := T
  refine J_iald 47 rfl ar_69 (Ar.lt ar_69) s4 (D_X12_isTold_0.at 32 rfl) ?_
  refine J_aload_n 48 rfl 0 2 rfl ⟨by decide, by decide⟩ (D_X12_isTold_0.at 33 rfl) ?_
  refine J_getF (ov := 69) (dd := 1001) 51 rfl fl_12_7 rfl (by decide) rfl ob_68 (Ob.lt ob_68) (D_X12_isTold_0.at 34 rfl) ?_
  refine J_iload_n 52 rfl 1 3 rfl (D_X12_isTold_0.at 35 rfl) ?_
  refine J_iconst 53 rfl (D_X12_isTold_0.at 36 rfl) ?_
  refine J_isub 54 rfl (D_X12_isTold_0.at 37 rfl) ?_
  refine J_callS (d' := 1) (sr := fun z => [vI z, vI (h 69 (a1 - 1))]) (as := [vR 69, vI (a1 - 1)]) (st := [vI (h 69 (a1 - 1))]) 57 rfl ok_X12_checked sm_X12_checked ml_12_696 rfl (by decide) ⟨Nat.le_refl _, Nat.le_refl _⟩ (Nat.le_of_ble_eq_true rfl) (D_X12_isTold_0.at 38 rfl) (fun _ => rfl) T (fun r5 h6 T b7 => ?_)
  obtain ⟨s8, T⟩ := T
  obtain ⟨s9, T⟩ := T
  refine J_icmp_ne 60 rfl 71 s8 s9 (D_X12_isTold_0.at 39 rfl) (by decide) (fun c12 => ?_) (fun c12 => ?_)
  · replace T := T.1 c12
    exact J_sub (lv' := []) [] rfl T
  replace T := T.2 c12
  refine J_aload_n 61 rfl 0 2 rfl ⟨by decide, by decide⟩ (D_X12_isTold_0.at 40 rfl) ?_
  refine J_iconst 62 rfl (D_X12_isTold_0.at 41 rfl) ?_
  refine J_callV (d' := 1) (K1 := fun z h0 => rok (some .int) z → JG w true m_X12_isTold 2 NT NT 65 [(3, vI (2 + ((1 + (2 * (h 93 5))) * (h 68 36)))), (2, vI (1 + (2 * (h 93 5)))), (0, vR 68), (1, vI a1)] [vI z] h0 _) (sr := fun z => [vI z]) (as := [vI 0]) (st := []) (o := 68) 65 rfl ok_X12_two im_X12_two se_X12_two ml_12_700 isC_12 ob_68 (Ob.lt ob_68) rfl (by decide) ⟨Nat.le_refl _, Nat.le_refl _⟩ (Nat.le_of_ble_eq_true rfl) (D_X12_isTold_0.at 42 rfl) (fun _ => rfl) (CGm_of2 (by decide) (by decide) trivial (Nat.le_of_ble_eq_true rfl) ?_) (fun _ _ kq hb => kq hb)
  refine J_sipush 3 rfl ⟨by decide, by decide⟩ (D_X12_two_0.at 0 rfl) ?_
  refine J_aload_n 4 rfl 0 0 rfl ⟨by decide, by decide⟩ (D_X12_two_0.at 1 rfl) ?_
  refine J_getF (ov := 69) (dd := 1001) 7 rfl fl_12_7 rfl (by decide) rfl ob_68 (Ob.lt ob_68) (D_X12_two_0.at 2 rfl) ?_
  refine J_iload_n 8 rfl 1 1 rfl (D_X12_two_0.at 3 rfl) ?_
  refine J_iald 9 rfl ar_69 (Ar.lt ar_69) ⟨by decide, by decide⟩ (D_X12_two_0.at 4 rfl) ?_
  refine J_imul 10 rfl (D_X12_two_0.at 5 rfl) ?_
  refine J_aload_n 11 rfl 0 0 rfl ⟨by decide, by decide⟩ (D_X12_two_0.at 6 rfl) ?_
  refine J_getF (ov := 69) (dd := 1001) 14 rfl fl_12_7 rfl (by decide) rfl ob_68 (Ob.lt ob_68) (D_X12_two_0.at 7 rfl) ?_
  refine J_iload_n 15 rfl 1 1 rfl (D_X12_two_0.at 8 rfl) ?_
  refine J_iconst 16 rfl (D_X12_two_0.at 9 rfl) ?_
  refine J_iadd 17 rfl (D_X12_two_0.at 10 rfl) ?_
  refine J_iald 18 rfl ar_69 (Ar.lt ar_69) ⟨by decide, by decide⟩ (D_X12_two_0.at 11 rfl) ?_
  refine J_iadd 19 rfl (D_X12_two_0.at 12 rfl) ?_
  refine J_iret rfl (D_X12_two_0.at 13 rfl) (fun _ => ?_)
  refine J_sipush 68 rfl ⟨by decide, by decide⟩ (D_X12_isTold_0.at 43 rfl) ?_
  obtain ⟨s10, T⟩ := T
  refine J_icmp_le 71 rfl 73 s10 ⟨by decide, by decide⟩ (D_X12_isTold_0.at 44 rfl) (by decide) (fun c11 => ?_) (fun c11 => ?_)
  · replace T := T.1 c11
    refine J_iconst 74 rfl (D_X12_isTold_0.at 47 rfl) ?_
    refine J_istore (lv' := [(4, vI 0), (3, vI (2 + ((1 + (2 * (h 93 5))) * (h 68 36)))), (2, vI (1 + (2 * (h 93 5)))), (0, vR 68), (1, vI a1)]) 76 rfl 4 (by decide) rfl (D_X12_isTold_1.at 0 rfl) ?_
    refine J_iconst 77 rfl (D_X12_isTold_1.at 1 rfl) ?_
    refine J_istore (lv' := [(5, vI 0), (4, vI 0), (3, vI (2 + ((1 + (2 * (h 93 5))) * (h 68 36)))), (2, vI (1 + (2 * (h 93 5)))), (0, vR 68), (1, vI a1)]) 79 rfl 5 (by decide) rfl (D_X12_isTold_1.at 2 rfl) ?_
    exact J_sub (lv' := [(0, vR 68), (2, vI (1 + (2 * (h 93 5)))), (3, vI (2 + ((1 + (2 * (h 93 5))) * (h 68 36)))), (4, vI 0), (5, vI 0)]) [4, 3, 2, 1, 0] rfl T
  replace T := T.2 c11
  exact J_sub (lv' := []) [] rfl T
theorem l_X12_isTold_79 {w : Wd} {v2 v3 v4 v5 : Int} {h : Hp} {K : Int → Hp → Prop} (T : (inR v5) ∧ ((inR (h 68 36)) ∧ (((v5 ≥ (h 68 36)) → (L_X12_isTold_152 w v3 v4 0 h K)) ∧ (¬ (v5 ≥ (h 68 36)) → ((0 ≤ (2 + (v2 * v5)) ∧ (2 + (v2 * v5)) < 1600) ∧ ((inR (h 69 (2 + (v2 * v5)))) ∧ ((((h 69 (2 + (v2 * v5))) ≤ 3) → (L_X12_isTold_108 w v2 v3 v4 v5 0 h K)) ∧ (¬ ((h 69 (2 + (v2 * v5))) ≤ 3) → (K 0 h))))))))) : L_X12_isTold_79 w v2 v3 v4 v5 h K := by
  unfold L_X12_isTold_79
  refine J_iload 81 rfl 5 4 rfl (D_X12_isTold_1.at 3 rfl) ?_
  refine J_aload_n 82 rfl 0 0 rfl ⟨by decide, by decide⟩ (D_X12_isTold_1.at 4 rfl) ?_
  refine J_getI (z := (h 68 36)) 85 rfl fl_12_356 rfl ob_68 (Ob.lt ob_68) (D_X12_isTold_1.at 5 rfl) rfl ?_
  obtain ⟨s15, T⟩ := T
  obtain ⟨s16, T⟩ := T
  refine J_icmp_ge 88 rfl 149 s15 s16 (D_X12_isTold_1.at 6 rfl) (by decide) (fun c20 => ?_) (fun c20 => ?_)
  · replace T := T.1 c20
    refine J_iconst 150 rfl (D_X12_isTold_1.at 43 rfl) ?_
    refine J_istore (lv' := [(5, vI 0), (0, vR 68), (2, vI v2), (3, vI v3), (4, vI v4)]) 152 rfl 5 (by decide) rfl (D_X12_isTold_1.at 44 rfl) ?_
    exact J_sub (lv' := [(0, vR 68), (3, vI v3), (4, vI v4), (5, vI 0)]) [1, 3, 4, 0] rfl T
  replace T := T.2 c20
  refine J_aload_n 89 rfl 0 0 rfl ⟨by decide, by decide⟩ (D_X12_isTold_1.at 7 rfl) ?_
  refine J_getF (ov := 69) (dd := 1001) 92 rfl fl_12_7 rfl (by decide) rfl ob_68 (Ob.lt ob_68) (D_X12_isTold_1.at 8 rfl) ?_
  refine J_iconst 93 rfl (D_X12_isTold_1.at 9 rfl) ?_
  refine J_iload_n 94 rfl 2 1 rfl (D_X12_isTold_1.at 10 rfl) ?_
  refine J_iload 96 rfl 5 4 rfl (D_X12_isTold_1.at 11 rfl) ?_
  refine J_imul 97 rfl (D_X12_isTold_1.at 12 rfl) ?_
  refine J_iadd 98 rfl (D_X12_isTold_1.at 13 rfl) ?_
  obtain ⟨s17, T⟩ := T
  refine J_iald 99 rfl ar_69 (Ar.lt ar_69) s17 (D_X12_isTold_1.at 14 rfl) ?_
  refine J_iconst 100 rfl (D_X12_isTold_1.at 15 rfl) ?_
  obtain ⟨s18, T⟩ := T
  refine J_icmp_le 103 rfl 105 s18 ⟨by decide, by decide⟩ (D_X12_isTold_1.at 16 rfl) (by decide) (fun c19 => ?_) (fun c19 => ?_)
  · replace T := T.1 c19
    refine J_iconst 106 rfl (D_X12_isTold_1.at 19 rfl) ?_
    refine J_istore (lv' := [(6, vI 0), (0, vR 68), (2, vI v2), (3, vI v3), (4, vI v4), (5, vI v5)]) 108 rfl 6 (by decide) rfl (D_X12_isTold_1.at 20 rfl) ?_
    exact J_sub (lv' := [(0, vR 68), (2, vI v2), (3, vI v3), (4, vI v4), (5, vI v5), (6, vI 0)]) [1, 2, 3, 4, 5, 0] rfl T
  replace T := T.2 c19
  refine J_iconst 104 rfl (D_X12_isTold_1.at 17 rfl) ?_
  exact J_zret rfl (Or.inl rfl) (D_X12_isTold_1.at 18 rfl) T
theorem l_X12_isTold_108 {w : Wd} {v2 v3 v4 v5 v6 : Int} {h : Hp} {K : Int → Hp → Prop} (T : (inR v6) ∧ ((inR (h 93 5)) ∧ (((v6 ≥ (h 93 5)) → (L_X12_isTold_79 w v2 v3 v4 (v5 + 1) h K)) ∧ (¬ (v6 ≥ (h 93 5)) → ((0 ≤ ((3 + (v2 * v5)) + (2 * v6)) ∧ ((3 + (v2 * v5)) + (2 * v6)) < 1600) ∧ ((0 ≤ (((3 + (v2 * v5)) + (2 * v6)) + 1) ∧ (((3 + (v2 * v5)) + (2 * v6)) + 1) < 1600) ∧ (L_X12_isTold_108 w v2 v3 (v4 + ((256 * (h 69 ((3 + (v2 * v5)) + (2 * v6)))) + (h 69 (((3 + (v2 * v5)) + (2 * v6)) + 1)))) v5 (v6 + 1) h K))))))) : L_X12_isTold_108 w v2 v3 v4 v5 v6 h K := by
  unfold L_X12_isTold_108
  refine J_iload 110 rfl 6 5 rfl (D_X12_isTold_1.at 21 rfl) ?_
  refine J_aload_n 111 rfl 0 0 rfl ⟨by decide, by decide⟩ (D_X12_isTold_1.at 22 rfl) ?_
  refine J_callV (d' := 1) (K1 := fun z h0 => rok (some .int) z → JG w true m_X12_isTold 2 NT NT 114 [(0, vR 68), (2, vI v2), (3, vI v3), (4, vI v4), (5, vI v5), (6, vI v6)] [vI z, vI v6] h0 _) (sr := fun z => [vI z, vI v6]) (as := []) (st := [vI v6]) (o := 68) 114 rfl ok_X12_bankMany im_X12_bankMany se_X12_bankMany ml_12_419 isC_12 ob_68 (Ob.lt ob_68) rfl (by decide) ⟨Nat.le_refl _, Nat.le_refl _⟩ (Nat.le_of_ble_eq_true rfl) (D_X12_isTold_1.at 23 rfl) (fun _ => rfl) (CGm_of2 (by decide) (by decide) trivial (Nat.le_of_ble_eq_true rfl) ?_) (fun _ _ kq hb => kq hb)
  refine J_aload_n 1 rfl 0 0 rfl ⟨by decide, by decide⟩ (D_X12_bankMany_0.at 0 rfl) ?_
  refine J_getF (ov := 93) (dd := 1025) 4 rfl fl_12_87 rfl (by decide) rfl ob_68 (Ob.lt ob_68) (D_X12_bankMany_0.at 1 rfl) ?_
  refine J_iconst 5 rfl (D_X12_bankMany_0.at 2 rfl) ?_
  refine J_iald 6 rfl ar_93 (Ar.lt ar_93) ⟨by decide, by decide⟩ (D_X12_bankMany_0.at 3 rfl) ?_
  refine J_iret rfl (D_X12_bankMany_0.at 4 rfl) (fun _ => ?_)
  obtain ⟨s21, T⟩ := T
  obtain ⟨s22, T⟩ := T
  refine J_icmp_ge 117 rfl 143 s21 s22 (D_X12_isTold_1.at 24 rfl) (by decide) (fun c25 => ?_) (fun c25 => ?_)
  · replace T := T.1 c25
    refine J_iinc (v := (v5 + 1)) (lv' := [(5, vI (v5 + 1)), (0, vR 68), (2, vI v2), (3, vI v3), (4, vI v4), (6, vI v6)]) 146 rfl 5 4 1 rfl rfl (by decide) rfl (D_X12_isTold_1.at 41 rfl) ?_
    refine J_goto 79 (D_X12_isTold_1.at 42 rfl) (by decide) ?_
    exact J_sub (lv' := [(0, vR 68), (2, vI v2), (3, vI v3), (4, vI v4), (5, vI (v5 + 1))]) [1, 2, 3, 4, 0] rfl T
  replace T := T.2 c25
  refine J_iload 119 rfl 4 3 rfl (D_X12_isTold_1.at 25 rfl) ?_
  refine J_aload_n 120 rfl 0 0 rfl ⟨by decide, by decide⟩ (D_X12_isTold_1.at 26 rfl) ?_
  refine J_iconst 121 rfl (D_X12_isTold_1.at 27 rfl) ?_
  refine J_iload_n 122 rfl 2 1 rfl (D_X12_isTold_1.at 28 rfl) ?_
  refine J_iload 124 rfl 5 4 rfl (D_X12_isTold_1.at 29 rfl) ?_
  refine J_imul 125 rfl (D_X12_isTold_1.at 30 rfl) ?_
  refine J_iadd 126 rfl (D_X12_isTold_1.at 31 rfl) ?_
  refine J_iconst 127 rfl (D_X12_isTold_1.at 32 rfl) ?_
  refine J_iload 129 rfl 6 5 rfl (D_X12_isTold_1.at 33 rfl) ?_
  refine J_imul 130 rfl (D_X12_isTold_1.at 34 rfl) ?_
  refine J_iadd 131 rfl (D_X12_isTold_1.at 35 rfl) ?_
  refine J_callV (d' := 1) (K1 := fun z h0 => rok (some .int) z → JG w true m_X12_isTold 2 NT NT 134 [(0, vR 68), (2, vI v2), (3, vI v3), (4, vI v4), (5, vI v5), (6, vI v6)] [vI z, vI v4] h0 _) (sr := fun z => [vI z, vI v4]) (as := [vI ((3 + (v2 * v5)) + (2 * v6))]) (st := [vI v4]) (o := 68) 134 rfl ok_X12_two im_X12_two se_X12_two ml_12_700 isC_12 ob_68 (Ob.lt ob_68) rfl (by decide) ⟨Nat.le_refl _, Nat.le_refl _⟩ (Nat.le_of_ble_eq_true rfl) (D_X12_isTold_1.at 36 rfl) (fun _ => rfl) (CGm_of2 (by decide) (by decide) trivial (Nat.le_of_ble_eq_true rfl) ?_) (fun _ _ kq hb => kq hb)
  refine J_sipush 3 rfl ⟨by decide, by decide⟩ (D_X12_two_0.at 0 rfl) ?_
  refine J_aload_n 4 rfl 0 0 rfl ⟨by decide, by decide⟩ (D_X12_two_0.at 1 rfl) ?_
  refine J_getF (ov := 69) (dd := 1001) 7 rfl fl_12_7 rfl (by decide) rfl ob_68 (Ob.lt ob_68) (D_X12_two_0.at 2 rfl) ?_
  refine J_iload_n 8 rfl 1 1 rfl (D_X12_two_0.at 3 rfl) ?_
  obtain ⟨s23, T⟩ := T
  refine J_iald 9 rfl ar_69 (Ar.lt ar_69) s23 (D_X12_two_0.at 4 rfl) ?_
  refine J_imul 10 rfl (D_X12_two_0.at 5 rfl) ?_
  refine J_aload_n 11 rfl 0 0 rfl ⟨by decide, by decide⟩ (D_X12_two_0.at 6 rfl) ?_
  refine J_getF (ov := 69) (dd := 1001) 14 rfl fl_12_7 rfl (by decide) rfl ob_68 (Ob.lt ob_68) (D_X12_two_0.at 7 rfl) ?_
  refine J_iload_n 15 rfl 1 1 rfl (D_X12_two_0.at 8 rfl) ?_
  refine J_iconst 16 rfl (D_X12_two_0.at 9 rfl) ?_
  refine J_iadd 17 rfl (D_X12_two_0.at 10 rfl) ?_
  obtain ⟨s24, T⟩ := T
  refine J_iald 18 rfl ar_69 (Ar.lt ar_69) s24 (D_X12_two_0.at 11 rfl) ?_
  refine J_iadd 19 rfl (D_X12_two_0.at 12 rfl) ?_
  refine J_iret rfl (D_X12_two_0.at 13 rfl) (fun _ => ?_)
  refine J_iadd 135 rfl (D_X12_isTold_1.at 37 rfl) ?_
  refine J_istore (lv' := [(4, vI (v4 + ((256 * (h 69 ((3 + (v2 * v5)) + (2 * v6)))) + (h 69 (((3 + (v2 * v5)) + (2 * v6)) + 1))))), (0, vR 68), (2, vI v2), (3, vI v3), (5, vI v5), (6, vI v6)]) 137 rfl 4 (by decide) rfl (D_X12_isTold_1.at 38 rfl) ?_
  refine J_iinc (v := (v6 + 1)) (lv' := [(6, vI (v6 + 1)), (4, vI (v4 + ((256 * (h 69 ((3 + (v2 * v5)) + (2 * v6)))) + (h 69 (((3 + (v2 * v5)) + (2 * v6)) + 1))))), (0, vR 68), (2, vI v2), (3, vI v3), (5, vI v5)]) 140 rfl 6 5 1 rfl rfl (by decide) rfl (D_X12_isTold_1.at 39 rfl) ?_
  refine J_goto 108 (D_X12_isTold_1.at 40 rfl) (by decide) ?_
  exact J_sub (lv' := [(0, vR 68), (2, vI v2), (3, vI v3), (4, vI (v4 + ((256 * (h 69 ((3 + (v2 * v5)) + (2 * v6)))) + (h 69 (((3 + (v2 * v5)) + (2 * v6)) + 1))))), (5, vI v5), (6, vI (v6 + 1))]) [2, 3, 4, 1, 5, 0] rfl T
theorem l_X12_isTold_152 {w : Wd} {v3 v4 v5 : Int} {h : Hp} {K : Int → Hp → Prop} (T : (inR v5) ∧ ((inR (h 93 5)) ∧ (((v5 ≥ (h 93 5)) → ((inR v4) ∧ (((v4 ≠ 0) → (K 0 h)) ∧ (¬ (v4 ≠ 0) → (K 1 h))))) ∧ (¬ (v5 ≥ (h 93 5)) → ((0 ≤ (v3 + (3 * v5)) ∧ (v3 + (3 * v5)) < 1600) ∧ ((0 ≤ ((v3 + (3 * v5)) + 1) ∧ ((v3 + (3 * v5)) + 1) < 1600) ∧ ((0 ≤ (((v3 + (3 * v5)) + 1) + 1) ∧ (((v3 + (3 * v5)) + 1) + 1) < 1600) ∧ ((0 ≤ ((50 + (5 * v5)) + 3) ∧ ((50 + (5 * v5)) + 3) < 100) ∧ (L_X12_isTold_152 w v3 (v4 + (((h 69 (v3 + (3 * v5))) + ((256 * (h 69 ((v3 + (3 * v5)) + 1))) + (h 69 (((v3 + (3 * v5)) + 1) + 1)))) - (h 96 ((50 + (5 * v5)) + 3)))) (v5 + 1) h K))))))))) : L_X12_isTold_152 w v3 v4 v5 h K := by
  unfold L_X12_isTold_152
  refine J_iload 154 rfl 5 3 rfl (D_X12_isTold_1.at 45 rfl) ?_
  refine J_aload_n 155 rfl 0 0 rfl ⟨by decide, by decide⟩ (D_X12_isTold_1.at 46 rfl) ?_
  refine J_callV (d' := 1) (K1 := fun z h0 => rok (some .int) z → JG w true m_X12_isTold 2 NT NT 158 [(0, vR 68), (3, vI v3), (4, vI v4), (5, vI v5)] [vI z, vI v5] h0 _) (sr := fun z => [vI z, vI v5]) (as := []) (st := [vI v5]) (o := 68) 158 rfl ok_X12_bankMany im_X12_bankMany se_X12_bankMany ml_12_419 isC_12 ob_68 (Ob.lt ob_68) rfl (by decide) ⟨Nat.le_refl _, Nat.le_refl _⟩ (Nat.le_of_ble_eq_true rfl) (D_X12_isTold_1.at 47 rfl) (fun _ => rfl) (CGm_of2 (by decide) (by decide) trivial (Nat.le_of_ble_eq_true rfl) ?_) (fun _ _ kq hb => kq hb)
  refine J_aload_n 1 rfl 0 0 rfl ⟨by decide, by decide⟩ (D_X12_bankMany_0.at 0 rfl) ?_
  refine J_getF (ov := 93) (dd := 1025) 4 rfl fl_12_87 rfl (by decide) rfl ob_68 (Ob.lt ob_68) (D_X12_bankMany_0.at 1 rfl) ?_
  refine J_iconst 5 rfl (D_X12_bankMany_0.at 2 rfl) ?_
  refine J_iald 6 rfl ar_93 (Ar.lt ar_93) ⟨by decide, by decide⟩ (D_X12_bankMany_0.at 3 rfl) ?_
  refine J_iret rfl (D_X12_bankMany_0.at 4 rfl) (fun _ => ?_)
  obtain ⟨s26, T⟩ := T
  obtain ⟨s27, T⟩ := T
  refine J_icmp_ge 161 rfl 204 s26 s27 (D_X12_isTold_2.at 0 rfl) (by decide) (fun c34 => ?_) (fun c34 => ?_)
  · replace T := T.1 c34
    refine J_iload 206 rfl 4 2 rfl (D_X12_isTold_2.at 29 rfl) ?_
    obtain ⟨s28, T⟩ := T
    refine J_if_ne 209 rfl 213 s28 (D_X12_isTold_2.at 30 rfl) (by decide) (fun c29 => ?_) (fun c29 => ?_)
    · replace T := T.1 c29
      refine J_iconst 214 rfl (D_X12_isTold_2.at 33 rfl) ?_
      exact J_zret rfl (Or.inl rfl) (D_X12_isTold_2.at 34 rfl) T
    replace T := T.2 c29
    refine J_iconst 210 rfl (D_X12_isTold_2.at 31 rfl) ?_
    refine J_goto 214 (D_X12_isTold_2.at 32 rfl) (by decide) ?_
    exact J_zret rfl (Or.inr rfl) (D_X12_isTold_2.at 34 rfl) T
  replace T := T.2 c34
  refine J_iload 163 rfl 4 2 rfl (D_X12_isTold_2.at 1 rfl) ?_
  refine J_aload_n 164 rfl 0 0 rfl ⟨by decide, by decide⟩ (D_X12_isTold_2.at 2 rfl) ?_
  refine J_getF (ov := 69) (dd := 1001) 167 rfl fl_12_7 rfl (by decide) rfl ob_68 (Ob.lt ob_68) (D_X12_isTold_2.at 3 rfl) ?_
  refine J_iload_n 168 rfl 3 1 rfl (D_X12_isTold_2.at 4 rfl) ?_
  refine J_iconst 169 rfl (D_X12_isTold_2.at 5 rfl) ?_
  refine J_iload 171 rfl 5 3 rfl (D_X12_isTold_2.at 6 rfl) ?_
  refine J_imul 172 rfl (D_X12_isTold_2.at 7 rfl) ?_
  refine J_iadd 173 rfl (D_X12_isTold_2.at 8 rfl) ?_
  obtain ⟨s30, T⟩ := T
  refine J_iald 174 rfl ar_69 (Ar.lt ar_69) s30 (D_X12_isTold_2.at 9 rfl) ?_
  refine J_aload_n 175 rfl 0 0 rfl ⟨by decide, by decide⟩ (D_X12_isTold_2.at 10 rfl) ?_
  refine J_iload_n 176 rfl 3 1 rfl (D_X12_isTold_2.at 11 rfl) ?_
  refine J_iconst 177 rfl (D_X12_isTold_2.at 12 rfl) ?_
  refine J_iload 179 rfl 5 3 rfl (D_X12_isTold_2.at 13 rfl) ?_
  refine J_imul 180 rfl (D_X12_isTold_2.at 14 rfl) ?_
  refine J_iadd 181 rfl (D_X12_isTold_2.at 15 rfl) ?_
  refine J_iconst 182 rfl (D_X12_isTold_2.at 16 rfl) ?_
  refine J_iadd 183 rfl (D_X12_isTold_2.at 17 rfl) ?_
  refine J_callV (d' := 1) (K1 := fun z h0 => rok (some .int) z → JG w true m_X12_isTold 2 NT NT 186 [(0, vR 68), (3, vI v3), (4, vI v4), (5, vI v5)] [vI z, vI (h 69 (v3 + (3 * v5))), vI v4] h0 _) (sr := fun z => [vI z, vI (h 69 (v3 + (3 * v5))), vI v4]) (as := [vI ((v3 + (3 * v5)) + 1)]) (st := [vI (h 69 (v3 + (3 * v5))), vI v4]) (o := 68) 186 rfl ok_X12_two im_X12_two se_X12_two ml_12_700 isC_12 ob_68 (Ob.lt ob_68) rfl (by decide) ⟨Nat.le_refl _, Nat.le_refl _⟩ (Nat.le_of_ble_eq_true rfl) (D_X12_isTold_2.at 18 rfl) (fun _ => rfl) (CGm_of2 (by decide) (by decide) trivial (Nat.le_of_ble_eq_true rfl) ?_) (fun _ _ kq hb => kq hb)
  refine J_sipush 3 rfl ⟨by decide, by decide⟩ (D_X12_two_0.at 0 rfl) ?_
  refine J_aload_n 4 rfl 0 0 rfl ⟨by decide, by decide⟩ (D_X12_two_0.at 1 rfl) ?_
  refine J_getF (ov := 69) (dd := 1001) 7 rfl fl_12_7 rfl (by decide) rfl ob_68 (Ob.lt ob_68) (D_X12_two_0.at 2 rfl) ?_
  refine J_iload_n 8 rfl 1 1 rfl (D_X12_two_0.at 3 rfl) ?_
  obtain ⟨s31, T⟩ := T
  refine J_iald 9 rfl ar_69 (Ar.lt ar_69) s31 (D_X12_two_0.at 4 rfl) ?_
  refine J_imul 10 rfl (D_X12_two_0.at 5 rfl) ?_
  refine J_aload_n 11 rfl 0 0 rfl ⟨by decide, by decide⟩ (D_X12_two_0.at 6 rfl) ?_
  refine J_getF (ov := 69) (dd := 1001) 14 rfl fl_12_7 rfl (by decide) rfl ob_68 (Ob.lt ob_68) (D_X12_two_0.at 7 rfl) ?_
  refine J_iload_n 15 rfl 1 1 rfl (D_X12_two_0.at 8 rfl) ?_
  refine J_iconst 16 rfl (D_X12_two_0.at 9 rfl) ?_
  refine J_iadd 17 rfl (D_X12_two_0.at 10 rfl) ?_
  obtain ⟨s32, T⟩ := T
  refine J_iald 18 rfl ar_69 (Ar.lt ar_69) s32 (D_X12_two_0.at 11 rfl) ?_
  refine J_iadd 19 rfl (D_X12_two_0.at 12 rfl) ?_
  refine J_iret rfl (D_X12_two_0.at 13 rfl) (fun _ => ?_)
  refine J_iadd 187 rfl (D_X12_isTold_2.at 19 rfl) ?_
  refine J_aload_n 188 rfl 0 0 rfl ⟨by decide, by decide⟩ (D_X12_isTold_2.at 20 rfl) ?_
  refine J_iload 190 rfl 5 3 rfl (D_X12_isTold_2.at 21 rfl) ?_
  refine J_iconst 191 rfl (D_X12_isTold_2.at 22 rfl) ?_
  refine J_callV (d' := 1) (K1 := fun z h0 => rok (some .int) z → JG w true m_X12_isTold 2 NT NT 194 [(0, vR 68), (3, vI v3), (4, vI v4), (5, vI v5)] [vI z, vI ((h 69 (v3 + (3 * v5))) + ((256 * (h 69 ((v3 + (3 * v5)) + 1))) + (h 69 (((v3 + (3 * v5)) + 1) + 1)))), vI v4] h0 _) (sr := fun z => [vI z, vI ((h 69 (v3 + (3 * v5))) + ((256 * (h 69 ((v3 + (3 * v5)) + 1))) + (h 69 (((v3 + (3 * v5)) + 1) + 1)))), vI v4]) (as := [vI v5, vI 3]) (st := [vI ((h 69 (v3 + (3 * v5))) + ((256 * (h 69 ((v3 + (3 * v5)) + 1))) + (h 69 (((v3 + (3 * v5)) + 1) + 1)))), vI v4]) (o := 68) 194 rfl ok_X12_bankOf im_X12_bankOf se_X12_bankOf ml_12_430 isC_12 ob_68 (Ob.lt ob_68) rfl (by decide) ⟨Nat.le_refl _, Nat.le_refl _⟩ (Nat.le_of_ble_eq_true rfl) (D_X12_isTold_2.at 23 rfl) (fun _ => rfl) (CGm_of2 (by decide) (by decide) trivial (Nat.le_of_ble_eq_true rfl) ?_) (fun _ _ kq hb => kq hb)
  refine J_aload_n 1 rfl 0 0 rfl ⟨by decide, by decide⟩ (D_X12_bankOf_0.at 0 rfl) ?_
  refine J_getF (ov := 96) (dd := 1028) 4 rfl fl_12_97 rfl (by decide) rfl ob_68 (Ob.lt ob_68) (D_X12_bankOf_0.at 1 rfl) ?_
  refine J_bipush 6 rfl ⟨by decide, by decide⟩ (D_X12_bankOf_0.at 2 rfl) ?_
  refine J_iconst 7 rfl (D_X12_bankOf_0.at 3 rfl) ?_
  refine J_iload_n 8 rfl 1 1 rfl (D_X12_bankOf_0.at 4 rfl) ?_
  refine J_imul 9 rfl (D_X12_bankOf_0.at 5 rfl) ?_
  refine J_iadd 10 rfl (D_X12_bankOf_0.at 6 rfl) ?_
  refine J_iload_n 11 rfl 2 2 rfl (D_X12_bankOf_0.at 7 rfl) ?_
  refine J_iadd 12 rfl (D_X12_bankOf_0.at 8 rfl) ?_
  obtain ⟨s33, T⟩ := T
  refine J_iald 13 rfl ar_96 (Ar.lt ar_96) s33 (D_X12_bankOf_0.at 9 rfl) ?_
  refine J_iret rfl (D_X12_bankOf_0.at 10 rfl) (fun _ => ?_)
  refine J_isub 195 rfl (D_X12_isTold_2.at 24 rfl) ?_
  refine J_iadd 196 rfl (D_X12_isTold_2.at 25 rfl) ?_
  refine J_istore (lv' := [(4, vI (v4 + (((h 69 (v3 + (3 * v5))) + ((256 * (h 69 ((v3 + (3 * v5)) + 1))) + (h 69 (((v3 + (3 * v5)) + 1) + 1)))) - (h 96 ((50 + (5 * v5)) + 3))))), (0, vR 68), (3, vI v3), (5, vI v5)]) 198 rfl 4 (by decide) rfl (D_X12_isTold_2.at 26 rfl) ?_
  refine J_iinc (v := (v5 + 1)) (lv' := [(5, vI (v5 + 1)), (4, vI (v4 + (((h 69 (v3 + (3 * v5))) + ((256 * (h 69 ((v3 + (3 * v5)) + 1))) + (h 69 (((v3 + (3 * v5)) + 1) + 1)))) - (h 96 ((50 + (5 * v5)) + 3))))), (0, vR 68), (3, vI v3)]) 201 rfl 5 3 1 rfl rfl (by decide) rfl (D_X12_isTold_2.at 27 rfl) ?_
  refine J_goto 152 (D_X12_isTold_2.at 28 rfl) (by decide) ?_
  exact J_sub (lv' := [(0, vR 68), (3, vI v3), (4, vI (v4 + (((h 69 (v3 + (3 * v5))) + ((256 * (h 69 ((v3 + (3 * v5)) + 1))) + (h 69 (((v3 + (3 * v5)) + 1) + 1)))) - (h 96 ((50 + (5 * v5)) + 3))))), (5, vI (v5 + 1))]) [2, 3, 1, 0] rfl T
theorem l_X12_isTold_71 {w : Wd} {h : Hp} {K : Int → Hp → Prop} (T : K 0 h) : L_X12_isTold_71 w h K := by
  unfold L_X12_isTold_71
  refine J_iconst 72 rfl (D_X12_isTold_0.at 45 rfl) ?_
  exact J_zret rfl (Or.inl rfl) (D_X12_isTold_0.at 46 rfl) T
theorem c_X12_status {w : Wd} {a1 : Int} {h : Hp} {K : Int → Hp → Prop} (T : (inR a1) ∧ ((inL a1) ∧ (((a1 < 0) → (K (-1) h)) ∧ (¬ (a1 < 0) → ((inL a1) ∧ (((a1 > 5) → (K (-1) h)) ∧ (¬ (a1 > 5) → ((0 ≤ a1 ∧ a1 < 6) ∧ (K (h 70 a1) h))))))))) : C_X12_status w a1 h K := by
  refine CGm_of2 (by decide) (by decide) trivial (Nat.le_of_ble_eq_true rfl) ?_
  refine J_iload_n 1 rfl 1 1 rfl (D_X12_status_0.at 0 rfl) ?_
  obtain ⟨s1, T⟩ := T
  refine J_i2l 2 rfl s1 (D_X12_status_0.at 1 rfl) ?_
  refine J_lconst (z := 0) 3 rfl rfl (D_X12_status_0.at 2 rfl) ?_
  refine J_ldc2 6 rfl ko_12_479 (D_X12_status_0.at 3 rfl) ?_
  refine J_callS (d' := 1) (K1 := fun z h0 => rok (some .boolean) z → JG w true m_X12_status 2 NT NT 9 [(0, vR 68), (1, vI a1)] [vI z] h0 _) (sr := fun z => [vI z]) (as := [vL a1, vL 0, vL 5]) (st := []) 9 rfl ok_X12_isIn sm_X12_isIn ml_12_267 rfl (by decide) ⟨Nat.le_refl _, Nat.le_refl _⟩ (Nat.le_of_ble_eq_true rfl) (D_X12_status_0.at 4 rfl) (fun _ => rfl) (CGm_of2 (by decide) (by decide) trivial (Nat.le_of_ble_eq_true rfl) ?_) (fun _ _ kq hb => kq hb)
  refine J_lload_n 1 rfl 0 0 rfl (D_X12_isIn_0.at 0 rfl) ?_
  refine J_lload_n 2 rfl 2 1 rfl (D_X12_isIn_0.at 1 rfl) ?_
  obtain ⟨s2, T⟩ := T
  refine J_lcmp_lt 6 rfl 17 s2 ⟨by decide, by decide⟩ (D_X12_isIn_0.at 2 rfl) (D_X12_isIn_0.at 3 rfl) (by decide) (fun c6 => ?_) (fun c6 => ?_)
  · replace T := T.1 c6
    refine J_iconst 18 rfl (D_X12_isIn_0.at 10 rfl) ?_
    refine J_zret rfl (Or.inl rfl) (D_X12_isIn_0.at 11 rfl) (fun _ => ?_)
    refine J_if_eq 12 rfl 21 ⟨by decide, by decide⟩ (D_X12_status_0.at 5 rfl) (by decide) (fun _ => ?_) (fun c => absurd (by decide) c)
    refine J_iconst 22 rfl (D_X12_status_0.at 11 rfl) ?_
    exact J_iret rfl (D_X12_status_0.at 12 rfl) T
  replace T := T.2 c6
  refine J_lload_n 7 rfl 0 0 rfl (D_X12_isIn_0.at 4 rfl) ?_
  refine J_lload 9 rfl 4 2 rfl (D_X12_isIn_0.at 5 rfl) ?_
  obtain ⟨s3, T⟩ := T
  refine J_lcmp_gt 13 rfl 17 s3 ⟨by decide, by decide⟩ (D_X12_isIn_0.at 6 rfl) (D_X12_isIn_0.at 7 rfl) (by decide) (fun c5 => ?_) (fun c5 => ?_)
  · replace T := T.1 c5
    refine J_iconst 18 rfl (D_X12_isIn_0.at 10 rfl) ?_
    refine J_zret rfl (Or.inl rfl) (D_X12_isIn_0.at 11 rfl) (fun _ => ?_)
    refine J_if_eq 12 rfl 21 ⟨by decide, by decide⟩ (D_X12_status_0.at 5 rfl) (by decide) (fun _ => ?_) (fun c => absurd (by decide) c)
    refine J_iconst 22 rfl (D_X12_status_0.at 11 rfl) ?_
    exact J_iret rfl (D_X12_status_0.at 12 rfl) T
  replace T := T.2 c5
  refine J_iconst 14 rfl (D_X12_isIn_0.at 8 rfl) ?_
  refine J_goto 18 (D_X12_isIn_0.at 9 rfl) (by decide) ?_
  refine J_zret rfl (Or.inr rfl) (D_X12_isIn_0.at 11 rfl) (fun _ => ?_)
  refine J_if_eq 12 rfl 21 ⟨by decide, by decide⟩ (D_X12_status_0.at 5 rfl) (by decide) (fun c => absurd c (by decide)) (fun _ => ?_)
  refine J_aload_n 13 rfl 0 0 rfl ⟨by decide, by decide⟩ (D_X12_status_0.at 6 rfl) ?_
  refine J_getF (ov := 70) (dd := 1002) 16 rfl fl_12_17 rfl (by decide) rfl ob_68 (Ob.lt ob_68) (D_X12_status_0.at 7 rfl) ?_
  refine J_iload_n 17 rfl 1 1 rfl (D_X12_status_0.at 8 rfl) ?_
  obtain ⟨s4, T⟩ := T
  refine J_iald 18 rfl ar_70 (Ar.lt ar_70) s4 (D_X12_status_0.at 9 rfl) ?_
  refine J_goto 22 (D_X12_status_0.at 10 rfl) (by decide) ?_
  exact J_iret rfl (D_X12_status_0.at 12 rfl) T
theorem c_X12_takes {w : Wd} {a1 : Int} {na1 : Nat} (ha1 : Ar 3 na1 a1) {h : Hp} {K : Int → Hp → Prop} (T : C_X12_isHere w a1 h (fun r1 h2 => (r1 = 0 ∨ r1 = 1) → ((r1 ≠ 0) → (∀ h4 : Hp, h4 = hu h2 68 2 ((h2 68 2) + (Int.ofNat na1)) → ∀ h6 : Hp, h6 = hu h4 68 4 (h4 68 2) → K 1 h6)) ∧ (¬ (r1 ≠ 0) → (K 0 h2)))) : C_X12_takes w a1 h K := by
  refine CGm_of2 (by decide) (by decide) trivial (Nat.le_of_ble_eq_true rfl) ?_
  refine J_aload_n 1 rfl 0 0 rfl ⟨by decide, by decide⟩ (D_X12_takes_0.at 0 rfl) ?_
  refine J_aload_n 2 rfl 1 1 rfl (Ar.rng ha1) (D_X12_takes_0.at 1 rfl) ?_
  refine J_callV (d' := 2) (sr := fun z => [vI z]) (as := [vR a1]) (st := []) (o := 68) 5 rfl ok_X12_isHere im_X12_isHere se_X12_isHere ml_12_250 isC_12 ob_68 (Ob.lt ob_68) rfl (by decide) ⟨Nat.le_refl _, Nat.le_refl _⟩ (Nat.le_of_ble_eq_true rfl) (D_X12_takes_0.at 2 rfl) (fun _ => rfl) T (fun r1 h2 T b3 => ?_)
  replace T := T b3
  refine J_if_ne 8 rfl 10 (inR_b b3) (D_X12_takes_0.at 3 rfl) (by decide) (fun c8 => ?_) (fun c8 => ?_)
  · replace T := T.1 c8
    refine J_aload_n 11 rfl 0 0 rfl ⟨by decide, by decide⟩ (D_X12_takes_0.at 6 rfl) ?_
    refine J_dup 12 rfl rfl (D_X12_takes_0.at 7 rfl) ?_
    refine J_getI (z := (h2 68 2)) 15 rfl fl_12_233 rfl ob_68 (Ob.lt ob_68) (D_X12_takes_0.at 8 rfl) rfl ?_
    refine J_aload_n 16 rfl 1 1 rfl (Ar.rng ha1) (D_X12_takes_0.at 9 rfl) ?_
    refine J_alenE (v := (Int.ofNat na1)) 17 rfl rfl (by decide) ha1 (Ar.lt ha1) (D_X12_takes_0.at 10 rfl) ?_
    refine J_iadd 18 rfl (D_X12_takes_0.at 11 rfl) ?_
    refine J_putI 21 rfl fl_12_233 rfl rfl ob_68 (Ob.lt ob_68) (D_X12_takes_0.at 12 rfl) (fun h4 e5 => ?_)
    replace T := T h4 e5
    refine J_aload_n 22 rfl 0 0 rfl ⟨by decide, by decide⟩ (D_X12_takes_0.at 13 rfl) ?_
    refine J_aload_n 23 rfl 0 0 rfl ⟨by decide, by decide⟩ (D_X12_takes_0.at 14 rfl) ?_
    refine J_getI (z := (h4 68 2)) 26 rfl fl_12_233 rfl ob_68 (Ob.lt ob_68) (D_X12_takes_0.at 15 rfl) rfl ?_
    refine J_putI 29 rfl fl_12_247 rfl rfl ob_68 (Ob.lt ob_68) (D_X12_takes_0.at 16 rfl) (fun h6 e7 => ?_)
    replace T := T h6 e7
    refine J_iconst 30 rfl (D_X12_takes_0.at 17 rfl) ?_
    exact J_zret rfl (Or.inr rfl) (D_X12_takes_0.at 18 rfl) T
  replace T := T.2 c8
  refine J_iconst 9 rfl (D_X12_takes_0.at 4 rfl) ?_
  exact J_zret rfl (Or.inl rfl) (D_X12_takes_0.at 5 rfl) T
theorem c_X12_asksSign {w : Wd} {a1 : Int} {h : Hp} {K : Int → Hp → Prop} (T : (inR (h 68 5)) ∧ ((((h 68 5) ≠ 0) → (K 0 h)) ∧ (¬ ((h 68 5) ≠ 0) → (C_X12_takesSign w a1 h (fun r2 h3 => (r2 = 0 ∨ r2 = 1) → ((r2 ≠ 0) → (K 0 h3)) ∧ (¬ (r2 ≠ 0) → (C_X12_fail w 1 (h3 68 2) h3 (fun _ h6 => K 0 h6)))))))) : C_X12_asksSign w a1 h K := by
  refine CGm_of2 (by decide) (by decide) trivial (Nat.le_of_ble_eq_true rfl) ?_
  refine J_aload_n 1 rfl 0 0 rfl ⟨by decide, by decide⟩ (D_X12_asksSign_0.at 0 rfl) ?_
  refine J_getI (z := (h 68 5)) 4 rfl fl_12_227 rfl ob_68 (Ob.lt ob_68) (D_X12_asksSign_0.at 1 rfl) rfl ?_
  obtain ⟨s1, T⟩ := T
  refine J_if_ne 7 rfl 24 s1 (D_X12_asksSign_0.at 2 rfl) (by decide) (fun c9 => ?_) (fun c9 => ?_)
  · replace T := T.1 c9
    exact J_vret rfl (D_X12_asksSign_0.at 12 rfl) T
  replace T := T.2 c9
  refine J_aload_n 8 rfl 0 0 rfl ⟨by decide, by decide⟩ (D_X12_asksSign_0.at 3 rfl) ?_
  refine J_iload_n 9 rfl 1 1 rfl (D_X12_asksSign_0.at 4 rfl) ?_
  refine J_callV (d' := 2) (sr := fun z => [vI z]) (as := [vI a1]) (st := []) (o := 68) 12 rfl ok_X12_takesSign im_X12_takesSign se_X12_takesSign ml_12_261 isC_12 ob_68 (Ob.lt ob_68) rfl (by decide) ⟨Nat.le_refl _, Nat.le_refl _⟩ (Nat.le_of_ble_eq_true rfl) (D_X12_asksSign_0.at 5 rfl) (fun _ => rfl) T (fun r2 h3 T b4 => ?_)
  replace T := T b4
  refine J_if_ne 15 rfl 24 (inR_b b4) (D_X12_asksSign_0.at 6 rfl) (by decide) (fun c8 => ?_) (fun c8 => ?_)
  · replace T := T.1 c8
    exact J_vret rfl (D_X12_asksSign_0.at 12 rfl) T
  replace T := T.2 c8
  refine J_aload_n 16 rfl 0 0 rfl ⟨by decide, by decide⟩ (D_X12_asksSign_0.at 7 rfl) ?_
  refine J_iconst 17 rfl (D_X12_asksSign_0.at 8 rfl) ?_
  refine J_aload_n 18 rfl 0 0 rfl ⟨by decide, by decide⟩ (D_X12_asksSign_0.at 9 rfl) ?_
  refine J_getI (z := (h3 68 2)) 21 rfl fl_12_233 rfl ob_68 (Ob.lt ob_68) (D_X12_asksSign_0.at 10 rfl) rfl ?_
  refine J_callV (d' := 1) (sr := fun z => []) (as := [vI 1, vI (h3 68 2)]) (st := []) (o := 68) 24 rfl ok_X12_fail im_X12_fail se_X12_fail ml_12_257 isC_12 ob_68 (Ob.lt ob_68) rfl (by decide) ⟨Nat.le_refl _, Nat.le_refl _⟩ (Nat.le_of_ble_eq_true rfl) (D_X12_asksSign_0.at 11 rfl) (fun _ => rfl) T (fun r5 h6 T b7 => ?_)
  exact J_vret rfl (D_X12_asksSign_0.at 12 rfl) T
theorem c_X12_isOwnHere {w : Wd} {h : Hp} {K : Int → Hp → Prop} (T : C_X12_isHere w 71 h (fun r1 h2 => (r1 = 0 ∨ r1 = 1) → ((r1 ≠ 0) → (L_X12_isOwnHere_66 w h2 K)) ∧ (¬ (r1 ≠ 0) → (C_X12_isHere w 72 h2 (fun r4 h5 => (r4 = 0 ∨ r4 = 1) → ((r4 ≠ 0) → (L_X12_isOwnHere_66 w h5 K)) ∧ (¬ (r4 ≠ 0) → (C_X12_isHere w 73 h5 (fun r7 h8 => (r7 = 0 ∨ r7 = 1) → ((r7 ≠ 0) → (L_X12_isOwnHere_66 w h8 K)) ∧ (¬ (r7 ≠ 0) → (C_X12_isHere w 74 h8 (fun r10 h11 => (r10 = 0 ∨ r10 = 1) → ((r10 ≠ 0) → (L_X12_isOwnHere_66 w h11 K)) ∧ (¬ (r10 ≠ 0) → (C_X12_isHere w 75 h11 (fun r13 h14 => (r13 = 0 ∨ r13 = 1) → ((r13 ≠ 0) → (L_X12_isOwnHere_66 w h14 K)) ∧ (¬ (r13 ≠ 0) → (C_X12_isHere w 76 h14 (fun r16 h17 => (r16 = 0 ∨ r16 = 1) → ((r16 = 0) → (C_X12_isHere w 77 h17 (fun r19 h20 => (r19 = 0 ∨ r19 = 1) → ((r19 ≠ 0) → (L_X12_isOwnHere_142 w h20 K)) ∧ (¬ (r19 ≠ 0) → (C_X12_isHere w 78 h20 (fun r22 h23 => (r22 = 0 ∨ r22 = 1) → ((r22 ≠ 0) → (L_X12_isOwnHere_142 w h23 K)) ∧ (¬ (r22 ≠ 0) → (C_X12_isHere w 79 h23 (fun r25 h26 => (r25 = 0 ∨ r25 = 1) → ((r25 ≠ 0) → (L_X12_isOwnHere_142 w h26 K)) ∧ (¬ (r25 ≠ 0) → (C_X12_isHere w 80 h26 (fun r28 h29 => (r28 = 0 ∨ r28 = 1) → ((r28 ≠ 0) → (L_X12_isOwnHere_142 w h29 K)) ∧ (¬ (r28 ≠ 0) → (C_X12_isHere w 81 h29 (fun r31 h32 => (r31 = 0 ∨ r31 = 1) → ((r31 ≠ 0) → (L_X12_isOwnHere_142 w h32 K)) ∧ (¬ (r31 ≠ 0) → (C_X12_isHere w 82 h32 (fun r34 h35 => (r34 = 0 ∨ r34 = 1) → ((r34 = 0) → (C_X12_isHere w 83 h35 (fun r37 h38 => (r37 = 0 ∨ r37 = 1) → ((r37 ≠ 0) → (L_X12_isOwnHere_218 w h38 K)) ∧ (¬ (r37 ≠ 0) → (C_X12_isHere w 84 h38 (fun r40 h41 => (r40 = 0 ∨ r40 = 1) → ((r40 ≠ 0) → (L_X12_isOwnHere_218 w h41 K)) ∧ (¬ (r40 ≠ 0) → (C_X12_isHere w 85 h41 (fun r43 h44 => (r43 = 0 ∨ r43 = 1) → ((r43 ≠ 0) → (L_X12_isOwnHere_218 w h44 K)) ∧ (¬ (r43 ≠ 0) → (C_X12_isHere w 86 h44 (fun r46 h47 => (r46 = 0 ∨ r46 = 1) → ((r46 ≠ 0) → (L_X12_isOwnHere_218 w h47 K)) ∧ (¬ (r46 ≠ 0) → (C_X12_isHere w 87 h47 (fun r49 h50 => (r49 = 0 ∨ r49 = 1) → ((r49 ≠ 0) → (L_X12_isOwnHere_218 w h50 K)) ∧ (¬ (r49 ≠ 0) → (C_X12_isHere w 88 h50 (fun r52 h53 => (r52 = 0 ∨ r52 = 1) → ((r52 = 0) → (C_X12_isHere w 89 h53 (fun r55 h56 => (r55 = 0 ∨ r55 = 1) → ((r55 ≠ 0) → (L_X12_isOwnHere_272 w h56 K)) ∧ (¬ (r55 ≠ 0) → (C_X12_isHere w 90 h56 (fun r58 h59 => (r58 = 0 ∨ r58 = 1) → ((r58 ≠ 0) → (L_X12_isOwnHere_272 w h59 K)) ∧ (¬ (r58 ≠ 0) → (C_X12_isHere w 91 h59 (fun r61 h62 => (r61 = 0 ∨ r61 = 1) → ((r61 ≠ 0) → (L_X12_isOwnHere_272 w h62 K)) ∧ (¬ (r61 ≠ 0) → (C_X12_isHere w 92 h62 (fun r64 h65 => (r64 = 0 ∨ r64 = 1) → ((r64 = 0) → (K 0 h65)) ∧ (¬ (r64 = 0) → (L_X12_isOwnHere_272 w h65 K)))))))))))))) ∧ (¬ (r52 = 0) → (L_X12_isOwnHere_218 w h53 K)))))))))))))))))))) ∧ (¬ (r34 = 0) → (L_X12_isOwnHere_142 w h35 K)))))))))))))))))))) ∧ (¬ (r16 = 0) → (L_X12_isOwnHere_66 w h17 K))))))))))))))))))) : C_X12_isOwnHere w h K := by
  refine CGm_of2 (by decide) (by decide) trivial (Nat.le_of_ble_eq_true rfl) ?_
  refine J_aload_n 1 rfl 0 0 rfl ⟨by decide, by decide⟩ (D_X12_isOwnHere_0.at 0 rfl) ?_
  refine J_aload_n 2 rfl 0 0 rfl ⟨by decide, by decide⟩ (D_X12_isOwnHere_0.at 1 rfl) ?_
  refine J_getF (ov := 71) (dd := 1003) 5 rfl fl_12_20 rfl (by decide) rfl ob_68 (Ob.lt ob_68) (D_X12_isOwnHere_0.at 2 rfl) ?_
  refine J_callV (d' := 2) (sr := fun z => [vI z]) (as := [vR 71]) (st := []) (o := 68) 8 rfl ok_X12_isHere im_X12_isHere se_X12_isHere ml_12_250 isC_12 ob_68 (Ob.lt ob_68) rfl (by decide) ⟨Nat.le_refl _, Nat.le_refl _⟩ (Nat.le_of_ble_eq_true rfl) (D_X12_isOwnHere_0.at 3 rfl) (fun _ => rfl) T (fun r1 h2 T b3 => ?_)
  replace T := T b3
  refine J_if_ne 11 rfl 66 (inR_b b3) (D_X12_isOwnHere_0.at 4 rfl) (by decide) (fun c88 => ?_) (fun c88 => ?_)
  · replace T := T.1 c88
    exact T
  replace T := T.2 c88
  refine J_aload_n 12 rfl 0 0 rfl ⟨by decide, by decide⟩ (D_X12_isOwnHere_0.at 5 rfl) ?_
  refine J_aload_n 13 rfl 0 0 rfl ⟨by decide, by decide⟩ (D_X12_isOwnHere_0.at 6 rfl) ?_
  refine J_getF (ov := 72) (dd := 1004) 16 rfl fl_12_24 rfl (by decide) rfl ob_68 (Ob.lt ob_68) (D_X12_isOwnHere_0.at 7 rfl) ?_
  refine J_callV (d' := 2) (sr := fun z => [vI z]) (as := [vR 72]) (st := []) (o := 68) 19 rfl ok_X12_isHere im_X12_isHere se_X12_isHere ml_12_250 isC_12 ob_68 (Ob.lt ob_68) rfl (by decide) ⟨Nat.le_refl _, Nat.le_refl _⟩ (Nat.le_of_ble_eq_true rfl) (D_X12_isOwnHere_0.at 8 rfl) (fun _ => rfl) T (fun r4 h5 T b6 => ?_)
  replace T := T b6
  refine J_if_ne 22 rfl 66 (inR_b b6) (D_X12_isOwnHere_0.at 9 rfl) (by decide) (fun c87 => ?_) (fun c87 => ?_)
  · replace T := T.1 c87
    exact T
  replace T := T.2 c87
  refine J_aload_n 23 rfl 0 0 rfl ⟨by decide, by decide⟩ (D_X12_isOwnHere_0.at 10 rfl) ?_
  refine J_aload_n 24 rfl 0 0 rfl ⟨by decide, by decide⟩ (D_X12_isOwnHere_0.at 11 rfl) ?_
  refine J_getF (ov := 73) (dd := 1005) 27 rfl fl_12_27 rfl (by decide) rfl ob_68 (Ob.lt ob_68) (D_X12_isOwnHere_0.at 12 rfl) ?_
  refine J_callV (d' := 2) (sr := fun z => [vI z]) (as := [vR 73]) (st := []) (o := 68) 30 rfl ok_X12_isHere im_X12_isHere se_X12_isHere ml_12_250 isC_12 ob_68 (Ob.lt ob_68) rfl (by decide) ⟨Nat.le_refl _, Nat.le_refl _⟩ (Nat.le_of_ble_eq_true rfl) (D_X12_isOwnHere_0.at 13 rfl) (fun _ => rfl) T (fun r7 h8 T b9 => ?_)
  replace T := T b9
  refine J_if_ne 33 rfl 66 (inR_b b9) (D_X12_isOwnHere_0.at 14 rfl) (by decide) (fun c86 => ?_) (fun c86 => ?_)
  · replace T := T.1 c86
    exact T
  replace T := T.2 c86
  refine J_aload_n 34 rfl 0 0 rfl ⟨by decide, by decide⟩ (D_X12_isOwnHere_0.at 15 rfl) ?_
  refine J_aload_n 35 rfl 0 0 rfl ⟨by decide, by decide⟩ (D_X12_isOwnHere_0.at 16 rfl) ?_
  refine J_getF (ov := 74) (dd := 1006) 38 rfl fl_12_30 rfl (by decide) rfl ob_68 (Ob.lt ob_68) (D_X12_isOwnHere_0.at 17 rfl) ?_
  refine J_callV (d' := 2) (sr := fun z => [vI z]) (as := [vR 74]) (st := []) (o := 68) 41 rfl ok_X12_isHere im_X12_isHere se_X12_isHere ml_12_250 isC_12 ob_68 (Ob.lt ob_68) rfl (by decide) ⟨Nat.le_refl _, Nat.le_refl _⟩ (Nat.le_of_ble_eq_true rfl) (D_X12_isOwnHere_0.at 18 rfl) (fun _ => rfl) T (fun r10 h11 T b12 => ?_)
  replace T := T b12
  refine J_if_ne 44 rfl 66 (inR_b b12) (D_X12_isOwnHere_0.at 19 rfl) (by decide) (fun c85 => ?_) (fun c85 => ?_)
  · replace T := T.1 c85
    exact T
  replace T := T.2 c85
  refine J_aload_n 45 rfl 0 0 rfl ⟨by decide, by decide⟩ (D_X12_isOwnHere_0.at 20 rfl) ?_
  refine J_aload_n 46 rfl 0 0 rfl ⟨by decide, by decide⟩ (D_X12_isOwnHere_0.at 21 rfl) ?_
  refine J_getF (ov := 75) (dd := 1007) 49 rfl fl_12_33 rfl (by decide) rfl ob_68 (Ob.lt ob_68) (D_X12_isOwnHere_0.at 22 rfl) ?_
  refine J_callV (d' := 2) (sr := fun z => [vI z]) (as := [vR 75]) (st := []) (o := 68) 52 rfl ok_X12_isHere im_X12_isHere se_X12_isHere ml_12_250 isC_12 ob_68 (Ob.lt ob_68) rfl (by decide) ⟨Nat.le_refl _, Nat.le_refl _⟩ (Nat.le_of_ble_eq_true rfl) (D_X12_isOwnHere_0.at 23 rfl) (fun _ => rfl) T (fun r13 h14 T b15 => ?_)
  replace T := T b15
  refine J_if_ne 55 rfl 66 (inR_b b15) (D_X12_isOwnHere_0.at 24 rfl) (by decide) (fun c84 => ?_) (fun c84 => ?_)
  · replace T := T.1 c84
    exact T
  replace T := T.2 c84
  refine J_aload_n 56 rfl 0 0 rfl ⟨by decide, by decide⟩ (D_X12_isOwnHere_0.at 25 rfl) ?_
  refine J_aload_n 57 rfl 0 0 rfl ⟨by decide, by decide⟩ (D_X12_isOwnHere_0.at 26 rfl) ?_
  refine J_getF (ov := 76) (dd := 1008) 60 rfl fl_12_36 rfl (by decide) rfl ob_68 (Ob.lt ob_68) (D_X12_isOwnHere_0.at 27 rfl) ?_
  refine J_callV (d' := 2) (sr := fun z => [vI z]) (as := [vR 76]) (st := []) (o := 68) 63 rfl ok_X12_isHere im_X12_isHere se_X12_isHere ml_12_250 isC_12 ob_68 (Ob.lt ob_68) rfl (by decide) ⟨Nat.le_refl _, Nat.le_refl _⟩ (Nat.le_of_ble_eq_true rfl) (D_X12_isOwnHere_0.at 28 rfl) (fun _ => rfl) T (fun r16 h17 T b18 => ?_)
  replace T := T b18
  refine J_if_eq 66 rfl 70 (inR_b b18) (D_X12_isOwnHere_0.at 29 rfl) (by decide) (fun c83 => ?_) (fun c83 => ?_)
  · replace T := T.1 c83
    refine J_iconst 71 rfl (D_X12_isOwnHere_0.at 32 rfl) ?_
    refine J_istore_n (lv' := [(1, vI 0), (0, vR 68)]) 72 rfl 1 (by decide) rfl (D_X12_isOwnHere_0.at 33 rfl) ?_
    refine J_iload_n 73 rfl 1 0 rfl (D_X12_isOwnHere_0.at 34 rfl) ?_
    refine J_if_ne 76 rfl 142 ⟨by decide, by decide⟩ (D_X12_isOwnHere_0.at 35 rfl) (by decide) (fun c => absurd c (by decide)) (fun _ => ?_)
    refine J_aload_n 77 rfl 0 1 rfl ⟨by decide, by decide⟩ (D_X12_isOwnHere_0.at 36 rfl) ?_
    refine J_aload_n 78 rfl 0 1 rfl ⟨by decide, by decide⟩ (D_X12_isOwnHere_0.at 37 rfl) ?_
    refine J_getF (ov := 77) (dd := 1009) 81 rfl fl_12_39 rfl (by decide) rfl ob_68 (Ob.lt ob_68) (D_X12_isOwnHere_0.at 38 rfl) ?_
    refine J_callV (d' := 2) (sr := fun z => [vI z]) (as := [vR 77]) (st := []) (o := 68) 84 rfl ok_X12_isHere im_X12_isHere se_X12_isHere ml_12_250 isC_12 ob_68 (Ob.lt ob_68) rfl (by decide) ⟨Nat.le_refl _, Nat.le_refl _⟩ (Nat.le_of_ble_eq_true rfl) (D_X12_isOwnHere_0.at 39 rfl) (fun _ => rfl) T (fun r19 h20 T b21 => ?_)
    replace T := T b21
    refine J_if_ne 87 rfl 142 (inR_b b21) (D_X12_isOwnHere_0.at 40 rfl) (by decide) (fun c82 => ?_) (fun c82 => ?_)
    · replace T := T.1 c82
      exact J_sub (lv' := [(0, vR 68)]) [1] rfl T
    replace T := T.2 c82
    refine J_aload_n 88 rfl 0 1 rfl ⟨by decide, by decide⟩ (D_X12_isOwnHere_0.at 41 rfl) ?_
    refine J_aload_n 89 rfl 0 1 rfl ⟨by decide, by decide⟩ (D_X12_isOwnHere_0.at 42 rfl) ?_
    refine J_getF (ov := 78) (dd := 1010) 92 rfl fl_12_42 rfl (by decide) rfl ob_68 (Ob.lt ob_68) (D_X12_isOwnHere_0.at 43 rfl) ?_
    refine J_callV (d' := 2) (sr := fun z => [vI z]) (as := [vR 78]) (st := []) (o := 68) 95 rfl ok_X12_isHere im_X12_isHere se_X12_isHere ml_12_250 isC_12 ob_68 (Ob.lt ob_68) rfl (by decide) ⟨Nat.le_refl _, Nat.le_refl _⟩ (Nat.le_of_ble_eq_true rfl) (D_X12_isOwnHere_0.at 44 rfl) (fun _ => rfl) T (fun r22 h23 T b24 => ?_)
    replace T := T b24
    refine J_if_ne 98 rfl 142 (inR_b b24) (D_X12_isOwnHere_0.at 45 rfl) (by decide) (fun c81 => ?_) (fun c81 => ?_)
    · replace T := T.1 c81
      exact J_sub (lv' := [(0, vR 68)]) [1] rfl T
    replace T := T.2 c81
    refine J_aload_n 99 rfl 0 1 rfl ⟨by decide, by decide⟩ (D_X12_isOwnHere_0.at 46 rfl) ?_
    refine J_aload_n 100 rfl 0 1 rfl ⟨by decide, by decide⟩ (D_X12_isOwnHere_0.at 47 rfl) ?_
    refine J_getF (ov := 79) (dd := 1011) 103 rfl fl_12_45 rfl (by decide) rfl ob_68 (Ob.lt ob_68) (D_X12_isOwnHere_1.at 0 rfl) ?_
    refine J_callV (d' := 2) (sr := fun z => [vI z]) (as := [vR 79]) (st := []) (o := 68) 106 rfl ok_X12_isHere im_X12_isHere se_X12_isHere ml_12_250 isC_12 ob_68 (Ob.lt ob_68) rfl (by decide) ⟨Nat.le_refl _, Nat.le_refl _⟩ (Nat.le_of_ble_eq_true rfl) (D_X12_isOwnHere_1.at 1 rfl) (fun _ => rfl) T (fun r25 h26 T b27 => ?_)
    replace T := T b27
    refine J_if_ne 109 rfl 142 (inR_b b27) (D_X12_isOwnHere_1.at 2 rfl) (by decide) (fun c80 => ?_) (fun c80 => ?_)
    · replace T := T.1 c80
      exact J_sub (lv' := [(0, vR 68)]) [1] rfl T
    replace T := T.2 c80
    refine J_aload_n 110 rfl 0 1 rfl ⟨by decide, by decide⟩ (D_X12_isOwnHere_1.at 3 rfl) ?_
    refine J_aload_n 111 rfl 0 1 rfl ⟨by decide, by decide⟩ (D_X12_isOwnHere_1.at 4 rfl) ?_
    refine J_getF (ov := 80) (dd := 1012) 114 rfl fl_12_48 rfl (by decide) rfl ob_68 (Ob.lt ob_68) (D_X12_isOwnHere_1.at 5 rfl) ?_
    refine J_callV (d' := 2) (sr := fun z => [vI z]) (as := [vR 80]) (st := []) (o := 68) 117 rfl ok_X12_isHere im_X12_isHere se_X12_isHere ml_12_250 isC_12 ob_68 (Ob.lt ob_68) rfl (by decide) ⟨Nat.le_refl _, Nat.le_refl _⟩ (Nat.le_of_ble_eq_true rfl) (D_X12_isOwnHere_1.at 6 rfl) (fun _ => rfl) T (fun r28 h29 T b30 => ?_)
    replace T := T b30
    refine J_if_ne 120 rfl 142 (inR_b b30) (D_X12_isOwnHere_1.at 7 rfl) (by decide) (fun c79 => ?_) (fun c79 => ?_)
    · replace T := T.1 c79
      exact J_sub (lv' := [(0, vR 68)]) [1] rfl T
    replace T := T.2 c79
    refine J_aload_n 121 rfl 0 1 rfl ⟨by decide, by decide⟩ (D_X12_isOwnHere_1.at 8 rfl) ?_
    refine J_aload_n 122 rfl 0 1 rfl ⟨by decide, by decide⟩ (D_X12_isOwnHere_1.at 9 rfl) ?_
    refine J_getF (ov := 81) (dd := 1013) 125 rfl fl_12_51 rfl (by decide) rfl ob_68 (Ob.lt ob_68) (D_X12_isOwnHere_1.at 10 rfl) ?_
    refine J_callV (d' := 2) (sr := fun z => [vI z]) (as := [vR 81]) (st := []) (o := 68) 128 rfl ok_X12_isHere im_X12_isHere se_X12_isHere ml_12_250 isC_12 ob_68 (Ob.lt ob_68) rfl (by decide) ⟨Nat.le_refl _, Nat.le_refl _⟩ (Nat.le_of_ble_eq_true rfl) (D_X12_isOwnHere_1.at 11 rfl) (fun _ => rfl) T (fun r31 h32 T b33 => ?_)
    replace T := T b33
    refine J_if_ne 131 rfl 142 (inR_b b33) (D_X12_isOwnHere_1.at 12 rfl) (by decide) (fun c78 => ?_) (fun c78 => ?_)
    · replace T := T.1 c78
      exact J_sub (lv' := [(0, vR 68)]) [1] rfl T
    replace T := T.2 c78
    refine J_aload_n 132 rfl 0 1 rfl ⟨by decide, by decide⟩ (D_X12_isOwnHere_1.at 13 rfl) ?_
    refine J_aload_n 133 rfl 0 1 rfl ⟨by decide, by decide⟩ (D_X12_isOwnHere_1.at 14 rfl) ?_
    refine J_getF (ov := 82) (dd := 1014) 136 rfl fl_12_54 rfl (by decide) rfl ob_68 (Ob.lt ob_68) (D_X12_isOwnHere_1.at 15 rfl) ?_
    refine J_callV (d' := 2) (sr := fun z => [vI z]) (as := [vR 82]) (st := []) (o := 68) 139 rfl ok_X12_isHere im_X12_isHere se_X12_isHere ml_12_250 isC_12 ob_68 (Ob.lt ob_68) rfl (by decide) ⟨Nat.le_refl _, Nat.le_refl _⟩ (Nat.le_of_ble_eq_true rfl) (D_X12_isOwnHere_1.at 16 rfl) (fun _ => rfl) T (fun r34 h35 T b36 => ?_)
    replace T := T b36
    refine J_if_eq 142 rfl 146 (inR_b b36) (D_X12_isOwnHere_1.at 17 rfl) (by decide) (fun c77 => ?_) (fun c77 => ?_)
    · replace T := T.1 c77
      refine J_iconst 147 rfl (D_X12_isOwnHere_1.at 20 rfl) ?_
      refine J_istore_n (lv' := [(1, vI 0), (0, vR 68)]) 148 rfl 1 (by decide) rfl (D_X12_isOwnHere_1.at 21 rfl) ?_
      refine J_iload_n 149 rfl 1 0 rfl (D_X12_isOwnHere_1.at 22 rfl) ?_
      refine J_if_ne 152 rfl 218 ⟨by decide, by decide⟩ (D_X12_isOwnHere_1.at 23 rfl) (by decide) (fun c => absurd c (by decide)) (fun _ => ?_)
      refine J_aload_n 153 rfl 0 1 rfl ⟨by decide, by decide⟩ (D_X12_isOwnHere_1.at 24 rfl) ?_
      refine J_aload_n 154 rfl 0 1 rfl ⟨by decide, by decide⟩ (D_X12_isOwnHere_1.at 25 rfl) ?_
      refine J_getF (ov := 83) (dd := 1015) 157 rfl fl_12_57 rfl (by decide) rfl ob_68 (Ob.lt ob_68) (D_X12_isOwnHere_1.at 26 rfl) ?_
      refine J_callV (d' := 2) (sr := fun z => [vI z]) (as := [vR 83]) (st := []) (o := 68) 160 rfl ok_X12_isHere im_X12_isHere se_X12_isHere ml_12_250 isC_12 ob_68 (Ob.lt ob_68) rfl (by decide) ⟨Nat.le_refl _, Nat.le_refl _⟩ (Nat.le_of_ble_eq_true rfl) (D_X12_isOwnHere_1.at 27 rfl) (fun _ => rfl) T (fun r37 h38 T b39 => ?_)
      replace T := T b39
      refine J_if_ne 163 rfl 218 (inR_b b39) (D_X12_isOwnHere_1.at 28 rfl) (by decide) (fun c76 => ?_) (fun c76 => ?_)
      · replace T := T.1 c76
        exact J_sub (lv' := [(0, vR 68)]) [1] rfl T
      replace T := T.2 c76
      refine J_aload_n 164 rfl 0 1 rfl ⟨by decide, by decide⟩ (D_X12_isOwnHere_1.at 29 rfl) ?_
      refine J_aload_n 165 rfl 0 1 rfl ⟨by decide, by decide⟩ (D_X12_isOwnHere_1.at 30 rfl) ?_
      refine J_getF (ov := 84) (dd := 1016) 168 rfl fl_12_60 rfl (by decide) rfl ob_68 (Ob.lt ob_68) (D_X12_isOwnHere_1.at 31 rfl) ?_
      refine J_callV (d' := 2) (sr := fun z => [vI z]) (as := [vR 84]) (st := []) (o := 68) 171 rfl ok_X12_isHere im_X12_isHere se_X12_isHere ml_12_250 isC_12 ob_68 (Ob.lt ob_68) rfl (by decide) ⟨Nat.le_refl _, Nat.le_refl _⟩ (Nat.le_of_ble_eq_true rfl) (D_X12_isOwnHere_1.at 32 rfl) (fun _ => rfl) T (fun r40 h41 T b42 => ?_)
      replace T := T b42
      refine J_if_ne 174 rfl 218 (inR_b b42) (D_X12_isOwnHere_1.at 33 rfl) (by decide) (fun c75 => ?_) (fun c75 => ?_)
      · replace T := T.1 c75
        exact J_sub (lv' := [(0, vR 68)]) [1] rfl T
      replace T := T.2 c75
      refine J_aload_n 175 rfl 0 1 rfl ⟨by decide, by decide⟩ (D_X12_isOwnHere_1.at 34 rfl) ?_
      refine J_aload_n 176 rfl 0 1 rfl ⟨by decide, by decide⟩ (D_X12_isOwnHere_1.at 35 rfl) ?_
      refine J_getF (ov := 85) (dd := 1017) 179 rfl fl_12_63 rfl (by decide) rfl ob_68 (Ob.lt ob_68) (D_X12_isOwnHere_1.at 36 rfl) ?_
      refine J_callV (d' := 2) (sr := fun z => [vI z]) (as := [vR 85]) (st := []) (o := 68) 182 rfl ok_X12_isHere im_X12_isHere se_X12_isHere ml_12_250 isC_12 ob_68 (Ob.lt ob_68) rfl (by decide) ⟨Nat.le_refl _, Nat.le_refl _⟩ (Nat.le_of_ble_eq_true rfl) (D_X12_isOwnHere_1.at 37 rfl) (fun _ => rfl) T (fun r43 h44 T b45 => ?_)
      replace T := T b45
      refine J_if_ne 185 rfl 218 (inR_b b45) (D_X12_isOwnHere_1.at 38 rfl) (by decide) (fun c74 => ?_) (fun c74 => ?_)
      · replace T := T.1 c74
        exact J_sub (lv' := [(0, vR 68)]) [1] rfl T
      replace T := T.2 c74
      refine J_aload_n 186 rfl 0 1 rfl ⟨by decide, by decide⟩ (D_X12_isOwnHere_1.at 39 rfl) ?_
      refine J_aload_n 187 rfl 0 1 rfl ⟨by decide, by decide⟩ (D_X12_isOwnHere_1.at 40 rfl) ?_
      refine J_getF (ov := 86) (dd := 1018) 190 rfl fl_12_66 rfl (by decide) rfl ob_68 (Ob.lt ob_68) (D_X12_isOwnHere_1.at 41 rfl) ?_
      refine J_callV (d' := 2) (sr := fun z => [vI z]) (as := [vR 86]) (st := []) (o := 68) 193 rfl ok_X12_isHere im_X12_isHere se_X12_isHere ml_12_250 isC_12 ob_68 (Ob.lt ob_68) rfl (by decide) ⟨Nat.le_refl _, Nat.le_refl _⟩ (Nat.le_of_ble_eq_true rfl) (D_X12_isOwnHere_1.at 42 rfl) (fun _ => rfl) T (fun r46 h47 T b48 => ?_)
      replace T := T b48
      refine J_if_ne 196 rfl 218 (inR_b b48) (D_X12_isOwnHere_1.at 43 rfl) (by decide) (fun c73 => ?_) (fun c73 => ?_)
      · replace T := T.1 c73
        exact J_sub (lv' := [(0, vR 68)]) [1] rfl T
      replace T := T.2 c73
      refine J_aload_n 197 rfl 0 1 rfl ⟨by decide, by decide⟩ (D_X12_isOwnHere_1.at 44 rfl) ?_
      refine J_aload_n 198 rfl 0 1 rfl ⟨by decide, by decide⟩ (D_X12_isOwnHere_1.at 45 rfl) ?_
      refine J_getF (ov := 87) (dd := 1019) 201 rfl fl_12_69 rfl (by decide) rfl ob_68 (Ob.lt ob_68) (D_X12_isOwnHere_1.at 46 rfl) ?_
      refine J_callV (d' := 2) (sr := fun z => [vI z]) (as := [vR 87]) (st := []) (o := 68) 204 rfl ok_X12_isHere im_X12_isHere se_X12_isHere ml_12_250 isC_12 ob_68 (Ob.lt ob_68) rfl (by decide) ⟨Nat.le_refl _, Nat.le_refl _⟩ (Nat.le_of_ble_eq_true rfl) (D_X12_isOwnHere_1.at 47 rfl) (fun _ => rfl) T (fun r49 h50 T b51 => ?_)
      replace T := T b51
      refine J_if_ne 207 rfl 218 (inR_b b51) (D_X12_isOwnHere_2.at 0 rfl) (by decide) (fun c72 => ?_) (fun c72 => ?_)
      · replace T := T.1 c72
        exact J_sub (lv' := [(0, vR 68)]) [1] rfl T
      replace T := T.2 c72
      refine J_aload_n 208 rfl 0 1 rfl ⟨by decide, by decide⟩ (D_X12_isOwnHere_2.at 1 rfl) ?_
      refine J_aload_n 209 rfl 0 1 rfl ⟨by decide, by decide⟩ (D_X12_isOwnHere_2.at 2 rfl) ?_
      refine J_getF (ov := 88) (dd := 1020) 212 rfl fl_12_72 rfl (by decide) rfl ob_68 (Ob.lt ob_68) (D_X12_isOwnHere_2.at 3 rfl) ?_
      refine J_callV (d' := 2) (sr := fun z => [vI z]) (as := [vR 88]) (st := []) (o := 68) 215 rfl ok_X12_isHere im_X12_isHere se_X12_isHere ml_12_250 isC_12 ob_68 (Ob.lt ob_68) rfl (by decide) ⟨Nat.le_refl _, Nat.le_refl _⟩ (Nat.le_of_ble_eq_true rfl) (D_X12_isOwnHere_2.at 4 rfl) (fun _ => rfl) T (fun r52 h53 T b54 => ?_)
      replace T := T b54
      refine J_if_eq 218 rfl 222 (inR_b b54) (D_X12_isOwnHere_2.at 5 rfl) (by decide) (fun c71 => ?_) (fun c71 => ?_)
      · replace T := T.1 c71
        refine J_iconst 223 rfl (D_X12_isOwnHere_2.at 8 rfl) ?_
        refine J_istore_n (lv' := [(1, vI 0), (0, vR 68)]) 224 rfl 1 (by decide) rfl (D_X12_isOwnHere_2.at 9 rfl) ?_
        refine J_iload_n 225 rfl 1 0 rfl (D_X12_isOwnHere_2.at 10 rfl) ?_
        refine J_if_ne 228 rfl 272 ⟨by decide, by decide⟩ (D_X12_isOwnHere_2.at 11 rfl) (by decide) (fun c => absurd c (by decide)) (fun _ => ?_)
        refine J_aload_n 229 rfl 0 1 rfl ⟨by decide, by decide⟩ (D_X12_isOwnHere_2.at 12 rfl) ?_
        refine J_aload_n 230 rfl 0 1 rfl ⟨by decide, by decide⟩ (D_X12_isOwnHere_2.at 13 rfl) ?_
        refine J_getF (ov := 89) (dd := 1021) 233 rfl fl_12_75 rfl (by decide) rfl ob_68 (Ob.lt ob_68) (D_X12_isOwnHere_2.at 14 rfl) ?_
        refine J_callV (d' := 2) (sr := fun z => [vI z]) (as := [vR 89]) (st := []) (o := 68) 236 rfl ok_X12_isHere im_X12_isHere se_X12_isHere ml_12_250 isC_12 ob_68 (Ob.lt ob_68) rfl (by decide) ⟨Nat.le_refl _, Nat.le_refl _⟩ (Nat.le_of_ble_eq_true rfl) (D_X12_isOwnHere_2.at 15 rfl) (fun _ => rfl) T (fun r55 h56 T b57 => ?_)
        replace T := T b57
        refine J_if_ne 239 rfl 272 (inR_b b57) (D_X12_isOwnHere_2.at 16 rfl) (by decide) (fun c70 => ?_) (fun c70 => ?_)
        · replace T := T.1 c70
          exact J_sub (lv' := []) [] rfl T
        replace T := T.2 c70
        refine J_aload_n 240 rfl 0 1 rfl ⟨by decide, by decide⟩ (D_X12_isOwnHere_2.at 17 rfl) ?_
        refine J_aload_n 241 rfl 0 1 rfl ⟨by decide, by decide⟩ (D_X12_isOwnHere_2.at 18 rfl) ?_
        refine J_getF (ov := 90) (dd := 1022) 244 rfl fl_12_78 rfl (by decide) rfl ob_68 (Ob.lt ob_68) (D_X12_isOwnHere_2.at 19 rfl) ?_
        refine J_callV (d' := 2) (sr := fun z => [vI z]) (as := [vR 90]) (st := []) (o := 68) 247 rfl ok_X12_isHere im_X12_isHere se_X12_isHere ml_12_250 isC_12 ob_68 (Ob.lt ob_68) rfl (by decide) ⟨Nat.le_refl _, Nat.le_refl _⟩ (Nat.le_of_ble_eq_true rfl) (D_X12_isOwnHere_2.at 20 rfl) (fun _ => rfl) T (fun r58 h59 T b60 => ?_)
        replace T := T b60
        refine J_if_ne 250 rfl 272 (inR_b b60) (D_X12_isOwnHere_2.at 21 rfl) (by decide) (fun c69 => ?_) (fun c69 => ?_)
        · replace T := T.1 c69
          exact J_sub (lv' := []) [] rfl T
        replace T := T.2 c69
        refine J_aload_n 251 rfl 0 1 rfl ⟨by decide, by decide⟩ (D_X12_isOwnHere_2.at 22 rfl) ?_
        refine J_aload_n 252 rfl 0 1 rfl ⟨by decide, by decide⟩ (D_X12_isOwnHere_2.at 23 rfl) ?_
        refine J_getF (ov := 91) (dd := 1023) 255 rfl fl_12_81 rfl (by decide) rfl ob_68 (Ob.lt ob_68) (D_X12_isOwnHere_2.at 24 rfl) ?_
        refine J_callV (d' := 2) (sr := fun z => [vI z]) (as := [vR 91]) (st := []) (o := 68) 258 rfl ok_X12_isHere im_X12_isHere se_X12_isHere ml_12_250 isC_12 ob_68 (Ob.lt ob_68) rfl (by decide) ⟨Nat.le_refl _, Nat.le_refl _⟩ (Nat.le_of_ble_eq_true rfl) (D_X12_isOwnHere_2.at 25 rfl) (fun _ => rfl) T (fun r61 h62 T b63 => ?_)
        replace T := T b63
        refine J_if_ne 261 rfl 272 (inR_b b63) (D_X12_isOwnHere_2.at 26 rfl) (by decide) (fun c68 => ?_) (fun c68 => ?_)
        · replace T := T.1 c68
          exact J_sub (lv' := []) [] rfl T
        replace T := T.2 c68
        refine J_aload_n 262 rfl 0 1 rfl ⟨by decide, by decide⟩ (D_X12_isOwnHere_2.at 27 rfl) ?_
        refine J_aload_n 263 rfl 0 1 rfl ⟨by decide, by decide⟩ (D_X12_isOwnHere_2.at 28 rfl) ?_
        refine J_getF (ov := 92) (dd := 1024) 266 rfl fl_12_84 rfl (by decide) rfl ob_68 (Ob.lt ob_68) (D_X12_isOwnHere_2.at 29 rfl) ?_
        refine J_callV (d' := 2) (sr := fun z => [vI z]) (as := [vR 92]) (st := []) (o := 68) 269 rfl ok_X12_isHere im_X12_isHere se_X12_isHere ml_12_250 isC_12 ob_68 (Ob.lt ob_68) rfl (by decide) ⟨Nat.le_refl _, Nat.le_refl _⟩ (Nat.le_of_ble_eq_true rfl) (D_X12_isOwnHere_2.at 30 rfl) (fun _ => rfl) T (fun r64 h65 T b66 => ?_)
        replace T := T b66
        refine J_if_eq 272 rfl 276 (inR_b b66) (D_X12_isOwnHere_2.at 31 rfl) (by decide) (fun c67 => ?_) (fun c67 => ?_)
        · replace T := T.1 c67
          refine J_iconst 277 rfl (D_X12_isOwnHere_2.at 34 rfl) ?_
          refine J_istore_n (lv' := [(1, vI 0), (0, vR 68)]) 278 rfl 1 (by decide) rfl (D_X12_isOwnHere_2.at 35 rfl) ?_
          refine J_iload_n 279 rfl 1 0 rfl (D_X12_isOwnHere_2.at 36 rfl) ?_
          exact J_zret rfl (Or.inl rfl) (D_X12_isOwnHere_2.at 37 rfl) T
        replace T := T.2 c67
        exact J_sub (lv' := []) [] rfl T
      replace T := T.2 c71
      exact J_sub (lv' := [(0, vR 68)]) [1] rfl T
    replace T := T.2 c77
    exact J_sub (lv' := [(0, vR 68)]) [1] rfl T
  replace T := T.2 c83
  exact T
theorem l_X12_isOwnHere_272 {w : Wd} {h : Hp} {K : Int → Hp → Prop} (T : K 1 h) : L_X12_isOwnHere_272 w h K := by
  unfold L_X12_isOwnHere_272
  refine J_iconst 273 rfl (D_X12_isOwnHere_2.at 32 rfl) ?_
  refine J_goto 277 (D_X12_isOwnHere_2.at 33 rfl) (by decide) ?_
  refine J_istore_n (lv' := [(1, vI 1)]) 278 rfl 1 (by decide) rfl (D_X12_isOwnHere_2.at 35 rfl) ?_
  refine J_iload_n 279 rfl 1 0 rfl (D_X12_isOwnHere_2.at 36 rfl) ?_
  exact J_zret rfl (Or.inr rfl) (D_X12_isOwnHere_2.at 37 rfl) T
theorem l_X12_isOwnHere_218 {w : Wd} {h : Hp} {K : Int → Hp → Prop} (T : L_X12_isOwnHere_272 w h K) : L_X12_isOwnHere_218 w h K := by
  unfold L_X12_isOwnHere_218
  refine J_iconst 219 rfl (D_X12_isOwnHere_2.at 6 rfl) ?_
  refine J_goto 223 (D_X12_isOwnHere_2.at 7 rfl) (by decide) ?_
  refine J_istore_n (lv' := [(1, vI 1), (0, vR 68)]) 224 rfl 1 (by decide) rfl (D_X12_isOwnHere_2.at 9 rfl) ?_
  refine J_iload_n 225 rfl 1 0 rfl (D_X12_isOwnHere_2.at 10 rfl) ?_
  refine J_if_ne 228 rfl 272 ⟨by decide, by decide⟩ (D_X12_isOwnHere_2.at 11 rfl) (by decide) (fun _ => ?_) (fun c => absurd (by decide) c)
  exact J_sub (lv' := []) [] rfl T
theorem l_X12_isOwnHere_142 {w : Wd} {h : Hp} {K : Int → Hp → Prop} (T : L_X12_isOwnHere_218 w h K) : L_X12_isOwnHere_142 w h K := by
  unfold L_X12_isOwnHere_142
  refine J_iconst 143 rfl (D_X12_isOwnHere_1.at 18 rfl) ?_
  refine J_goto 147 (D_X12_isOwnHere_1.at 19 rfl) (by decide) ?_
  refine J_istore_n (lv' := [(1, vI 1), (0, vR 68)]) 148 rfl 1 (by decide) rfl (D_X12_isOwnHere_1.at 21 rfl) ?_
  refine J_iload_n 149 rfl 1 0 rfl (D_X12_isOwnHere_1.at 22 rfl) ?_
  refine J_if_ne 152 rfl 218 ⟨by decide, by decide⟩ (D_X12_isOwnHere_1.at 23 rfl) (by decide) (fun _ => ?_) (fun c => absurd (by decide) c)
  exact J_sub (lv' := [(0, vR 68)]) [1] rfl T
theorem l_X12_isOwnHere_66 {w : Wd} {h : Hp} {K : Int → Hp → Prop} (T : L_X12_isOwnHere_142 w h K) : L_X12_isOwnHere_66 w h K := by
  unfold L_X12_isOwnHere_66
  refine J_iconst 67 rfl (D_X12_isOwnHere_0.at 30 rfl) ?_
  refine J_goto 71 (D_X12_isOwnHere_0.at 31 rfl) (by decide) ?_
  refine J_istore_n (lv' := [(1, vI 1), (0, vR 68)]) 72 rfl 1 (by decide) rfl (D_X12_isOwnHere_0.at 33 rfl) ?_
  refine J_iload_n 73 rfl 1 0 rfl (D_X12_isOwnHere_0.at 34 rfl) ?_
  refine J_if_ne 76 rfl 142 ⟨by decide, by decide⟩ (D_X12_isOwnHere_0.at 35 rfl) (by decide) (fun _ => ?_) (fun c => absurd (by decide) c)
  exact J_sub (lv' := [(0, vR 68)]) [1] rfl T
theorem c_X12_dropsToMark {w : Wd} {h : Hp} {K : Int → Hp → Prop} (T : L_X12_dropsToMark_0 w h K) : C_X12_dropsToMark w h K := by
  refine CGm_of2 (by decide) (by decide) trivial (Nat.le_of_ble_eq_true rfl) ?_
  exact T
theorem l_X12_dropsToMark_0 {w : Wd} {h : Hp} {K : Int → Hp → Prop} (T : (inR (h 68 46)) ∧ ((inR (h 68 48)) ∧ ((((h 68 46) ≤ (h 68 48)) → (K 0 h)) ∧ (¬ ((h 68 46) ≤ (h 68 48)) → ((0 ≤ ((h 68 46) - 1) ∧ ((h 68 46) - 1) < 1700) ∧ (C_X12_isMark w (h 101 ((h 68 46) - 1)) h (fun r4 h5 => (r4 = 0 ∨ r4 = 1) → ((r4 ≠ 0) → (K 0 h5)) ∧ (¬ (r4 ≠ 0) → (C_X12_drops w h5 (fun _ h8 => L_X12_dropsToMark_0 w h8 K)))))))))) : L_X12_dropsToMark_0 w h K := by
  unfold L_X12_dropsToMark_0
  refine J_aload_n 1 rfl 0 0 rfl ⟨by decide, by decide⟩ (D_X12_dropsToMark_0.at 0 rfl) ?_
  refine J_getI (z := (h 68 46)) 4 rfl fl_12_315 rfl ob_68 (Ob.lt ob_68) (D_X12_dropsToMark_0.at 1 rfl) rfl ?_
  refine J_aload_n 5 rfl 0 0 rfl ⟨by decide, by decide⟩ (D_X12_dropsToMark_0.at 2 rfl) ?_
  refine J_getI (z := (h 68 48)) 8 rfl fl_12_321 rfl ob_68 (Ob.lt ob_68) (D_X12_dropsToMark_0.at 3 rfl) rfl ?_
  obtain ⟨s1, T⟩ := T
  obtain ⟨s2, T⟩ := T
  refine J_icmp_le 11 rfl 36 s1 s2 (D_X12_dropsToMark_0.at 4 rfl) (by decide) (fun c11 => ?_) (fun c11 => ?_)
  · replace T := T.1 c11
    exact J_vret rfl (D_X12_dropsToMark_0.at 18 rfl) T
  replace T := T.2 c11
  refine J_aload_n 12 rfl 0 0 rfl ⟨by decide, by decide⟩ (D_X12_dropsToMark_0.at 5 rfl) ?_
  refine J_aload_n 13 rfl 0 0 rfl ⟨by decide, by decide⟩ (D_X12_dropsToMark_0.at 6 rfl) ?_
  refine J_getF (ov := 101) (dd := 1033) 16 rfl fl_12_112 rfl (by decide) rfl ob_68 (Ob.lt ob_68) (D_X12_dropsToMark_0.at 7 rfl) ?_
  refine J_aload_n 17 rfl 0 0 rfl ⟨by decide, by decide⟩ (D_X12_dropsToMark_0.at 8 rfl) ?_
  refine J_getI (z := (h 68 46)) 20 rfl fl_12_315 rfl ob_68 (Ob.lt ob_68) (D_X12_dropsToMark_0.at 9 rfl) rfl ?_
  refine J_iconst 21 rfl (D_X12_dropsToMark_0.at 10 rfl) ?_
  refine J_isub 22 rfl (D_X12_dropsToMark_0.at 11 rfl) ?_
  obtain ⟨s3, T⟩ := T
  refine J_iald 23 rfl ar_101 (Ar.lt ar_101) s3 (D_X12_dropsToMark_0.at 12 rfl) ?_
  refine J_callV (d' := 1) (sr := fun z => [vI z]) (as := [vI (h 101 ((h 68 46) - 1))]) (st := []) (o := 68) 26 rfl ok_X12_isMark im_X12_isMark se_X12_isMark ml_12_369 isC_12 ob_68 (Ob.lt ob_68) rfl (by decide) ⟨Nat.le_refl _, Nat.le_refl _⟩ (Nat.le_of_ble_eq_true rfl) (D_X12_dropsToMark_0.at 13 rfl) (fun _ => rfl) T (fun r4 h5 T b6 => ?_)
  replace T := T b6
  refine J_if_ne 29 rfl 36 (inR_b b6) (D_X12_dropsToMark_0.at 14 rfl) (by decide) (fun c10 => ?_) (fun c10 => ?_)
  · replace T := T.1 c10
    exact J_vret rfl (D_X12_dropsToMark_0.at 18 rfl) T
  replace T := T.2 c10
  refine J_aload_n 30 rfl 0 0 rfl ⟨by decide, by decide⟩ (D_X12_dropsToMark_0.at 15 rfl) ?_
  refine J_callV (d' := 2) (sr := fun z => []) (as := []) (st := []) (o := 68) 33 rfl ok_X12_drops im_X12_drops se_X12_drops ml_12_372 isC_12 ob_68 (Ob.lt ob_68) rfl (by decide) ⟨Nat.le_refl _, Nat.le_refl _⟩ (Nat.le_of_ble_eq_true rfl) (D_X12_dropsToMark_0.at 16 rfl) (fun _ => rfl) T (fun r7 h8 T b9 => ?_)
  refine J_goto 0 (D_X12_dropsToMark_0.at 17 rfl) (by decide) ?_
  exact T
theorem c_X12_bank {w : Wd} {a1 a2 : Int} {h : Hp} {K : Int → Hp → Prop} (T : (inR a1) ∧ ((inR ((h 93 5) - 1)) ∧ ((inL a1) ∧ (((a1 < 0) → (K (-1) h)) ∧ (¬ (a1 < 0) → ((inL a1) ∧ ((inL ((h 93 5) - 1)) ∧ (((a1 > ((h 93 5) - 1)) → (K (-1) h)) ∧ (¬ (a1 > ((h 93 5) - 1)) → ((inR a2) ∧ ((a2 = 0 → (0 ≤ ((50 + (5 * a1)) + a2) ∧ ((50 + (5 * a1)) + a2) < 100) ∧ (K (h 96 ((50 + (5 * a1)) + a2)) h)) ∧ (a2 = 1 → (0 ≤ ((50 + (5 * a1)) + a2) ∧ ((50 + (5 * a1)) + a2) < 100) ∧ (K (h 96 ((50 + (5 * a1)) + a2)) h)) ∧ (a2 = 2 → (0 ≤ ((50 + (5 * a1)) + a2) ∧ ((50 + (5 * a1)) + a2) < 100) ∧ (K (h 96 ((50 + (5 * a1)) + a2)) h)) ∧ (a2 = 3 → (0 ≤ ((50 + (5 * a1)) + 4) ∧ ((50 + (5 * a1)) + 4) < 100) ∧ (K (h 96 ((50 + (5 * a1)) + 4)) h)) ∧ (a2 = 4 → (0 ≤ (9 + a1) ∧ (9 + a1) < 109) ∧ (K (h 104 (9 + a1)) h)) ∧ (a2 = 5 → C_X12_lyingOf w a1 h (fun r13 h14 => K r13 h14)) ∧ (a2 = 6 → (0 ≤ (19 + a1) ∧ (19 + a1) < 109) ∧ (K (h 104 (19 + a1)) h)) ∧ ((a2 < 0 ∨ 6 < a2) → K (-1) h)))))))))))) : C_X12_bank w a1 a2 h K := by
  refine CGm_of2 (by decide) (by decide) trivial (Nat.le_of_ble_eq_true rfl) ?_
  refine J_aload_n 1 rfl 0 0 rfl ⟨by decide, by decide⟩ (D_X12_bank_0.at 0 rfl) ?_
  refine J_iload_n 2 rfl 1 1 rfl (D_X12_bank_0.at 1 rfl) ?_
  refine J_callV (d' := 2) (K1 := fun z h0 => rok (some .boolean) z → JG w true m_X12_bank 3 NT NT 5 [(0, vR 68), (1, vI a1), (2, vI a2)] [vI z] h0 _) (sr := fun z => [vI z]) (as := [vI a1]) (st := []) (o := 68) 5 rfl ok_X12_isBank im_X12_isBank se_X12_isBank ml_12_481 isC_12 ob_68 (Ob.lt ob_68) rfl (by decide) ⟨Nat.le_refl _, Nat.le_refl _⟩ (Nat.le_of_ble_eq_true rfl) (D_X12_bank_0.at 2 rfl) (fun _ => rfl) (CGm_of2 (by decide) (by decide) trivial (Nat.le_of_ble_eq_true rfl) ?_) (fun _ _ kq hb => kq hb)
  refine J_iload_n 1 rfl 1 1 rfl (D_X12_isBank_0.at 0 rfl) ?_
  obtain ⟨s1, T⟩ := T
  refine J_i2l 2 rfl s1 (D_X12_isBank_0.at 1 rfl) ?_
  refine J_lconst (z := 0) 3 rfl rfl (D_X12_isBank_0.at 2 rfl) ?_
  refine J_aload_n 4 rfl 0 0 rfl ⟨by decide, by decide⟩ (D_X12_isBank_0.at 3 rfl) ?_
  refine J_callV (d' := 1) (K1 := fun z h0 => rok (some .int) z → JG w true m_X12_isBank 2 NT NT 7 [(0, vR 68), (1, vI a1)] [vI z, vL 0, vL a1] h0 _) (sr := fun z => [vI z, vL 0, vL a1]) (as := []) (st := [vL 0, vL a1]) (o := 68) 7 rfl ok_X12_bankMany im_X12_bankMany se_X12_bankMany ml_12_419 isC_12 ob_68 (Ob.lt ob_68) rfl (by decide) ⟨Nat.le_refl _, Nat.le_refl _⟩ (Nat.le_of_ble_eq_true rfl) (D_X12_isBank_0.at 4 rfl) (fun _ => rfl) (CGm_of2 (by decide) (by decide) trivial (Nat.le_of_ble_eq_true rfl) ?_) (fun _ _ kq hb => kq hb)
  refine J_aload_n 1 rfl 0 0 rfl ⟨by decide, by decide⟩ (D_X12_bankMany_0.at 0 rfl) ?_
  refine J_getF (ov := 93) (dd := 1025) 4 rfl fl_12_87 rfl (by decide) rfl ob_68 (Ob.lt ob_68) (D_X12_bankMany_0.at 1 rfl) ?_
  refine J_iconst 5 rfl (D_X12_bankMany_0.at 2 rfl) ?_
  refine J_iald 6 rfl ar_93 (Ar.lt ar_93) ⟨by decide, by decide⟩ (D_X12_bankMany_0.at 3 rfl) ?_
  refine J_iret rfl (D_X12_bankMany_0.at 4 rfl) (fun _ => ?_)
  refine J_iconst 8 rfl (D_X12_isBank_0.at 5 rfl) ?_
  refine J_isub 9 rfl (D_X12_isBank_0.at 6 rfl) ?_
  obtain ⟨s2, T⟩ := T
  refine J_i2l 10 rfl s2 (D_X12_isBank_0.at 7 rfl) ?_
  refine J_callS (d' := 1) (K1 := fun z h0 => rok (some .boolean) z → JG w true m_X12_isBank 2 NT NT 13 [(0, vR 68), (1, vI a1)] [vI z] h0 _) (sr := fun z => [vI z]) (as := [vL a1, vL 0, vL ((h 93 5) - 1)]) (st := []) 13 rfl ok_X12_isIn sm_X12_isIn ml_12_267 rfl (by decide) ⟨Nat.le_refl _, Nat.le_refl _⟩ (Nat.le_of_ble_eq_true rfl) (D_X12_isBank_0.at 8 rfl) (fun _ => rfl) (CGm_of2 (by decide) (by decide) trivial (Nat.le_of_ble_eq_true rfl) ?_) (fun _ _ kq hb => kq hb)
  refine J_lload_n 1 rfl 0 0 rfl (D_X12_isIn_0.at 0 rfl) ?_
  refine J_lload_n 2 rfl 2 1 rfl (D_X12_isIn_0.at 1 rfl) ?_
  obtain ⟨s3, T⟩ := T
  refine J_lcmp_lt 6 rfl 17 s3 ⟨by decide, by decide⟩ (D_X12_isIn_0.at 2 rfl) (D_X12_isIn_0.at 3 rfl) (by decide) (fun c18 => ?_) (fun c18 => ?_)
  · replace T := T.1 c18
    refine J_iconst 18 rfl (D_X12_isIn_0.at 10 rfl) ?_
    refine J_zret rfl (Or.inl rfl) (D_X12_isIn_0.at 11 rfl) (fun _ => ?_)
    refine J_zret rfl (Or.inl rfl) (D_X12_isBank_0.at 9 rfl) (fun _ => ?_)
    refine J_if_ne 8 rfl 10 ⟨by decide, by decide⟩ (D_X12_bank_0.at 3 rfl) (by decide) (fun c => absurd c (by decide)) (fun _ => ?_)
    refine J_iconst 9 rfl (D_X12_bank_0.at 4 rfl) ?_
    exact J_iret rfl (D_X12_bank_0.at 5 rfl) T
  replace T := T.2 c18
  refine J_lload_n 7 rfl 0 0 rfl (D_X12_isIn_0.at 4 rfl) ?_
  refine J_lload 9 rfl 4 2 rfl (D_X12_isIn_0.at 5 rfl) ?_
  obtain ⟨s4, T⟩ := T
  obtain ⟨s5, T⟩ := T
  refine J_lcmp_gt 13 rfl 17 s4 s5 (D_X12_isIn_0.at 6 rfl) (D_X12_isIn_0.at 7 rfl) (by decide) (fun c17 => ?_) (fun c17 => ?_)
  · replace T := T.1 c17
    refine J_iconst 18 rfl (D_X12_isIn_0.at 10 rfl) ?_
    refine J_zret rfl (Or.inl rfl) (D_X12_isIn_0.at 11 rfl) (fun _ => ?_)
    refine J_zret rfl (Or.inl rfl) (D_X12_isBank_0.at 9 rfl) (fun _ => ?_)
    refine J_if_ne 8 rfl 10 ⟨by decide, by decide⟩ (D_X12_bank_0.at 3 rfl) (by decide) (fun c => absurd c (by decide)) (fun _ => ?_)
    refine J_iconst 9 rfl (D_X12_bank_0.at 4 rfl) ?_
    exact J_iret rfl (D_X12_bank_0.at 5 rfl) T
  replace T := T.2 c17
  refine J_iconst 14 rfl (D_X12_isIn_0.at 8 rfl) ?_
  refine J_goto 18 (D_X12_isIn_0.at 9 rfl) (by decide) ?_
  refine J_zret rfl (Or.inr rfl) (D_X12_isIn_0.at 11 rfl) (fun _ => ?_)
  refine J_zret rfl (Or.inr rfl) (D_X12_isBank_0.at 9 rfl) (fun _ => ?_)
  refine J_if_ne 8 rfl 10 ⟨by decide, by decide⟩ (D_X12_bank_0.at 3 rfl) (by decide) (fun _ => ?_) (fun c => absurd (by decide) c)
  refine J_iload_n 11 rfl 2 2 rfl (D_X12_bank_0.at 6 rfl) ?_
  obtain ⟨s6, T⟩ := T
  have tg : a2 = 0 ∨ a2 = 1 ∨ a2 = 2 ∨ a2 = 3 ∨ a2 = 4 ∨ a2 = 5 ∨ a2 = 6 ∨ (a2 < 0 ∨ 6 < a2) := by omega
  rcases tg with g7 | g7 | g7 | g7 | g7 | g7 | g7 | g7
  · replace T := T.1 g7
    refine J_tab 41 52 s6 (D_X12_bank_0.at 7 rfl) ⟨by omega, by omega⟩ (by rw [g7]; rfl) (by decide) ?_
    refine J_aload_n 53 rfl 0 0 rfl ⟨by decide, by decide⟩ (D_X12_bank_0.at 8 rfl) ?_
    refine J_iload_n 54 rfl 1 1 rfl (D_X12_bank_0.at 9 rfl) ?_
    refine J_iload_n 55 rfl 2 2 rfl (D_X12_bank_0.at 10 rfl) ?_
    refine J_callV (d' := 1) (K1 := fun z h0 => rok (some .int) z → JG w true m_X12_bank 3 NT NT 58 [(0, vR 68), (1, vI a1), (2, vI a2)] [vI z] h0 _) (sr := fun z => [vI z]) (as := [vI a1, vI a2]) (st := []) (o := 68) 58 rfl ok_X12_bankOf im_X12_bankOf se_X12_bankOf ml_12_430 isC_12 ob_68 (Ob.lt ob_68) rfl (by decide) ⟨Nat.le_refl _, Nat.le_refl _⟩ (Nat.le_of_ble_eq_true rfl) (D_X12_bank_0.at 11 rfl) (fun _ => rfl) (CGm_of2 (by decide) (by decide) trivial (Nat.le_of_ble_eq_true rfl) ?_) (fun _ _ kq hb => kq hb)
    refine J_aload_n 1 rfl 0 0 rfl ⟨by decide, by decide⟩ (D_X12_bankOf_0.at 0 rfl) ?_
    refine J_getF (ov := 96) (dd := 1028) 4 rfl fl_12_97 rfl (by decide) rfl ob_68 (Ob.lt ob_68) (D_X12_bankOf_0.at 1 rfl) ?_
    refine J_bipush 6 rfl ⟨by decide, by decide⟩ (D_X12_bankOf_0.at 2 rfl) ?_
    refine J_iconst 7 rfl (D_X12_bankOf_0.at 3 rfl) ?_
    refine J_iload_n 8 rfl 1 1 rfl (D_X12_bankOf_0.at 4 rfl) ?_
    refine J_imul 9 rfl (D_X12_bankOf_0.at 5 rfl) ?_
    refine J_iadd 10 rfl (D_X12_bankOf_0.at 6 rfl) ?_
    refine J_iload_n 11 rfl 2 2 rfl (D_X12_bankOf_0.at 7 rfl) ?_
    refine J_iadd 12 rfl (D_X12_bankOf_0.at 8 rfl) ?_
    obtain ⟨s8, T⟩ := T
    refine J_iald 13 rfl ar_96 (Ar.lt ar_96) s8 (D_X12_bankOf_0.at 9 rfl) ?_
    refine J_iret rfl (D_X12_bankOf_0.at 10 rfl) (fun _ => ?_)
    exact J_iret rfl (D_X12_bank_0.at 12 rfl) T
  · replace T := T.2.1 g7
    refine J_tab 41 52 s6 (D_X12_bank_0.at 7 rfl) ⟨by omega, by omega⟩ (by rw [g7]; rfl) (by decide) ?_
    refine J_aload_n 53 rfl 0 0 rfl ⟨by decide, by decide⟩ (D_X12_bank_0.at 8 rfl) ?_
    refine J_iload_n 54 rfl 1 1 rfl (D_X12_bank_0.at 9 rfl) ?_
    refine J_iload_n 55 rfl 2 2 rfl (D_X12_bank_0.at 10 rfl) ?_
    refine J_callV (d' := 1) (K1 := fun z h0 => rok (some .int) z → JG w true m_X12_bank 3 NT NT 58 [(0, vR 68), (1, vI a1), (2, vI a2)] [vI z] h0 _) (sr := fun z => [vI z]) (as := [vI a1, vI a2]) (st := []) (o := 68) 58 rfl ok_X12_bankOf im_X12_bankOf se_X12_bankOf ml_12_430 isC_12 ob_68 (Ob.lt ob_68) rfl (by decide) ⟨Nat.le_refl _, Nat.le_refl _⟩ (Nat.le_of_ble_eq_true rfl) (D_X12_bank_0.at 11 rfl) (fun _ => rfl) (CGm_of2 (by decide) (by decide) trivial (Nat.le_of_ble_eq_true rfl) ?_) (fun _ _ kq hb => kq hb)
    refine J_aload_n 1 rfl 0 0 rfl ⟨by decide, by decide⟩ (D_X12_bankOf_0.at 0 rfl) ?_
    refine J_getF (ov := 96) (dd := 1028) 4 rfl fl_12_97 rfl (by decide) rfl ob_68 (Ob.lt ob_68) (D_X12_bankOf_0.at 1 rfl) ?_
    refine J_bipush 6 rfl ⟨by decide, by decide⟩ (D_X12_bankOf_0.at 2 rfl) ?_
    refine J_iconst 7 rfl (D_X12_bankOf_0.at 3 rfl) ?_
    refine J_iload_n 8 rfl 1 1 rfl (D_X12_bankOf_0.at 4 rfl) ?_
    refine J_imul 9 rfl (D_X12_bankOf_0.at 5 rfl) ?_
    refine J_iadd 10 rfl (D_X12_bankOf_0.at 6 rfl) ?_
    refine J_iload_n 11 rfl 2 2 rfl (D_X12_bankOf_0.at 7 rfl) ?_
    refine J_iadd 12 rfl (D_X12_bankOf_0.at 8 rfl) ?_
    obtain ⟨s9, T⟩ := T
    refine J_iald 13 rfl ar_96 (Ar.lt ar_96) s9 (D_X12_bankOf_0.at 9 rfl) ?_
    refine J_iret rfl (D_X12_bankOf_0.at 10 rfl) (fun _ => ?_)
    exact J_iret rfl (D_X12_bank_0.at 12 rfl) T
  · replace T := T.2.2.1 g7
    refine J_tab 41 52 s6 (D_X12_bank_0.at 7 rfl) ⟨by omega, by omega⟩ (by rw [g7]; rfl) (by decide) ?_
    refine J_aload_n 53 rfl 0 0 rfl ⟨by decide, by decide⟩ (D_X12_bank_0.at 8 rfl) ?_
    refine J_iload_n 54 rfl 1 1 rfl (D_X12_bank_0.at 9 rfl) ?_
    refine J_iload_n 55 rfl 2 2 rfl (D_X12_bank_0.at 10 rfl) ?_
    refine J_callV (d' := 1) (K1 := fun z h0 => rok (some .int) z → JG w true m_X12_bank 3 NT NT 58 [(0, vR 68), (1, vI a1), (2, vI a2)] [vI z] h0 _) (sr := fun z => [vI z]) (as := [vI a1, vI a2]) (st := []) (o := 68) 58 rfl ok_X12_bankOf im_X12_bankOf se_X12_bankOf ml_12_430 isC_12 ob_68 (Ob.lt ob_68) rfl (by decide) ⟨Nat.le_refl _, Nat.le_refl _⟩ (Nat.le_of_ble_eq_true rfl) (D_X12_bank_0.at 11 rfl) (fun _ => rfl) (CGm_of2 (by decide) (by decide) trivial (Nat.le_of_ble_eq_true rfl) ?_) (fun _ _ kq hb => kq hb)
    refine J_aload_n 1 rfl 0 0 rfl ⟨by decide, by decide⟩ (D_X12_bankOf_0.at 0 rfl) ?_
    refine J_getF (ov := 96) (dd := 1028) 4 rfl fl_12_97 rfl (by decide) rfl ob_68 (Ob.lt ob_68) (D_X12_bankOf_0.at 1 rfl) ?_
    refine J_bipush 6 rfl ⟨by decide, by decide⟩ (D_X12_bankOf_0.at 2 rfl) ?_
    refine J_iconst 7 rfl (D_X12_bankOf_0.at 3 rfl) ?_
    refine J_iload_n 8 rfl 1 1 rfl (D_X12_bankOf_0.at 4 rfl) ?_
    refine J_imul 9 rfl (D_X12_bankOf_0.at 5 rfl) ?_
    refine J_iadd 10 rfl (D_X12_bankOf_0.at 6 rfl) ?_
    refine J_iload_n 11 rfl 2 2 rfl (D_X12_bankOf_0.at 7 rfl) ?_
    refine J_iadd 12 rfl (D_X12_bankOf_0.at 8 rfl) ?_
    obtain ⟨s10, T⟩ := T
    refine J_iald 13 rfl ar_96 (Ar.lt ar_96) s10 (D_X12_bankOf_0.at 9 rfl) ?_
    refine J_iret rfl (D_X12_bankOf_0.at 10 rfl) (fun _ => ?_)
    exact J_iret rfl (D_X12_bank_0.at 12 rfl) T
  · replace T := T.2.2.2.1 g7
    refine J_tab 48 59 s6 (D_X12_bank_0.at 7 rfl) ⟨by omega, by omega⟩ (by rw [g7]; rfl) (by decide) ?_
    refine J_aload_n 60 rfl 0 0 rfl ⟨by decide, by decide⟩ (D_X12_bank_0.at 13 rfl) ?_
    refine J_iload_n 61 rfl 1 1 rfl (D_X12_bank_0.at 14 rfl) ?_
    refine J_iconst 62 rfl (D_X12_bank_0.at 15 rfl) ?_
    refine J_callV (d' := 1) (K1 := fun z h0 => rok (some .int) z → JG w true m_X12_bank 3 NT NT 65 [(0, vR 68), (1, vI a1), (2, vI a2)] [vI z] h0 _) (sr := fun z => [vI z]) (as := [vI a1, vI 4]) (st := []) (o := 68) 65 rfl ok_X12_bankOf im_X12_bankOf se_X12_bankOf ml_12_430 isC_12 ob_68 (Ob.lt ob_68) rfl (by decide) ⟨Nat.le_refl _, Nat.le_refl _⟩ (Nat.le_of_ble_eq_true rfl) (D_X12_bank_0.at 16 rfl) (fun _ => rfl) (CGm_of2 (by decide) (by decide) trivial (Nat.le_of_ble_eq_true rfl) ?_) (fun _ _ kq hb => kq hb)
    refine J_aload_n 1 rfl 0 0 rfl ⟨by decide, by decide⟩ (D_X12_bankOf_0.at 0 rfl) ?_
    refine J_getF (ov := 96) (dd := 1028) 4 rfl fl_12_97 rfl (by decide) rfl ob_68 (Ob.lt ob_68) (D_X12_bankOf_0.at 1 rfl) ?_
    refine J_bipush 6 rfl ⟨by decide, by decide⟩ (D_X12_bankOf_0.at 2 rfl) ?_
    refine J_iconst 7 rfl (D_X12_bankOf_0.at 3 rfl) ?_
    refine J_iload_n 8 rfl 1 1 rfl (D_X12_bankOf_0.at 4 rfl) ?_
    refine J_imul 9 rfl (D_X12_bankOf_0.at 5 rfl) ?_
    refine J_iadd 10 rfl (D_X12_bankOf_0.at 6 rfl) ?_
    refine J_iload_n 11 rfl 2 2 rfl (D_X12_bankOf_0.at 7 rfl) ?_
    refine J_iadd 12 rfl (D_X12_bankOf_0.at 8 rfl) ?_
    obtain ⟨s11, T⟩ := T
    refine J_iald 13 rfl ar_96 (Ar.lt ar_96) s11 (D_X12_bankOf_0.at 9 rfl) ?_
    refine J_iret rfl (D_X12_bankOf_0.at 10 rfl) (fun _ => ?_)
    exact J_iret rfl (D_X12_bank_0.at 17 rfl) T
  · replace T := T.2.2.2.2.1 g7
    refine J_tab 55 66 s6 (D_X12_bank_0.at 7 rfl) ⟨by omega, by omega⟩ (by rw [g7]; rfl) (by decide) ?_
    refine J_aload_n 67 rfl 0 0 rfl ⟨by decide, by decide⟩ (D_X12_bank_0.at 18 rfl) ?_
    refine J_getF (ov := 104) (dd := 1036) 70 rfl fl_12_121 rfl (by decide) rfl ob_68 (Ob.lt ob_68) (D_X12_bank_0.at 19 rfl) ?_
    refine J_bipush 72 rfl ⟨by decide, by decide⟩ (D_X12_bank_0.at 20 rfl) ?_
    refine J_iload_n 73 rfl 1 1 rfl (D_X12_bank_0.at 21 rfl) ?_
    refine J_iadd 74 rfl (D_X12_bank_0.at 22 rfl) ?_
    obtain ⟨s12, T⟩ := T
    refine J_iald 75 rfl ar_104 (Ar.lt ar_104) s12 (D_X12_bank_0.at 23 rfl) ?_
    exact J_iret rfl (D_X12_bank_0.at 24 rfl) T
  · replace T := T.2.2.2.2.2.1 g7
    refine J_tab 65 76 s6 (D_X12_bank_0.at 7 rfl) ⟨by omega, by omega⟩ (by rw [g7]; rfl) (by decide) ?_
    refine J_aload_n 77 rfl 0 0 rfl ⟨by decide, by decide⟩ (D_X12_bank_0.at 25 rfl) ?_
    refine J_iload_n 78 rfl 1 1 rfl (D_X12_bank_0.at 26 rfl) ?_
    refine J_callV (d' := 2) (sr := fun z => [vI z]) (as := [vI a1]) (st := []) (o := 68) 81 rfl ok_X12_lyingOf im_X12_lyingOf se_X12_lyingOf ml_12_484 isC_12 ob_68 (Ob.lt ob_68) rfl (by decide) ⟨Nat.le_refl _, Nat.le_refl _⟩ (Nat.le_of_ble_eq_true rfl) (D_X12_bank_0.at 27 rfl) (fun _ => rfl) T (fun r13 h14 T b15 => ?_)
    exact J_iret rfl (D_X12_bank_0.at 28 rfl) T
  · replace T := T.2.2.2.2.2.2.1 g7
    refine J_tab 71 82 s6 (D_X12_bank_0.at 7 rfl) ⟨by omega, by omega⟩ (by rw [g7]; rfl) (by decide) ?_
    refine J_aload_n 83 rfl 0 0 rfl ⟨by decide, by decide⟩ (D_X12_bank_0.at 29 rfl) ?_
    refine J_getF (ov := 104) (dd := 1036) 86 rfl fl_12_121 rfl (by decide) rfl ob_68 (Ob.lt ob_68) (D_X12_bank_0.at 30 rfl) ?_
    refine J_bipush 88 rfl ⟨by decide, by decide⟩ (D_X12_bank_0.at 31 rfl) ?_
    refine J_iload_n 89 rfl 1 1 rfl (D_X12_bank_0.at 32 rfl) ?_
    refine J_iadd 90 rfl (D_X12_bank_0.at 33 rfl) ?_
    obtain ⟨s16, T⟩ := T
    refine J_iald 91 rfl ar_104 (Ar.lt ar_104) s16 (D_X12_bank_0.at 34 rfl) ?_
    exact J_iret rfl (D_X12_bank_0.at 35 rfl) T
  · replace T := T.2.2.2.2.2.2.2 g7
    refine J_tabO 92 s6 (D_X12_bank_0.at 7 rfl) g7 (by decide) ?_
    refine J_iconst 93 rfl (D_X12_bank_0.at 36 rfl) ?_
    exact J_iret rfl (D_X12_bank_0.at 37 rfl) T
theorem c_X12_isIsland {w : Wd} {a1 : Int} {h : Hp} {K : Int → Hp → Prop} (T : C_X12_liesAll w a1 h (fun r1 h2 => (inR r1) ∧ ((inR (h2 97 3)) ∧ (((r1 < (h2 97 3)) → (K 0 h2)) ∧ (¬ (r1 < (h2 97 3)) → (K 1 h2)))))) : C_X12_isIsland w a1 h K := by
  refine CGm_of2 (by decide) (by decide) trivial (Nat.le_of_ble_eq_true rfl) ?_
  refine J_aload_n 1 rfl 0 0 rfl ⟨by decide, by decide⟩ (D_X12_isIsland_0.at 0 rfl) ?_
  refine J_iload_n 2 rfl 1 1 rfl (D_X12_isIsland_0.at 1 rfl) ?_
  refine J_callV (d' := 2) (sr := fun z => [vI z]) (as := [vI a1]) (st := []) (o := 68) 5 rfl ok_X12_liesAll im_X12_liesAll se_X12_liesAll ml_12_456 isC_12 ob_68 (Ob.lt ob_68) rfl (by decide) ⟨Nat.le_refl _, Nat.le_refl _⟩ (Nat.le_of_ble_eq_true rfl) (D_X12_isIsland_0.at 2 rfl) (fun _ => rfl) T (fun r1 h2 T b3 => ?_)
  refine J_aload_n 6 rfl 0 0 rfl ⟨by decide, by decide⟩ (D_X12_isIsland_0.at 3 rfl) ?_
  refine J_iconst 7 rfl (D_X12_isIsland_0.at 4 rfl) ?_
  refine J_callV (d' := 1) (K1 := fun z h0 => rok (some .int) z → JG w true m_X12_isIsland 3 NT NT 10 [(0, vR 68), (1, vI a1)] [vI z, vI r1] h0 _) (sr := fun z => [vI z, vI r1]) (as := [vI 0]) (st := [vI r1]) (o := 68) 10 rfl ok_X12_settingOf im_X12_settingOf se_X12_settingOf ml_12_462 isC_12 ob_68 (Ob.lt ob_68) rfl (by decide) ⟨Nat.le_refl _, Nat.le_refl _⟩ (Nat.le_of_ble_eq_true rfl) (D_X12_isIsland_0.at 5 rfl) (fun _ => rfl) (CGm_of2 (by decide) (by decide) trivial (Nat.le_of_ble_eq_true rfl) ?_) (fun _ _ kq hb => kq hb)
  refine J_aload_n 1 rfl 0 0 rfl ⟨by decide, by decide⟩ (D_X12_settingOf_0.at 0 rfl) ?_
  refine J_getF (ov := 97) (dd := 1029) 4 rfl fl_12_100 rfl (by decide) rfl ob_68 (Ob.lt ob_68) (D_X12_settingOf_0.at 1 rfl) ?_
  refine J_iconst 5 rfl (D_X12_settingOf_0.at 2 rfl) ?_
  refine J_iload_n 6 rfl 1 1 rfl (D_X12_settingOf_0.at 3 rfl) ?_
  refine J_iadd 7 rfl (D_X12_settingOf_0.at 4 rfl) ?_
  refine J_iald 8 rfl ar_97 (Ar.lt ar_97) ⟨by decide, by decide⟩ (D_X12_settingOf_0.at 5 rfl) ?_
  refine J_iret rfl (D_X12_settingOf_0.at 6 rfl) (fun _ => ?_)
  obtain ⟨s4, T⟩ := T
  obtain ⟨s5, T⟩ := T
  refine J_icmp_lt 13 rfl 17 s4 s5 (D_X12_isIsland_0.at 6 rfl) (by decide) (fun c6 => ?_) (fun c6 => ?_)
  · replace T := T.1 c6
    refine J_iconst 18 rfl (D_X12_isIsland_0.at 9 rfl) ?_
    exact J_zret rfl (Or.inl rfl) (D_X12_isIsland_0.at 10 rfl) T
  replace T := T.2 c6
  refine J_iconst 14 rfl (D_X12_isIsland_0.at 7 rfl) ?_
  refine J_goto 18 (D_X12_isIsland_0.at 8 rfl) (by decide) ?_
  exact J_zret rfl (Or.inr rfl) (D_X12_isIsland_0.at 10 rfl) T
theorem c_X12_majorityIn {w : Wd} {a1 : Int} {h : Hp} {K : Int → Hp → Prop} (T : L_X12_majorityIn_2 w a1 0 h K) : C_X12_majorityIn w a1 h K := by
  refine CGm_of2 (by decide) (by decide) trivial (Nat.le_of_ble_eq_true rfl) ?_
  refine J_iconst 1 rfl (D_X12_majorityIn_0.at 0 rfl) ?_
  refine J_istore_n (lv' := [(2, vI 0), (0, vR 68), (1, vI a1)]) 2 rfl 2 (by decide) rfl (D_X12_majorityIn_0.at 1 rfl) ?_
  exact J_sub (lv' := [(0, vR 68), (1, vI a1), (2, vI 0)]) [1, 2, 0] rfl T
theorem l_X12_majorityIn_2 {w : Wd} {v1 v2 : Int} {h : Hp} {K : Int → Hp → Prop} (T : (inR v2) ∧ ((inR (h 93 3)) ∧ (((v2 ≥ (h 93 3)) → (K (-1) h)) ∧ (¬ (v2 ≥ (h 93 3)) → (C_X12_ownersIn w v1 v2 h (fun r3 h4 => C_X12_liesAll w v1 h4 (fun r6 h7 => (inR (2 * r3)) ∧ ((inR r6) ∧ ((((2 * r3) ≤ r6) → (L_X12_majorityIn_2 w v1 (v2 + 1) h7 K)) ∧ (¬ ((2 * r3) ≤ r6) → (K v2 h7))))))))))) : L_X12_majorityIn_2 w v1 v2 h K := by
  unfold L_X12_majorityIn_2
  refine J_iload_n 3 rfl 2 2 rfl (D_X12_majorityIn_0.at 2 rfl) ?_
  refine J_aload_n 4 rfl 0 0 rfl ⟨by decide, by decide⟩ (D_X12_majorityIn_0.at 3 rfl) ?_
  refine J_callV (d' := 1) (K1 := fun z h0 => rok (some .int) z → JG w true m_X12_majorityIn 3 NT NT 7 [(0, vR 68), (1, vI v1), (2, vI v2)] [vI z, vI v2] h0 _) (sr := fun z => [vI z, vI v2]) (as := []) (st := [vI v2]) (o := 68) 7 rfl ok_X12_ownerMany im_X12_ownerMany se_X12_ownerMany ml_12_422 isC_12 ob_68 (Ob.lt ob_68) rfl (by decide) ⟨Nat.le_refl _, Nat.le_refl _⟩ (Nat.le_of_ble_eq_true rfl) (D_X12_majorityIn_0.at 4 rfl) (fun _ => rfl) (CGm_of2 (by decide) (by decide) trivial (Nat.le_of_ble_eq_true rfl) ?_) (fun _ _ kq hb => kq hb)
  refine J_aload_n 1 rfl 0 0 rfl ⟨by decide, by decide⟩ (D_X12_ownerMany_0.at 0 rfl) ?_
  refine J_getF (ov := 93) (dd := 1025) 4 rfl fl_12_87 rfl (by decide) rfl ob_68 (Ob.lt ob_68) (D_X12_ownerMany_0.at 1 rfl) ?_
  refine J_iconst 5 rfl (D_X12_ownerMany_0.at 2 rfl) ?_
  refine J_iald 6 rfl ar_93 (Ar.lt ar_93) ⟨by decide, by decide⟩ (D_X12_ownerMany_0.at 3 rfl) ?_
  refine J_iret rfl (D_X12_ownerMany_0.at 4 rfl) (fun _ => ?_)
  obtain ⟨s1, T⟩ := T
  obtain ⟨s2, T⟩ := T
  refine J_icmp_ge 10 rfl 34 s1 s2 (D_X12_majorityIn_0.at 5 rfl) (by decide) (fun c12 => ?_) (fun c12 => ?_)
  · replace T := T.1 c12
    refine J_iconst 35 rfl (D_X12_majorityIn_0.at 20 rfl) ?_
    exact J_iret rfl (D_X12_majorityIn_0.at 21 rfl) T
  replace T := T.2 c12
  refine J_iconst 11 rfl (D_X12_majorityIn_0.at 6 rfl) ?_
  refine J_aload_n 12 rfl 0 0 rfl ⟨by decide, by decide⟩ (D_X12_majorityIn_0.at 7 rfl) ?_
  refine J_iload_n 13 rfl 1 1 rfl (D_X12_majorityIn_0.at 8 rfl) ?_
  refine J_iload_n 14 rfl 2 2 rfl (D_X12_majorityIn_0.at 9 rfl) ?_
  refine J_callV (d' := 2) (sr := fun z => [vI z, vI 2]) (as := [vI v1, vI v2]) (st := [vI 2]) (o := 68) 17 rfl ok_X12_ownersIn im_X12_ownersIn se_X12_ownersIn ml_12_487 isC_12 ob_68 (Ob.lt ob_68) rfl (by decide) ⟨Nat.le_refl _, Nat.le_refl _⟩ (Nat.le_of_ble_eq_true rfl) (D_X12_majorityIn_0.at 10 rfl) (fun _ => rfl) T (fun r3 h4 T b5 => ?_)
  refine J_imul 18 rfl (D_X12_majorityIn_0.at 11 rfl) ?_
  refine J_aload_n 19 rfl 0 0 rfl ⟨by decide, by decide⟩ (D_X12_majorityIn_0.at 12 rfl) ?_
  refine J_iload_n 20 rfl 1 1 rfl (D_X12_majorityIn_0.at 13 rfl) ?_
  refine J_callV (d' := 2) (sr := fun z => [vI z, vI (2 * r3)]) (as := [vI v1]) (st := [vI (2 * r3)]) (o := 68) 23 rfl ok_X12_liesAll im_X12_liesAll se_X12_liesAll ml_12_456 isC_12 ob_68 (Ob.lt ob_68) rfl (by decide) ⟨Nat.le_refl _, Nat.le_refl _⟩ (Nat.le_of_ble_eq_true rfl) (D_X12_majorityIn_0.at 14 rfl) (fun _ => rfl) T (fun r6 h7 T b8 => ?_)
  obtain ⟨s9, T⟩ := T
  obtain ⟨s10, T⟩ := T
  refine J_icmp_le 26 rfl 28 s9 s10 (D_X12_majorityIn_0.at 15 rfl) (by decide) (fun c11 => ?_) (fun c11 => ?_)
  · replace T := T.1 c11
    refine J_iinc (v := (v2 + 1)) (lv' := [(2, vI (v2 + 1)), (0, vR 68), (1, vI v1)]) 31 rfl 2 2 1 rfl rfl (by decide) rfl (D_X12_majorityIn_0.at 18 rfl) ?_
    refine J_goto 2 (D_X12_majorityIn_0.at 19 rfl) (by decide) ?_
    exact J_sub (lv' := [(0, vR 68), (1, vI v1), (2, vI (v2 + 1))]) [1, 2, 0] rfl T
  replace T := T.2 c11
  refine J_iload_n 27 rfl 2 2 rfl (D_X12_majorityIn_0.at 16 rfl) ?_
  exact J_iret rfl (D_X12_majorityIn_0.at 17 rfl) T
theorem c_X12_lies {w : Wd} {a1 a2 : Int} {h : Hp} {K : Int → Hp → Prop} (T : (inR a1) ∧ ((inR ((h 68 36) - 1)) ∧ ((inL a1) ∧ (((a1 < 0) → (K (-1) h)) ∧ (¬ (a1 < 0) → ((inL a1) ∧ ((inL ((h 68 36) - 1)) ∧ (((a1 > ((h 68 36) - 1)) → (K (-1) h)) ∧ (¬ (a1 > ((h 68 36) - 1)) → ((inR a2) ∧ ((inR ((h 93 5) - 1)) ∧ ((inL a2) ∧ (((a2 < 0) → (K (-1) h)) ∧ (¬ (a2 < 0) → ((inL a2) ∧ ((inL ((h 93 5) - 1)) ∧ (((a2 > ((h 93 5) - 1)) → (K (-1) h)) ∧ (¬ (a2 > ((h 93 5) - 1)) → ((0 ≤ ((29 + (10 * a1)) + a2) ∧ ((29 + (10 * a1)) + a2) < 109) ∧ (K (h 104 ((29 + (10 * a1)) + a2)) h)))))))))))))))))))) : C_X12_lies w a1 a2 h K := by
  refine CGm_of2 (by decide) (by decide) trivial (Nat.le_of_ble_eq_true rfl) ?_
  refine J_aload_n 1 rfl 0 0 rfl ⟨by decide, by decide⟩ (D_X12_lies_0.at 0 rfl) ?_
  refine J_iload_n 2 rfl 1 1 rfl (D_X12_lies_0.at 1 rfl) ?_
  refine J_callV (d' := 2) (K1 := fun z h0 => rok (some .boolean) z → JG w true m_X12_lies 3 NT NT 5 [(0, vR 68), (1, vI a1), (2, vI a2)] [vI z] h0 _) (sr := fun z => [vI z]) (as := [vI a1]) (st := []) (o := 68) 5 rfl ok_X12_isReach im_X12_isReach se_X12_isReach ml_12_499 isC_12 ob_68 (Ob.lt ob_68) rfl (by decide) ⟨Nat.le_refl _, Nat.le_refl _⟩ (Nat.le_of_ble_eq_true rfl) (D_X12_lies_0.at 2 rfl) (fun _ => rfl) (CGm_of2 (by decide) (by decide) trivial (Nat.le_of_ble_eq_true rfl) ?_) (fun _ _ kq hb => kq hb)
  refine J_iload_n 1 rfl 1 1 rfl (D_X12_isReach_0.at 0 rfl) ?_
  obtain ⟨s1, T⟩ := T
  refine J_i2l 2 rfl s1 (D_X12_isReach_0.at 1 rfl) ?_
  refine J_lconst (z := 0) 3 rfl rfl (D_X12_isReach_0.at 2 rfl) ?_
  refine J_aload_n 4 rfl 0 0 rfl ⟨by decide, by decide⟩ (D_X12_isReach_0.at 3 rfl) ?_
  refine J_getI (z := (h 68 36)) 7 rfl fl_12_356 rfl ob_68 (Ob.lt ob_68) (D_X12_isReach_0.at 4 rfl) rfl ?_
  refine J_iconst 8 rfl (D_X12_isReach_0.at 5 rfl) ?_
  refine J_isub 9 rfl (D_X12_isReach_0.at 6 rfl) ?_
  obtain ⟨s2, T⟩ := T
  refine J_i2l 10 rfl s2 (D_X12_isReach_0.at 7 rfl) ?_
  refine J_callS (d' := 1) (K1 := fun z h0 => rok (some .boolean) z → JG w true m_X12_isReach 2 NT NT 13 [(0, vR 68), (1, vI a1)] [vI z] h0 _) (sr := fun z => [vI z]) (as := [vL a1, vL 0, vL ((h 68 36) - 1)]) (st := []) 13 rfl ok_X12_isIn sm_X12_isIn ml_12_267 rfl (by decide) ⟨Nat.le_refl _, Nat.le_refl _⟩ (Nat.le_of_ble_eq_true rfl) (D_X12_isReach_0.at 8 rfl) (fun _ => rfl) (CGm_of2 (by decide) (by decide) trivial (Nat.le_of_ble_eq_true rfl) ?_) (fun _ _ kq hb => kq hb)
  refine J_lload_n 1 rfl 0 0 rfl (D_X12_isIn_0.at 0 rfl) ?_
  refine J_lload_n 2 rfl 2 1 rfl (D_X12_isIn_0.at 1 rfl) ?_
  obtain ⟨s3, T⟩ := T
  refine J_lcmp_lt 6 rfl 17 s3 ⟨by decide, by decide⟩ (D_X12_isIn_0.at 2 rfl) (D_X12_isIn_0.at 3 rfl) (by decide) (fun c15 => ?_) (fun c15 => ?_)
  · replace T := T.1 c15
    refine J_iconst 18 rfl (D_X12_isIn_0.at 10 rfl) ?_
    refine J_zret rfl (Or.inl rfl) (D_X12_isIn_0.at 11 rfl) (fun _ => ?_)
    refine J_zret rfl (Or.inl rfl) (D_X12_isReach_0.at 9 rfl) (fun _ => ?_)
    refine J_if_eq 8 rfl 25 ⟨by decide, by decide⟩ (D_X12_lies_0.at 3 rfl) (by decide) (fun _ => ?_) (fun c => absurd (by decide) c)
    refine J_iconst 26 rfl (D_X12_lies_0.at 13 rfl) ?_
    exact J_iret rfl (D_X12_lies_0.at 14 rfl) T
  replace T := T.2 c15
  refine J_lload_n 7 rfl 0 0 rfl (D_X12_isIn_0.at 4 rfl) ?_
  refine J_lload 9 rfl 4 2 rfl (D_X12_isIn_0.at 5 rfl) ?_
  obtain ⟨s4, T⟩ := T
  obtain ⟨s5, T⟩ := T
  refine J_lcmp_gt 13 rfl 17 s4 s5 (D_X12_isIn_0.at 6 rfl) (D_X12_isIn_0.at 7 rfl) (by decide) (fun c14 => ?_) (fun c14 => ?_)
  · replace T := T.1 c14
    refine J_iconst 18 rfl (D_X12_isIn_0.at 10 rfl) ?_
    refine J_zret rfl (Or.inl rfl) (D_X12_isIn_0.at 11 rfl) (fun _ => ?_)
    refine J_zret rfl (Or.inl rfl) (D_X12_isReach_0.at 9 rfl) (fun _ => ?_)
    refine J_if_eq 8 rfl 25 ⟨by decide, by decide⟩ (D_X12_lies_0.at 3 rfl) (by decide) (fun _ => ?_) (fun c => absurd (by decide) c)
    refine J_iconst 26 rfl (D_X12_lies_0.at 13 rfl) ?_
    exact J_iret rfl (D_X12_lies_0.at 14 rfl) T
  replace T := T.2 c14
  refine J_iconst 14 rfl (D_X12_isIn_0.at 8 rfl) ?_
  refine J_goto 18 (D_X12_isIn_0.at 9 rfl) (by decide) ?_
  refine J_zret rfl (Or.inr rfl) (D_X12_isIn_0.at 11 rfl) (fun _ => ?_)
  refine J_zret rfl (Or.inr rfl) (D_X12_isReach_0.at 9 rfl) (fun _ => ?_)
  refine J_if_eq 8 rfl 25 ⟨by decide, by decide⟩ (D_X12_lies_0.at 3 rfl) (by decide) (fun c => absurd c (by decide)) (fun _ => ?_)
  refine J_aload_n 9 rfl 0 0 rfl ⟨by decide, by decide⟩ (D_X12_lies_0.at 4 rfl) ?_
  refine J_iload_n 10 rfl 2 2 rfl (D_X12_lies_0.at 5 rfl) ?_
  refine J_callV (d' := 2) (K1 := fun z h0 => rok (some .boolean) z → JG w true m_X12_lies 3 NT NT 13 [(0, vR 68), (1, vI a1), (2, vI a2)] [vI z] h0 _) (sr := fun z => [vI z]) (as := [vI a2]) (st := []) (o := 68) 13 rfl ok_X12_isBank im_X12_isBank se_X12_isBank ml_12_481 isC_12 ob_68 (Ob.lt ob_68) rfl (by decide) ⟨Nat.le_refl _, Nat.le_refl _⟩ (Nat.le_of_ble_eq_true rfl) (D_X12_lies_0.at 6 rfl) (fun _ => rfl) (CGm_of2 (by decide) (by decide) trivial (Nat.le_of_ble_eq_true rfl) ?_) (fun _ _ kq hb => kq hb)
  refine J_iload_n 1 rfl 1 1 rfl (D_X12_isBank_0.at 0 rfl) ?_
  obtain ⟨s6, T⟩ := T
  refine J_i2l 2 rfl s6 (D_X12_isBank_0.at 1 rfl) ?_
  refine J_lconst (z := 0) 3 rfl rfl (D_X12_isBank_0.at 2 rfl) ?_
  refine J_aload_n 4 rfl 0 0 rfl ⟨by decide, by decide⟩ (D_X12_isBank_0.at 3 rfl) ?_
  refine J_callV (d' := 1) (K1 := fun z h0 => rok (some .int) z → JG w true m_X12_isBank 2 NT NT 7 [(0, vR 68), (1, vI a2)] [vI z, vL 0, vL a2] h0 _) (sr := fun z => [vI z, vL 0, vL a2]) (as := []) (st := [vL 0, vL a2]) (o := 68) 7 rfl ok_X12_bankMany im_X12_bankMany se_X12_bankMany ml_12_419 isC_12 ob_68 (Ob.lt ob_68) rfl (by decide) ⟨Nat.le_refl _, Nat.le_refl _⟩ (Nat.le_of_ble_eq_true rfl) (D_X12_isBank_0.at 4 rfl) (fun _ => rfl) (CGm_of2 (by decide) (by decide) trivial (Nat.le_of_ble_eq_true rfl) ?_) (fun _ _ kq hb => kq hb)
  refine J_aload_n 1 rfl 0 0 rfl ⟨by decide, by decide⟩ (D_X12_bankMany_0.at 0 rfl) ?_
  refine J_getF (ov := 93) (dd := 1025) 4 rfl fl_12_87 rfl (by decide) rfl ob_68 (Ob.lt ob_68) (D_X12_bankMany_0.at 1 rfl) ?_
  refine J_iconst 5 rfl (D_X12_bankMany_0.at 2 rfl) ?_
  refine J_iald 6 rfl ar_93 (Ar.lt ar_93) ⟨by decide, by decide⟩ (D_X12_bankMany_0.at 3 rfl) ?_
  refine J_iret rfl (D_X12_bankMany_0.at 4 rfl) (fun _ => ?_)
  refine J_iconst 8 rfl (D_X12_isBank_0.at 5 rfl) ?_
  refine J_isub 9 rfl (D_X12_isBank_0.at 6 rfl) ?_
  obtain ⟨s7, T⟩ := T
  refine J_i2l 10 rfl s7 (D_X12_isBank_0.at 7 rfl) ?_
  refine J_callS (d' := 1) (K1 := fun z h0 => rok (some .boolean) z → JG w true m_X12_isBank 2 NT NT 13 [(0, vR 68), (1, vI a2)] [vI z] h0 _) (sr := fun z => [vI z]) (as := [vL a2, vL 0, vL ((h 93 5) - 1)]) (st := []) 13 rfl ok_X12_isIn sm_X12_isIn ml_12_267 rfl (by decide) ⟨Nat.le_refl _, Nat.le_refl _⟩ (Nat.le_of_ble_eq_true rfl) (D_X12_isBank_0.at 8 rfl) (fun _ => rfl) (CGm_of2 (by decide) (by decide) trivial (Nat.le_of_ble_eq_true rfl) ?_) (fun _ _ kq hb => kq hb)
  refine J_lload_n 1 rfl 0 0 rfl (D_X12_isIn_0.at 0 rfl) ?_
  refine J_lload_n 2 rfl 2 1 rfl (D_X12_isIn_0.at 1 rfl) ?_
  obtain ⟨s8, T⟩ := T
  refine J_lcmp_lt 6 rfl 17 s8 ⟨by decide, by decide⟩ (D_X12_isIn_0.at 2 rfl) (D_X12_isIn_0.at 3 rfl) (by decide) (fun c13 => ?_) (fun c13 => ?_)
  · replace T := T.1 c13
    refine J_iconst 18 rfl (D_X12_isIn_0.at 10 rfl) ?_
    refine J_zret rfl (Or.inl rfl) (D_X12_isIn_0.at 11 rfl) (fun _ => ?_)
    refine J_zret rfl (Or.inl rfl) (D_X12_isBank_0.at 9 rfl) (fun _ => ?_)
    refine J_if_eq 16 rfl 25 ⟨by decide, by decide⟩ (D_X12_lies_0.at 7 rfl) (by decide) (fun _ => ?_) (fun c => absurd (by decide) c)
    refine J_iconst 26 rfl (D_X12_lies_0.at 13 rfl) ?_
    exact J_iret rfl (D_X12_lies_0.at 14 rfl) T
  replace T := T.2 c13
  refine J_lload_n 7 rfl 0 0 rfl (D_X12_isIn_0.at 4 rfl) ?_
  refine J_lload 9 rfl 4 2 rfl (D_X12_isIn_0.at 5 rfl) ?_
  obtain ⟨s9, T⟩ := T
  obtain ⟨s10, T⟩ := T
  refine J_lcmp_gt 13 rfl 17 s9 s10 (D_X12_isIn_0.at 6 rfl) (D_X12_isIn_0.at 7 rfl) (by decide) (fun c12 => ?_) (fun c12 => ?_)
  · replace T := T.1 c12
    refine J_iconst 18 rfl (D_X12_isIn_0.at 10 rfl) ?_
    refine J_zret rfl (Or.inl rfl) (D_X12_isIn_0.at 11 rfl) (fun _ => ?_)
    refine J_zret rfl (Or.inl rfl) (D_X12_isBank_0.at 9 rfl) (fun _ => ?_)
    refine J_if_eq 16 rfl 25 ⟨by decide, by decide⟩ (D_X12_lies_0.at 7 rfl) (by decide) (fun _ => ?_) (fun c => absurd (by decide) c)
    refine J_iconst 26 rfl (D_X12_lies_0.at 13 rfl) ?_
    exact J_iret rfl (D_X12_lies_0.at 14 rfl) T
  replace T := T.2 c12
  refine J_iconst 14 rfl (D_X12_isIn_0.at 8 rfl) ?_
  refine J_goto 18 (D_X12_isIn_0.at 9 rfl) (by decide) ?_
  refine J_zret rfl (Or.inr rfl) (D_X12_isIn_0.at 11 rfl) (fun _ => ?_)
  refine J_zret rfl (Or.inr rfl) (D_X12_isBank_0.at 9 rfl) (fun _ => ?_)
  refine J_if_eq 16 rfl 25 ⟨by decide, by decide⟩ (D_X12_lies_0.at 7 rfl) (by decide) (fun c => absurd c (by decide)) (fun _ => ?_)
  refine J_aload_n 17 rfl 0 0 rfl ⟨by decide, by decide⟩ (D_X12_lies_0.at 8 rfl) ?_
  refine J_iload_n 18 rfl 1 1 rfl (D_X12_lies_0.at 9 rfl) ?_
  refine J_iload_n 19 rfl 2 2 rfl (D_X12_lies_0.at 10 rfl) ?_
  refine J_callV (d' := 1) (K1 := fun z h0 => rok (some .int) z → JG w true m_X12_lies 3 NT NT 22 [(0, vR 68), (1, vI a1), (2, vI a2)] [vI z] h0 _) (sr := fun z => [vI z]) (as := [vI a1, vI a2]) (st := []) (o := 68) 22 rfl ok_X12_liesIn im_X12_liesIn se_X12_liesIn ml_12_468 isC_12 ob_68 (Ob.lt ob_68) rfl (by decide) ⟨Nat.le_refl _, Nat.le_refl _⟩ (Nat.le_of_ble_eq_true rfl) (D_X12_lies_0.at 11 rfl) (fun _ => rfl) (CGm_of2 (by decide) (by decide) trivial (Nat.le_of_ble_eq_true rfl) ?_) (fun _ _ kq hb => kq hb)
  refine J_aload_n 1 rfl 0 0 rfl ⟨by decide, by decide⟩ (D_X12_liesIn_0.at 0 rfl) ?_
  refine J_getF (ov := 104) (dd := 1036) 4 rfl fl_12_121 rfl (by decide) rfl ob_68 (Ob.lt ob_68) (D_X12_liesIn_0.at 1 rfl) ?_
  refine J_bipush 6 rfl ⟨by decide, by decide⟩ (D_X12_liesIn_0.at 2 rfl) ?_
  refine J_bipush 8 rfl ⟨by decide, by decide⟩ (D_X12_liesIn_0.at 3 rfl) ?_
  refine J_iload_n 9 rfl 1 1 rfl (D_X12_liesIn_0.at 4 rfl) ?_
  refine J_imul 10 rfl (D_X12_liesIn_0.at 5 rfl) ?_
  refine J_iadd 11 rfl (D_X12_liesIn_0.at 6 rfl) ?_
  refine J_iload_n 12 rfl 2 2 rfl (D_X12_liesIn_0.at 7 rfl) ?_
  refine J_iadd 13 rfl (D_X12_liesIn_0.at 8 rfl) ?_
  obtain ⟨s11, T⟩ := T
  refine J_iald 14 rfl ar_104 (Ar.lt ar_104) s11 (D_X12_liesIn_0.at 9 rfl) ?_
  refine J_iret rfl (D_X12_liesIn_0.at 10 rfl) (fun _ => ?_)
  refine J_goto 26 (D_X12_lies_0.at 12 rfl) (by decide) ?_
  exact J_iret rfl (D_X12_lies_0.at 14 rfl) T
theorem c_X12_share {w : Wd} {a1 a2 : Int} {h : Hp} {K : Int → Hp → Prop} (T : (inR a1) ∧ ((inR ((h 68 36) - 1)) ∧ ((inL a1) ∧ (((a1 < 0) → (K (-1) h)) ∧ (¬ (a1 < 0) → ((inL a1) ∧ ((inL ((h 68 36) - 1)) ∧ (((a1 > ((h 68 36) - 1)) → (K (-1) h)) ∧ (¬ (a1 > ((h 68 36) - 1)) → ((inR a2) ∧ ((inR ((h 93 3) - 1)) ∧ ((inL a2) ∧ (((a2 < 0) → (K (-1) h)) ∧ (¬ (a2 < 0) → ((inL a2) ∧ ((inL ((h 93 3) - 1)) ∧ (((a2 > ((h 93 3) - 1)) → (K (-1) h)) ∧ (¬ (a2 > ((h 93 3) - 1)) → (C_X12_liesAll w a1 h (fun r11 h12 => (inR r11) ∧ (((r11 ≠ 0) → (C_X12_ownersIn w a1 a2 h12 (fun r15 h16 => (0 ≤ (1000 * r15) ∧ (1000 * r15) < 2147483648) ∧ ((0 < r11 ∧ r11 < 2147483648) ∧ (K ((1000 * r15) / r11) h16))))) ∧ (¬ (r11 ≠ 0) → (K 0 h12))))))))))))))))))))))) : C_X12_share w a1 a2 h K := by
  refine CGm_of2 (by decide) (by decide) trivial (Nat.le_of_ble_eq_true rfl) ?_
  refine J_aload_n 1 rfl 0 0 rfl ⟨by decide, by decide⟩ (D_X12_share_0.at 0 rfl) ?_
  refine J_iload_n 2 rfl 1 1 rfl (D_X12_share_0.at 1 rfl) ?_
  refine J_callV (d' := 2) (K1 := fun z h0 => rok (some .boolean) z → JG w true m_X12_share 3 NT NT 5 [(0, vR 68), (1, vI a1), (2, vI a2)] [vI z] h0 _) (sr := fun z => [vI z]) (as := [vI a1]) (st := []) (o := 68) 5 rfl ok_X12_isReach im_X12_isReach se_X12_isReach ml_12_499 isC_12 ob_68 (Ob.lt ob_68) rfl (by decide) ⟨Nat.le_refl _, Nat.le_refl _⟩ (Nat.le_of_ble_eq_true rfl) (D_X12_share_0.at 2 rfl) (fun _ => rfl) (CGm_of2 (by decide) (by decide) trivial (Nat.le_of_ble_eq_true rfl) ?_) (fun _ _ kq hb => kq hb)
  refine J_iload_n 1 rfl 1 1 rfl (D_X12_isReach_0.at 0 rfl) ?_
  obtain ⟨s1, T⟩ := T
  refine J_i2l 2 rfl s1 (D_X12_isReach_0.at 1 rfl) ?_
  refine J_lconst (z := 0) 3 rfl rfl (D_X12_isReach_0.at 2 rfl) ?_
  refine J_aload_n 4 rfl 0 0 rfl ⟨by decide, by decide⟩ (D_X12_isReach_0.at 3 rfl) ?_
  refine J_getI (z := (h 68 36)) 7 rfl fl_12_356 rfl ob_68 (Ob.lt ob_68) (D_X12_isReach_0.at 4 rfl) rfl ?_
  refine J_iconst 8 rfl (D_X12_isReach_0.at 5 rfl) ?_
  refine J_isub 9 rfl (D_X12_isReach_0.at 6 rfl) ?_
  obtain ⟨s2, T⟩ := T
  refine J_i2l 10 rfl s2 (D_X12_isReach_0.at 7 rfl) ?_
  refine J_callS (d' := 1) (K1 := fun z h0 => rok (some .boolean) z → JG w true m_X12_isReach 2 NT NT 13 [(0, vR 68), (1, vI a1)] [vI z] h0 _) (sr := fun z => [vI z]) (as := [vL a1, vL 0, vL ((h 68 36) - 1)]) (st := []) 13 rfl ok_X12_isIn sm_X12_isIn ml_12_267 rfl (by decide) ⟨Nat.le_refl _, Nat.le_refl _⟩ (Nat.le_of_ble_eq_true rfl) (D_X12_isReach_0.at 8 rfl) (fun _ => rfl) (CGm_of2 (by decide) (by decide) trivial (Nat.le_of_ble_eq_true rfl) ?_) (fun _ _ kq hb => kq hb)
  refine J_lload_n 1 rfl 0 0 rfl (D_X12_isIn_0.at 0 rfl) ?_
  refine J_lload_n 2 rfl 2 1 rfl (D_X12_isIn_0.at 1 rfl) ?_
  obtain ⟨s3, T⟩ := T
  refine J_lcmp_lt 6 rfl 17 s3 ⟨by decide, by decide⟩ (D_X12_isIn_0.at 2 rfl) (D_X12_isIn_0.at 3 rfl) (by decide) (fun c24 => ?_) (fun c24 => ?_)
  · replace T := T.1 c24
    refine J_iconst 18 rfl (D_X12_isIn_0.at 10 rfl) ?_
    refine J_zret rfl (Or.inl rfl) (D_X12_isIn_0.at 11 rfl) (fun _ => ?_)
    refine J_zret rfl (Or.inl rfl) (D_X12_isReach_0.at 9 rfl) (fun _ => ?_)
    refine J_if_eq 8 rfl 16 ⟨by decide, by decide⟩ (D_X12_share_0.at 3 rfl) (by decide) (fun _ => ?_) (fun c => absurd (by decide) c)
    refine J_iconst 17 rfl (D_X12_share_0.at 8 rfl) ?_
    exact J_iret rfl (D_X12_share_0.at 9 rfl) T
  replace T := T.2 c24
  refine J_lload_n 7 rfl 0 0 rfl (D_X12_isIn_0.at 4 rfl) ?_
  refine J_lload 9 rfl 4 2 rfl (D_X12_isIn_0.at 5 rfl) ?_
  obtain ⟨s4, T⟩ := T
  obtain ⟨s5, T⟩ := T
  refine J_lcmp_gt 13 rfl 17 s4 s5 (D_X12_isIn_0.at 6 rfl) (D_X12_isIn_0.at 7 rfl) (by decide) (fun c23 => ?_) (fun c23 => ?_)
  · replace T := T.1 c23
    refine J_iconst 18 rfl (D_X12_isIn_0.at 10 rfl) ?_
    refine J_zret rfl (Or.inl rfl) (D_X12_isIn_0.at 11 rfl) (fun _ => ?_)
    refine J_zret rfl (Or.inl rfl) (D_X12_isReach_0.at 9 rfl) (fun _ => ?_)
    refine J_if_eq 8 rfl 16 ⟨by decide, by decide⟩ (D_X12_share_0.at 3 rfl) (by decide) (fun _ => ?_) (fun c => absurd (by decide) c)
    refine J_iconst 17 rfl (D_X12_share_0.at 8 rfl) ?_
    exact J_iret rfl (D_X12_share_0.at 9 rfl) T
  replace T := T.2 c23
  refine J_iconst 14 rfl (D_X12_isIn_0.at 8 rfl) ?_
  refine J_goto 18 (D_X12_isIn_0.at 9 rfl) (by decide) ?_
  refine J_zret rfl (Or.inr rfl) (D_X12_isIn_0.at 11 rfl) (fun _ => ?_)
  refine J_zret rfl (Or.inr rfl) (D_X12_isReach_0.at 9 rfl) (fun _ => ?_)
  refine J_if_eq 8 rfl 16 ⟨by decide, by decide⟩ (D_X12_share_0.at 3 rfl) (by decide) (fun c => absurd c (by decide)) (fun _ => ?_)
  refine J_aload_n 9 rfl 0 0 rfl ⟨by decide, by decide⟩ (D_X12_share_0.at 4 rfl) ?_
  refine J_iload_n 10 rfl 2 2 rfl (D_X12_share_0.at 5 rfl) ?_
  refine J_callV (d' := 2) (K1 := fun z h0 => rok (some .boolean) z → JG w true m_X12_share 3 NT NT 13 [(0, vR 68), (1, vI a1), (2, vI a2)] [vI z] h0 _) (sr := fun z => [vI z]) (as := [vI a2]) (st := []) (o := 68) 13 rfl ok_X12_isOwner im_X12_isOwner se_X12_isOwner ml_12_508 isC_12 ob_68 (Ob.lt ob_68) rfl (by decide) ⟨Nat.le_refl _, Nat.le_refl _⟩ (Nat.le_of_ble_eq_true rfl) (D_X12_share_0.at 6 rfl) (fun _ => rfl) (CGm_of2 (by decide) (by decide) trivial (Nat.le_of_ble_eq_true rfl) ?_) (fun _ _ kq hb => kq hb)
  refine J_iload_n 1 rfl 1 1 rfl (D_X12_isOwner_0.at 0 rfl) ?_
  obtain ⟨s6, T⟩ := T
  refine J_i2l 2 rfl s6 (D_X12_isOwner_0.at 1 rfl) ?_
  refine J_lconst (z := 0) 3 rfl rfl (D_X12_isOwner_0.at 2 rfl) ?_
  refine J_aload_n 4 rfl 0 0 rfl ⟨by decide, by decide⟩ (D_X12_isOwner_0.at 3 rfl) ?_
  refine J_callV (d' := 1) (K1 := fun z h0 => rok (some .int) z → JG w true m_X12_isOwner 2 NT NT 7 [(0, vR 68), (1, vI a2)] [vI z, vL 0, vL a2] h0 _) (sr := fun z => [vI z, vL 0, vL a2]) (as := []) (st := [vL 0, vL a2]) (o := 68) 7 rfl ok_X12_ownerMany im_X12_ownerMany se_X12_ownerMany ml_12_422 isC_12 ob_68 (Ob.lt ob_68) rfl (by decide) ⟨Nat.le_refl _, Nat.le_refl _⟩ (Nat.le_of_ble_eq_true rfl) (D_X12_isOwner_0.at 4 rfl) (fun _ => rfl) (CGm_of2 (by decide) (by decide) trivial (Nat.le_of_ble_eq_true rfl) ?_) (fun _ _ kq hb => kq hb)
  refine J_aload_n 1 rfl 0 0 rfl ⟨by decide, by decide⟩ (D_X12_ownerMany_0.at 0 rfl) ?_
  refine J_getF (ov := 93) (dd := 1025) 4 rfl fl_12_87 rfl (by decide) rfl ob_68 (Ob.lt ob_68) (D_X12_ownerMany_0.at 1 rfl) ?_
  refine J_iconst 5 rfl (D_X12_ownerMany_0.at 2 rfl) ?_
  refine J_iald 6 rfl ar_93 (Ar.lt ar_93) ⟨by decide, by decide⟩ (D_X12_ownerMany_0.at 3 rfl) ?_
  refine J_iret rfl (D_X12_ownerMany_0.at 4 rfl) (fun _ => ?_)
  refine J_iconst 8 rfl (D_X12_isOwner_0.at 5 rfl) ?_
  refine J_isub 9 rfl (D_X12_isOwner_0.at 6 rfl) ?_
  obtain ⟨s7, T⟩ := T
  refine J_i2l 10 rfl s7 (D_X12_isOwner_0.at 7 rfl) ?_
  refine J_callS (d' := 1) (K1 := fun z h0 => rok (some .boolean) z → JG w true m_X12_isOwner 2 NT NT 13 [(0, vR 68), (1, vI a2)] [vI z] h0 _) (sr := fun z => [vI z]) (as := [vL a2, vL 0, vL ((h 93 3) - 1)]) (st := []) 13 rfl ok_X12_isIn sm_X12_isIn ml_12_267 rfl (by decide) ⟨Nat.le_refl _, Nat.le_refl _⟩ (Nat.le_of_ble_eq_true rfl) (D_X12_isOwner_0.at 8 rfl) (fun _ => rfl) (CGm_of2 (by decide) (by decide) trivial (Nat.le_of_ble_eq_true rfl) ?_) (fun _ _ kq hb => kq hb)
  refine J_lload_n 1 rfl 0 0 rfl (D_X12_isIn_0.at 0 rfl) ?_
  refine J_lload_n 2 rfl 2 1 rfl (D_X12_isIn_0.at 1 rfl) ?_
  obtain ⟨s8, T⟩ := T
  refine J_lcmp_lt 6 rfl 17 s8 ⟨by decide, by decide⟩ (D_X12_isIn_0.at 2 rfl) (D_X12_isIn_0.at 3 rfl) (by decide) (fun c22 => ?_) (fun c22 => ?_)
  · replace T := T.1 c22
    refine J_iconst 18 rfl (D_X12_isIn_0.at 10 rfl) ?_
    refine J_zret rfl (Or.inl rfl) (D_X12_isIn_0.at 11 rfl) (fun _ => ?_)
    refine J_zret rfl (Or.inl rfl) (D_X12_isOwner_0.at 9 rfl) (fun _ => ?_)
    refine J_if_ne 16 rfl 18 ⟨by decide, by decide⟩ (D_X12_share_0.at 7 rfl) (by decide) (fun c => absurd c (by decide)) (fun _ => ?_)
    refine J_iconst 17 rfl (D_X12_share_0.at 8 rfl) ?_
    exact J_iret rfl (D_X12_share_0.at 9 rfl) T
  replace T := T.2 c22
  refine J_lload_n 7 rfl 0 0 rfl (D_X12_isIn_0.at 4 rfl) ?_
  refine J_lload 9 rfl 4 2 rfl (D_X12_isIn_0.at 5 rfl) ?_
  obtain ⟨s9, T⟩ := T
  obtain ⟨s10, T⟩ := T
  refine J_lcmp_gt 13 rfl 17 s9 s10 (D_X12_isIn_0.at 6 rfl) (D_X12_isIn_0.at 7 rfl) (by decide) (fun c21 => ?_) (fun c21 => ?_)
  · replace T := T.1 c21
    refine J_iconst 18 rfl (D_X12_isIn_0.at 10 rfl) ?_
    refine J_zret rfl (Or.inl rfl) (D_X12_isIn_0.at 11 rfl) (fun _ => ?_)
    refine J_zret rfl (Or.inl rfl) (D_X12_isOwner_0.at 9 rfl) (fun _ => ?_)
    refine J_if_ne 16 rfl 18 ⟨by decide, by decide⟩ (D_X12_share_0.at 7 rfl) (by decide) (fun c => absurd c (by decide)) (fun _ => ?_)
    refine J_iconst 17 rfl (D_X12_share_0.at 8 rfl) ?_
    exact J_iret rfl (D_X12_share_0.at 9 rfl) T
  replace T := T.2 c21
  refine J_iconst 14 rfl (D_X12_isIn_0.at 8 rfl) ?_
  refine J_goto 18 (D_X12_isIn_0.at 9 rfl) (by decide) ?_
  refine J_zret rfl (Or.inr rfl) (D_X12_isIn_0.at 11 rfl) (fun _ => ?_)
  refine J_zret rfl (Or.inr rfl) (D_X12_isOwner_0.at 9 rfl) (fun _ => ?_)
  refine J_if_ne 16 rfl 18 ⟨by decide, by decide⟩ (D_X12_share_0.at 7 rfl) (by decide) (fun _ => ?_) (fun c => absurd (by decide) c)
  refine J_aload_n 19 rfl 0 0 rfl ⟨by decide, by decide⟩ (D_X12_share_0.at 10 rfl) ?_
  refine J_iload_n 20 rfl 1 1 rfl (D_X12_share_0.at 11 rfl) ?_
  refine J_callV (d' := 2) (sr := fun z => [vI z]) (as := [vI a1]) (st := []) (o := 68) 23 rfl ok_X12_liesAll im_X12_liesAll se_X12_liesAll ml_12_456 isC_12 ob_68 (Ob.lt ob_68) rfl (by decide) ⟨Nat.le_refl _, Nat.le_refl _⟩ (Nat.le_of_ble_eq_true rfl) (D_X12_share_0.at 12 rfl) (fun _ => rfl) T (fun r11 h12 T b13 => ?_)
  refine J_istore_n (lv' := [(3, vI r11), (0, vR 68), (1, vI a1), (2, vI a2)]) 24 rfl 3 (by decide) rfl (D_X12_share_0.at 13 rfl) ?_
  refine J_iload_n 25 rfl 3 0 rfl (D_X12_share_0.at 14 rfl) ?_
  obtain ⟨s14, T⟩ := T
  refine J_if_ne 28 rfl 32 s14 (D_X12_share_0.at 15 rfl) (by decide) (fun c20 => ?_) (fun c20 => ?_)
  · replace T := T.1 c20
    refine J_sipush 35 rfl ⟨by decide, by decide⟩ (D_X12_share_0.at 18 rfl) ?_
    refine J_aload_n 36 rfl 0 1 rfl ⟨by decide, by decide⟩ (D_X12_share_0.at 19 rfl) ?_
    refine J_iload_n 37 rfl 1 2 rfl (D_X12_share_0.at 20 rfl) ?_
    refine J_iload_n 38 rfl 2 3 rfl (D_X12_share_0.at 21 rfl) ?_
    refine J_callV (d' := 2) (sr := fun z => [vI z, vI 1000]) (as := [vI a1, vI a2]) (st := [vI 1000]) (o := 68) 41 rfl ok_X12_ownersIn im_X12_ownersIn se_X12_ownersIn ml_12_487 isC_12 ob_68 (Ob.lt ob_68) rfl (by decide) ⟨Nat.le_refl _, Nat.le_refl _⟩ (Nat.le_of_ble_eq_true rfl) (D_X12_share_0.at 22 rfl) (fun _ => rfl) T (fun r15 h16 T b17 => ?_)
    refine J_imul 42 rfl (D_X12_share_0.at 23 rfl) ?_
    refine J_iload_n 43 rfl 3 0 rfl (D_X12_share_0.at 24 rfl) ?_
    obtain ⟨s18, T⟩ := T
    obtain ⟨s19, T⟩ := T
    refine J_idiv 44 rfl s18 s19 (D_X12_share_0.at 25 rfl) ?_
    exact J_iret rfl (D_X12_share_0.at 26 rfl) T
  replace T := T.2 c20
  refine J_iconst 29 rfl (D_X12_share_0.at 16 rfl) ?_
  refine J_goto 44 (D_X12_share_0.at 17 rfl) (by decide) ?_
  exact J_iret rfl (D_X12_share_0.at 26 rfl) T
theorem c_X12_tint {w : Wd} {a1 a2 : Int} {h : Hp} {K : Int → Hp → Prop} (T : (inR a1) ∧ ((inR ((h 68 36) - 1)) ∧ ((inL a1) ∧ (((a1 < 0) → (K (-1) h)) ∧ (¬ (a1 < 0) → ((inL a1) ∧ ((inL ((h 68 36) - 1)) ∧ (((a1 > ((h 68 36) - 1)) → (K (-1) h)) ∧ (¬ (a1 > ((h 68 36) - 1)) → ((inR a2) ∧ ((inR ((h 93 4) - 1)) ∧ ((inL a2) ∧ (((a2 < 0) → (K (-1) h)) ∧ (¬ (a2 < 0) → ((inL a2) ∧ ((inL ((h 93 4) - 1)) ∧ (((a2 > ((h 93 4) - 1)) → (K (-1) h)) ∧ (¬ (a2 > ((h 93 4) - 1)) → (C_X12_tintOf w a1 a2 h (fun r11 h12 => K r11 h12)))))))))))))))))))) : C_X12_tint w a1 a2 h K := by
  refine CGm_of2 (by decide) (by decide) trivial (Nat.le_of_ble_eq_true rfl) ?_
  refine J_aload_n 1 rfl 0 0 rfl ⟨by decide, by decide⟩ (D_X12_tint_0.at 0 rfl) ?_
  refine J_iload_n 2 rfl 1 1 rfl (D_X12_tint_0.at 1 rfl) ?_
  refine J_callV (d' := 2) (K1 := fun z h0 => rok (some .boolean) z → JG w true m_X12_tint 3 NT NT 5 [(0, vR 68), (1, vI a1), (2, vI a2)] [vI z] h0 _) (sr := fun z => [vI z]) (as := [vI a1]) (st := []) (o := 68) 5 rfl ok_X12_isReach im_X12_isReach se_X12_isReach ml_12_499 isC_12 ob_68 (Ob.lt ob_68) rfl (by decide) ⟨Nat.le_refl _, Nat.le_refl _⟩ (Nat.le_of_ble_eq_true rfl) (D_X12_tint_0.at 2 rfl) (fun _ => rfl) (CGm_of2 (by decide) (by decide) trivial (Nat.le_of_ble_eq_true rfl) ?_) (fun _ _ kq hb => kq hb)
  refine J_iload_n 1 rfl 1 1 rfl (D_X12_isReach_0.at 0 rfl) ?_
  obtain ⟨s1, T⟩ := T
  refine J_i2l 2 rfl s1 (D_X12_isReach_0.at 1 rfl) ?_
  refine J_lconst (z := 0) 3 rfl rfl (D_X12_isReach_0.at 2 rfl) ?_
  refine J_aload_n 4 rfl 0 0 rfl ⟨by decide, by decide⟩ (D_X12_isReach_0.at 3 rfl) ?_
  refine J_getI (z := (h 68 36)) 7 rfl fl_12_356 rfl ob_68 (Ob.lt ob_68) (D_X12_isReach_0.at 4 rfl) rfl ?_
  refine J_iconst 8 rfl (D_X12_isReach_0.at 5 rfl) ?_
  refine J_isub 9 rfl (D_X12_isReach_0.at 6 rfl) ?_
  obtain ⟨s2, T⟩ := T
  refine J_i2l 10 rfl s2 (D_X12_isReach_0.at 7 rfl) ?_
  refine J_callS (d' := 1) (K1 := fun z h0 => rok (some .boolean) z → JG w true m_X12_isReach 2 NT NT 13 [(0, vR 68), (1, vI a1)] [vI z] h0 _) (sr := fun z => [vI z]) (as := [vL a1, vL 0, vL ((h 68 36) - 1)]) (st := []) 13 rfl ok_X12_isIn sm_X12_isIn ml_12_267 rfl (by decide) ⟨Nat.le_refl _, Nat.le_refl _⟩ (Nat.le_of_ble_eq_true rfl) (D_X12_isReach_0.at 8 rfl) (fun _ => rfl) (CGm_of2 (by decide) (by decide) trivial (Nat.le_of_ble_eq_true rfl) ?_) (fun _ _ kq hb => kq hb)
  refine J_lload_n 1 rfl 0 0 rfl (D_X12_isIn_0.at 0 rfl) ?_
  refine J_lload_n 2 rfl 2 1 rfl (D_X12_isIn_0.at 1 rfl) ?_
  obtain ⟨s3, T⟩ := T
  refine J_lcmp_lt 6 rfl 17 s3 ⟨by decide, by decide⟩ (D_X12_isIn_0.at 2 rfl) (D_X12_isIn_0.at 3 rfl) (by decide) (fun c17 => ?_) (fun c17 => ?_)
  · replace T := T.1 c17
    refine J_iconst 18 rfl (D_X12_isIn_0.at 10 rfl) ?_
    refine J_zret rfl (Or.inl rfl) (D_X12_isIn_0.at 11 rfl) (fun _ => ?_)
    refine J_zret rfl (Or.inl rfl) (D_X12_isReach_0.at 9 rfl) (fun _ => ?_)
    refine J_if_eq 8 rfl 33 ⟨by decide, by decide⟩ (D_X12_tint_0.at 3 rfl) (by decide) (fun _ => ?_) (fun c => absurd (by decide) c)
    refine J_iconst 34 rfl (D_X12_tint_0.at 19 rfl) ?_
    exact J_iret rfl (D_X12_tint_0.at 20 rfl) T
  replace T := T.2 c17
  refine J_lload_n 7 rfl 0 0 rfl (D_X12_isIn_0.at 4 rfl) ?_
  refine J_lload 9 rfl 4 2 rfl (D_X12_isIn_0.at 5 rfl) ?_
  obtain ⟨s4, T⟩ := T
  obtain ⟨s5, T⟩ := T
  refine J_lcmp_gt 13 rfl 17 s4 s5 (D_X12_isIn_0.at 6 rfl) (D_X12_isIn_0.at 7 rfl) (by decide) (fun c16 => ?_) (fun c16 => ?_)
  · replace T := T.1 c16
    refine J_iconst 18 rfl (D_X12_isIn_0.at 10 rfl) ?_
    refine J_zret rfl (Or.inl rfl) (D_X12_isIn_0.at 11 rfl) (fun _ => ?_)
    refine J_zret rfl (Or.inl rfl) (D_X12_isReach_0.at 9 rfl) (fun _ => ?_)
    refine J_if_eq 8 rfl 33 ⟨by decide, by decide⟩ (D_X12_tint_0.at 3 rfl) (by decide) (fun _ => ?_) (fun c => absurd (by decide) c)
    refine J_iconst 34 rfl (D_X12_tint_0.at 19 rfl) ?_
    exact J_iret rfl (D_X12_tint_0.at 20 rfl) T
  replace T := T.2 c16
  refine J_iconst 14 rfl (D_X12_isIn_0.at 8 rfl) ?_
  refine J_goto 18 (D_X12_isIn_0.at 9 rfl) (by decide) ?_
  refine J_zret rfl (Or.inr rfl) (D_X12_isIn_0.at 11 rfl) (fun _ => ?_)
  refine J_zret rfl (Or.inr rfl) (D_X12_isReach_0.at 9 rfl) (fun _ => ?_)
  refine J_if_eq 8 rfl 33 ⟨by decide, by decide⟩ (D_X12_tint_0.at 3 rfl) (by decide) (fun c => absurd c (by decide)) (fun _ => ?_)
  refine J_iload_n 9 rfl 2 2 rfl (D_X12_tint_0.at 4 rfl) ?_
  obtain ⟨s6, T⟩ := T
  refine J_i2l 10 rfl s6 (D_X12_tint_0.at 5 rfl) ?_
  refine J_lconst (z := 0) 11 rfl rfl (D_X12_tint_0.at 6 rfl) ?_
  refine J_aload_n 12 rfl 0 0 rfl ⟨by decide, by decide⟩ (D_X12_tint_0.at 7 rfl) ?_
  refine J_callV (d' := 1) (K1 := fun z h0 => rok (some .int) z → JG w true m_X12_tint 3 NT NT 15 [(0, vR 68), (1, vI a1), (2, vI a2)] [vI z, vL 0, vL a2] h0 _) (sr := fun z => [vI z, vL 0, vL a2]) (as := []) (st := [vL 0, vL a2]) (o := 68) 15 rfl ok_X12_colourMany im_X12_colourMany se_X12_colourMany ml_12_471 isC_12 ob_68 (Ob.lt ob_68) rfl (by decide) ⟨Nat.le_refl _, Nat.le_refl _⟩ (Nat.le_of_ble_eq_true rfl) (D_X12_tint_0.at 8 rfl) (fun _ => rfl) (CGm_of2 (by decide) (by decide) trivial (Nat.le_of_ble_eq_true rfl) ?_) (fun _ _ kq hb => kq hb)
  refine J_aload_n 1 rfl 0 0 rfl ⟨by decide, by decide⟩ (D_X12_colourMany_0.at 0 rfl) ?_
  refine J_getF (ov := 93) (dd := 1025) 4 rfl fl_12_87 rfl (by decide) rfl ob_68 (Ob.lt ob_68) (D_X12_colourMany_0.at 1 rfl) ?_
  refine J_iconst 5 rfl (D_X12_colourMany_0.at 2 rfl) ?_
  refine J_iald 6 rfl ar_93 (Ar.lt ar_93) ⟨by decide, by decide⟩ (D_X12_colourMany_0.at 3 rfl) ?_
  refine J_iret rfl (D_X12_colourMany_0.at 4 rfl) (fun _ => ?_)
  refine J_iconst 16 rfl (D_X12_tint_0.at 9 rfl) ?_
  refine J_isub 17 rfl (D_X12_tint_0.at 10 rfl) ?_
  obtain ⟨s7, T⟩ := T
  refine J_i2l 18 rfl s7 (D_X12_tint_0.at 11 rfl) ?_
  refine J_callS (d' := 1) (K1 := fun z h0 => rok (some .boolean) z → JG w true m_X12_tint 3 NT NT 21 [(0, vR 68), (1, vI a1), (2, vI a2)] [vI z] h0 _) (sr := fun z => [vI z]) (as := [vL a2, vL 0, vL ((h 93 4) - 1)]) (st := []) 21 rfl ok_X12_isIn sm_X12_isIn ml_12_267 rfl (by decide) ⟨Nat.le_refl _, Nat.le_refl _⟩ (Nat.le_of_ble_eq_true rfl) (D_X12_tint_0.at 12 rfl) (fun _ => rfl) (CGm_of2 (by decide) (by decide) trivial (Nat.le_of_ble_eq_true rfl) ?_) (fun _ _ kq hb => kq hb)
  refine J_lload_n 1 rfl 0 0 rfl (D_X12_isIn_0.at 0 rfl) ?_
  refine J_lload_n 2 rfl 2 1 rfl (D_X12_isIn_0.at 1 rfl) ?_
  obtain ⟨s8, T⟩ := T
  refine J_lcmp_lt 6 rfl 17 s8 ⟨by decide, by decide⟩ (D_X12_isIn_0.at 2 rfl) (D_X12_isIn_0.at 3 rfl) (by decide) (fun c15 => ?_) (fun c15 => ?_)
  · replace T := T.1 c15
    refine J_iconst 18 rfl (D_X12_isIn_0.at 10 rfl) ?_
    refine J_zret rfl (Or.inl rfl) (D_X12_isIn_0.at 11 rfl) (fun _ => ?_)
    refine J_if_eq 24 rfl 33 ⟨by decide, by decide⟩ (D_X12_tint_0.at 13 rfl) (by decide) (fun _ => ?_) (fun c => absurd (by decide) c)
    refine J_iconst 34 rfl (D_X12_tint_0.at 19 rfl) ?_
    exact J_iret rfl (D_X12_tint_0.at 20 rfl) T
  replace T := T.2 c15
  refine J_lload_n 7 rfl 0 0 rfl (D_X12_isIn_0.at 4 rfl) ?_
  refine J_lload 9 rfl 4 2 rfl (D_X12_isIn_0.at 5 rfl) ?_
  obtain ⟨s9, T⟩ := T
  obtain ⟨s10, T⟩ := T
  refine J_lcmp_gt 13 rfl 17 s9 s10 (D_X12_isIn_0.at 6 rfl) (D_X12_isIn_0.at 7 rfl) (by decide) (fun c14 => ?_) (fun c14 => ?_)
  · replace T := T.1 c14
    refine J_iconst 18 rfl (D_X12_isIn_0.at 10 rfl) ?_
    refine J_zret rfl (Or.inl rfl) (D_X12_isIn_0.at 11 rfl) (fun _ => ?_)
    refine J_if_eq 24 rfl 33 ⟨by decide, by decide⟩ (D_X12_tint_0.at 13 rfl) (by decide) (fun _ => ?_) (fun c => absurd (by decide) c)
    refine J_iconst 34 rfl (D_X12_tint_0.at 19 rfl) ?_
    exact J_iret rfl (D_X12_tint_0.at 20 rfl) T
  replace T := T.2 c14
  refine J_iconst 14 rfl (D_X12_isIn_0.at 8 rfl) ?_
  refine J_goto 18 (D_X12_isIn_0.at 9 rfl) (by decide) ?_
  refine J_zret rfl (Or.inr rfl) (D_X12_isIn_0.at 11 rfl) (fun _ => ?_)
  refine J_if_eq 24 rfl 33 ⟨by decide, by decide⟩ (D_X12_tint_0.at 13 rfl) (by decide) (fun c => absurd c (by decide)) (fun _ => ?_)
  refine J_aload_n 25 rfl 0 0 rfl ⟨by decide, by decide⟩ (D_X12_tint_0.at 14 rfl) ?_
  refine J_iload_n 26 rfl 1 1 rfl (D_X12_tint_0.at 15 rfl) ?_
  refine J_iload_n 27 rfl 2 2 rfl (D_X12_tint_0.at 16 rfl) ?_
  refine J_callV (d' := 2) (sr := fun z => [vI z]) (as := [vI a1, vI a2]) (st := []) (o := 68) 30 rfl ok_X12_tintOf im_X12_tintOf se_X12_tintOf ml_12_511 isC_12 ob_68 (Ob.lt ob_68) rfl (by decide) ⟨Nat.le_refl _, Nat.le_refl _⟩ (Nat.le_of_ble_eq_true rfl) (D_X12_tint_0.at 17 rfl) (fun _ => rfl) T (fun r11 h12 T b13 => ?_)
  refine J_goto 34 (D_X12_tint_0.at 18 rfl) (by decide) ?_
  exact J_iret rfl (D_X12_tint_0.at 20 rfl) T
theorem c_X12_flow {w : Wd} {a1 a2 : Int} {h : Hp} {K : Int → Hp → Prop} (T : (inR a1) ∧ ((inR ((h 68 36) - 1)) ∧ ((inL a1) ∧ (((a1 < 0) → (K (-1) h)) ∧ (¬ (a1 < 0) → ((inL a1) ∧ ((inL ((h 68 36) - 1)) ∧ (((a1 > ((h 68 36) - 1)) → (K (-1) h)) ∧ (¬ (a1 > ((h 68 36) - 1)) → ((inR a2) ∧ ((inL a2) ∧ (((a2 < 0) → (K (-1) h)) ∧ (¬ (a2 < 0) → ((inL a2) ∧ (((a2 > 9) → (K (-1) h)) ∧ (¬ (a2 > 9) → (C_X12_stonesAsNow w h (fun _ h10 => (0 ≤ (8 + a1) ∧ (8 + a1) < 16) ∧ ((0 ≤ a1 ∧ a1 < 8) ∧ ((inR ((a2 + (h10 95 (8 + a1))) - (3 * (h10 105 a1)))) ∧ (((((a2 + (h10 95 (8 + a1))) - (3 * (h10 105 a1))) ≥ 0) → (K ((a2 + (h10 95 (8 + a1))) - (3 * (h10 105 a1))) h10)) ∧ (¬ (((a2 + (h10 95 (8 + a1))) - (3 * (h10 105 a1))) ≥ 0) → (K 0 h10))))))))))))))))))))))) : C_X12_flow w a1 a2 h K := by
  refine CGm_of2 (by decide) (by decide) trivial (Nat.le_of_ble_eq_true rfl) ?_
  refine J_aload_n 1 rfl 0 0 rfl ⟨by decide, by decide⟩ (D_X12_flow_0.at 0 rfl) ?_
  refine J_iload_n 2 rfl 1 1 rfl (D_X12_flow_0.at 1 rfl) ?_
  refine J_callV (d' := 2) (K1 := fun z h0 => rok (some .boolean) z → JG w true m_X12_flow 3 NT NT 5 [(0, vR 68), (1, vI a1), (2, vI a2)] [vI z] h0 _) (sr := fun z => [vI z]) (as := [vI a1]) (st := []) (o := 68) 5 rfl ok_X12_isReach im_X12_isReach se_X12_isReach ml_12_499 isC_12 ob_68 (Ob.lt ob_68) rfl (by decide) ⟨Nat.le_refl _, Nat.le_refl _⟩ (Nat.le_of_ble_eq_true rfl) (D_X12_flow_0.at 2 rfl) (fun _ => rfl) (CGm_of2 (by decide) (by decide) trivial (Nat.le_of_ble_eq_true rfl) ?_) (fun _ _ kq hb => kq hb)
  refine J_iload_n 1 rfl 1 1 rfl (D_X12_isReach_0.at 0 rfl) ?_
  obtain ⟨s1, T⟩ := T
  refine J_i2l 2 rfl s1 (D_X12_isReach_0.at 1 rfl) ?_
  refine J_lconst (z := 0) 3 rfl rfl (D_X12_isReach_0.at 2 rfl) ?_
  refine J_aload_n 4 rfl 0 0 rfl ⟨by decide, by decide⟩ (D_X12_isReach_0.at 3 rfl) ?_
  refine J_getI (z := (h 68 36)) 7 rfl fl_12_356 rfl ob_68 (Ob.lt ob_68) (D_X12_isReach_0.at 4 rfl) rfl ?_
  refine J_iconst 8 rfl (D_X12_isReach_0.at 5 rfl) ?_
  refine J_isub 9 rfl (D_X12_isReach_0.at 6 rfl) ?_
  obtain ⟨s2, T⟩ := T
  refine J_i2l 10 rfl s2 (D_X12_isReach_0.at 7 rfl) ?_
  refine J_callS (d' := 1) (K1 := fun z h0 => rok (some .boolean) z → JG w true m_X12_isReach 2 NT NT 13 [(0, vR 68), (1, vI a1)] [vI z] h0 _) (sr := fun z => [vI z]) (as := [vL a1, vL 0, vL ((h 68 36) - 1)]) (st := []) 13 rfl ok_X12_isIn sm_X12_isIn ml_12_267 rfl (by decide) ⟨Nat.le_refl _, Nat.le_refl _⟩ (Nat.le_of_ble_eq_true rfl) (D_X12_isReach_0.at 8 rfl) (fun _ => rfl) (CGm_of2 (by decide) (by decide) trivial (Nat.le_of_ble_eq_true rfl) ?_) (fun _ _ kq hb => kq hb)
  refine J_lload_n 1 rfl 0 0 rfl (D_X12_isIn_0.at 0 rfl) ?_
  refine J_lload_n 2 rfl 2 1 rfl (D_X12_isIn_0.at 1 rfl) ?_
  obtain ⟨s3, T⟩ := T
  refine J_lcmp_lt 6 rfl 17 s3 ⟨by decide, by decide⟩ (D_X12_isIn_0.at 2 rfl) (D_X12_isIn_0.at 3 rfl) (by decide) (fun c19 => ?_) (fun c19 => ?_)
  · replace T := T.1 c19
    refine J_iconst 18 rfl (D_X12_isIn_0.at 10 rfl) ?_
    refine J_zret rfl (Or.inl rfl) (D_X12_isIn_0.at 11 rfl) (fun _ => ?_)
    refine J_zret rfl (Or.inl rfl) (D_X12_isReach_0.at 9 rfl) (fun _ => ?_)
    refine J_if_eq 8 rfl 15 ⟨by decide, by decide⟩ (D_X12_flow_0.at 3 rfl) (by decide) (fun _ => ?_) (fun c => absurd (by decide) c)
    refine J_iconst 16 rfl (D_X12_flow_0.at 7 rfl) ?_
    exact J_iret rfl (D_X12_flow_0.at 8 rfl) T
  replace T := T.2 c19
  refine J_lload_n 7 rfl 0 0 rfl (D_X12_isIn_0.at 4 rfl) ?_
  refine J_lload 9 rfl 4 2 rfl (D_X12_isIn_0.at 5 rfl) ?_
  obtain ⟨s4, T⟩ := T
  obtain ⟨s5, T⟩ := T
  refine J_lcmp_gt 13 rfl 17 s4 s5 (D_X12_isIn_0.at 6 rfl) (D_X12_isIn_0.at 7 rfl) (by decide) (fun c18 => ?_) (fun c18 => ?_)
  · replace T := T.1 c18
    refine J_iconst 18 rfl (D_X12_isIn_0.at 10 rfl) ?_
    refine J_zret rfl (Or.inl rfl) (D_X12_isIn_0.at 11 rfl) (fun _ => ?_)
    refine J_zret rfl (Or.inl rfl) (D_X12_isReach_0.at 9 rfl) (fun _ => ?_)
    refine J_if_eq 8 rfl 15 ⟨by decide, by decide⟩ (D_X12_flow_0.at 3 rfl) (by decide) (fun _ => ?_) (fun c => absurd (by decide) c)
    refine J_iconst 16 rfl (D_X12_flow_0.at 7 rfl) ?_
    exact J_iret rfl (D_X12_flow_0.at 8 rfl) T
  replace T := T.2 c18
  refine J_iconst 14 rfl (D_X12_isIn_0.at 8 rfl) ?_
  refine J_goto 18 (D_X12_isIn_0.at 9 rfl) (by decide) ?_
  refine J_zret rfl (Or.inr rfl) (D_X12_isIn_0.at 11 rfl) (fun _ => ?_)
  refine J_zret rfl (Or.inr rfl) (D_X12_isReach_0.at 9 rfl) (fun _ => ?_)
  refine J_if_eq 8 rfl 15 ⟨by decide, by decide⟩ (D_X12_flow_0.at 3 rfl) (by decide) (fun c => absurd c (by decide)) (fun _ => ?_)
  refine J_iload_n 9 rfl 2 2 rfl (D_X12_flow_0.at 4 rfl) ?_
  refine J_callS (d' := 2) (K1 := fun z h0 => rok (some .boolean) z → JG w true m_X12_flow 3 NT NT 12 [(0, vR 68), (1, vI a1), (2, vI a2)] [vI z] h0 _) (sr := fun z => [vI z]) (as := [vI a2]) (st := []) 12 rfl ok_X12_isLevel sm_X12_isLevel ml_12_514 rfl (by decide) ⟨Nat.le_refl _, Nat.le_refl _⟩ (Nat.le_of_ble_eq_true rfl) (D_X12_flow_0.at 5 rfl) (fun _ => rfl) (CGm_of2 (by decide) (by decide) trivial (Nat.le_of_ble_eq_true rfl) ?_) (fun _ _ kq hb => kq hb)
  refine J_iload_n 1 rfl 0 0 rfl (D_X12_isLevel_0.at 0 rfl) ?_
  obtain ⟨s6, T⟩ := T
  refine J_i2l 2 rfl s6 (D_X12_isLevel_0.at 1 rfl) ?_
  refine J_lconst (z := 0) 3 rfl rfl (D_X12_isLevel_0.at 2 rfl) ?_
  refine J_ldc2 6 rfl ko_12_425 (D_X12_isLevel_0.at 3 rfl) ?_
  refine J_callS (d' := 1) (K1 := fun z h0 => rok (some .boolean) z → JG w true m_X12_isLevel 2 NT NT 9 [(0, vI a2)] [vI z] h0 _) (sr := fun z => [vI z]) (as := [vL a2, vL 0, vL 9]) (st := []) 9 rfl ok_X12_isIn sm_X12_isIn ml_12_267 rfl (by decide) ⟨Nat.le_refl _, Nat.le_refl _⟩ (Nat.le_of_ble_eq_true rfl) (D_X12_isLevel_0.at 4 rfl) (fun _ => rfl) (CGm_of2 (by decide) (by decide) trivial (Nat.le_of_ble_eq_true rfl) ?_) (fun _ _ kq hb => kq hb)
  refine J_lload_n 1 rfl 0 0 rfl (D_X12_isIn_0.at 0 rfl) ?_
  refine J_lload_n 2 rfl 2 1 rfl (D_X12_isIn_0.at 1 rfl) ?_
  obtain ⟨s7, T⟩ := T
  refine J_lcmp_lt 6 rfl 17 s7 ⟨by decide, by decide⟩ (D_X12_isIn_0.at 2 rfl) (D_X12_isIn_0.at 3 rfl) (by decide) (fun c17 => ?_) (fun c17 => ?_)
  · replace T := T.1 c17
    refine J_iconst 18 rfl (D_X12_isIn_0.at 10 rfl) ?_
    refine J_zret rfl (Or.inl rfl) (D_X12_isIn_0.at 11 rfl) (fun _ => ?_)
    refine J_zret rfl (Or.inl rfl) (D_X12_isLevel_0.at 5 rfl) (fun _ => ?_)
    refine J_if_ne 15 rfl 17 ⟨by decide, by decide⟩ (D_X12_flow_0.at 6 rfl) (by decide) (fun c => absurd c (by decide)) (fun _ => ?_)
    refine J_iconst 16 rfl (D_X12_flow_0.at 7 rfl) ?_
    exact J_iret rfl (D_X12_flow_0.at 8 rfl) T
  replace T := T.2 c17
  refine J_lload_n 7 rfl 0 0 rfl (D_X12_isIn_0.at 4 rfl) ?_
  refine J_lload 9 rfl 4 2 rfl (D_X12_isIn_0.at 5 rfl) ?_
  obtain ⟨s8, T⟩ := T
  refine J_lcmp_gt 13 rfl 17 s8 ⟨by decide, by decide⟩ (D_X12_isIn_0.at 6 rfl) (D_X12_isIn_0.at 7 rfl) (by decide) (fun c16 => ?_) (fun c16 => ?_)
  · replace T := T.1 c16
    refine J_iconst 18 rfl (D_X12_isIn_0.at 10 rfl) ?_
    refine J_zret rfl (Or.inl rfl) (D_X12_isIn_0.at 11 rfl) (fun _ => ?_)
    refine J_zret rfl (Or.inl rfl) (D_X12_isLevel_0.at 5 rfl) (fun _ => ?_)
    refine J_if_ne 15 rfl 17 ⟨by decide, by decide⟩ (D_X12_flow_0.at 6 rfl) (by decide) (fun c => absurd c (by decide)) (fun _ => ?_)
    refine J_iconst 16 rfl (D_X12_flow_0.at 7 rfl) ?_
    exact J_iret rfl (D_X12_flow_0.at 8 rfl) T
  replace T := T.2 c16
  refine J_iconst 14 rfl (D_X12_isIn_0.at 8 rfl) ?_
  refine J_goto 18 (D_X12_isIn_0.at 9 rfl) (by decide) ?_
  refine J_zret rfl (Or.inr rfl) (D_X12_isIn_0.at 11 rfl) (fun _ => ?_)
  refine J_zret rfl (Or.inr rfl) (D_X12_isLevel_0.at 5 rfl) (fun _ => ?_)
  refine J_if_ne 15 rfl 17 ⟨by decide, by decide⟩ (D_X12_flow_0.at 6 rfl) (by decide) (fun _ => ?_) (fun c => absurd (by decide) c)
  refine J_aload_n 18 rfl 0 0 rfl ⟨by decide, by decide⟩ (D_X12_flow_0.at 9 rfl) ?_
  refine J_callV (d' := 1) (sr := fun z => []) (as := []) (st := []) (o := 68) 21 rfl ok_X12_stonesAsNow im_X12_stonesAsNow se_X12_stonesAsNow ml_12_447 isC_12 ob_68 (Ob.lt ob_68) rfl (by decide) ⟨Nat.le_refl _, Nat.le_refl _⟩ (Nat.le_of_ble_eq_true rfl) (D_X12_flow_0.at 10 rfl) (fun _ => rfl) T (fun r9 h10 T b11 => ?_)
  refine J_aload_n 22 rfl 0 0 rfl ⟨by decide, by decide⟩ (D_X12_flow_0.at 11 rfl) ?_
  refine J_iload_n 23 rfl 1 1 rfl (D_X12_flow_0.at 12 rfl) ?_
  refine J_iload_n 24 rfl 2 2 rfl (D_X12_flow_0.at 13 rfl) ?_
  refine J_callV (d' := 1) (K1 := fun z h0 => rok (some .int) z → JG w true m_X12_flow 3 NT NT 27 [(0, vR 68), (1, vI a1), (2, vI a2)] [vI z] h0 _) (sr := fun z => [vI z]) (as := [vI a1, vI a2]) (st := []) (o := 68) 27 rfl ok_X12_flowOf im_X12_flowOf se_X12_flowOf ml_12_427 isC_12 ob_68 (Ob.lt ob_68) rfl (by decide) ⟨Nat.le_refl _, Nat.le_refl _⟩ (Nat.le_of_ble_eq_true rfl) (D_X12_flow_0.at 14 rfl) (fun _ => rfl) (CGm_of2 (by decide) (by decide) trivial (Nat.le_of_ble_eq_true rfl) ?_) (fun _ _ kq hb => kq hb)
  refine J_iload_n 1 rfl 2 2 rfl (D_X12_flowOf_0.at 0 rfl) ?_
  refine J_aload_n 2 rfl 0 0 rfl ⟨by decide, by decide⟩ (D_X12_flowOf_0.at 1 rfl) ?_
  refine J_getF (ov := 95) (dd := 1027) 5 rfl fl_12_94 rfl (by decide) rfl ob_68 (Ob.lt ob_68) (D_X12_flowOf_0.at 2 rfl) ?_
  refine J_bipush 7 rfl ⟨by decide, by decide⟩ (D_X12_flowOf_0.at 3 rfl) ?_
  refine J_iload_n 8 rfl 1 1 rfl (D_X12_flowOf_0.at 4 rfl) ?_
  refine J_iadd 9 rfl (D_X12_flowOf_0.at 5 rfl) ?_
  obtain ⟨s12, T⟩ := T
  refine J_iald 10 rfl ar_95 (Ar.lt ar_95) s12 (D_X12_flowOf_0.at 6 rfl) ?_
  refine J_iadd 11 rfl (D_X12_flowOf_0.at 7 rfl) ?_
  refine J_iconst 12 rfl (D_X12_flowOf_0.at 8 rfl) ?_
  refine J_aload_n 13 rfl 0 0 rfl ⟨by decide, by decide⟩ (D_X12_flowOf_0.at 9 rfl) ?_
  refine J_getF (ov := 105) (dd := 1037) 16 rfl fl_12_124 rfl (by decide) rfl ob_68 (Ob.lt ob_68) (D_X12_flowOf_0.at 10 rfl) ?_
  refine J_iload_n 17 rfl 1 1 rfl (D_X12_flowOf_0.at 11 rfl) ?_
  obtain ⟨s13, T⟩ := T
  refine J_iald 18 rfl ar_105 (Ar.lt ar_105) s13 (D_X12_flowOf_0.at 12 rfl) ?_
  refine J_imul 19 rfl (D_X12_flowOf_0.at 13 rfl) ?_
  refine J_isub 20 rfl (D_X12_flowOf_0.at 14 rfl) ?_
  refine J_istore_n (lv' := [(3, vI ((a2 + (h10 95 (8 + a1))) - (3 * (h10 105 a1)))), (0, vR 68), (1, vI a1), (2, vI a2)]) 21 rfl 3 (by decide) rfl (D_X12_flowOf_0.at 15 rfl) ?_
  refine J_iload_n 22 rfl 3 0 rfl (D_X12_flowOf_0.at 16 rfl) ?_
  obtain ⟨s14, T⟩ := T
  refine J_if_ge 25 rfl 29 s14 (D_X12_flowOf_0.at 17 rfl) (by decide) (fun c15 => ?_) (fun c15 => ?_)
  · replace T := T.1 c15
    refine J_iload_n 30 rfl 3 0 rfl (D_X12_flowOf_0.at 20 rfl) ?_
    refine J_iret rfl (D_X12_flowOf_0.at 21 rfl) (fun _ => ?_)
    exact J_iret rfl (D_X12_flow_0.at 15 rfl) T
  replace T := T.2 c15
  refine J_iconst 26 rfl (D_X12_flowOf_0.at 18 rfl) ?_
  refine J_goto 30 (D_X12_flowOf_0.at 19 rfl) (by decide) ?_
  refine J_iret rfl (D_X12_flowOf_0.at 21 rfl) (fun _ => ?_)
  exact J_iret rfl (D_X12_flow_0.at 15 rfl) T
theorem c_X12_told {w : Wd} {a1 a2 : Int} {h : Hp} {K : Int → Hp → Prop} (T : ∀ h1 : Hp, h1 = hu h 68 50 0 → (0 ≤ (2 + a1) ∧ (2 + a1) < 4) ∧ (L_X12_told_14 w a1 a2 (h1 98 (2 + a1)) h1 K)) : C_X12_told w a1 a2 h K := by
  refine CGm_of2 (by decide) (by decide) trivial (Nat.le_of_ble_eq_true rfl) ?_
  refine J_aload_n 1 rfl 0 0 rfl ⟨by decide, by decide⟩ (D_X12_told_0.at 0 rfl) ?_
  refine J_iconst 2 rfl (D_X12_told_0.at 1 rfl) ?_
  refine J_putI 5 rfl fl_12_397 rfl rfl ob_68 (Ob.lt ob_68) (D_X12_told_0.at 2 rfl) (fun h1 e2 => ?_)
  replace T := T h1 e2
  refine J_aload_n 6 rfl 0 0 rfl ⟨by decide, by decide⟩ (D_X12_told_0.at 3 rfl) ?_
  refine J_getF (ov := 98) (dd := 1030) 9 rfl fl_12_103 rfl (by decide) rfl ob_68 (Ob.lt ob_68) (D_X12_told_0.at 4 rfl) ?_
  refine J_iconst 10 rfl (D_X12_told_0.at 5 rfl) ?_
  refine J_iload_n 11 rfl 1 1 rfl (D_X12_told_0.at 6 rfl) ?_
  refine J_iadd 12 rfl (D_X12_told_0.at 7 rfl) ?_
  obtain ⟨s3, T⟩ := T
  refine J_iald 13 rfl ar_98 (Ar.lt ar_98) s3 (D_X12_told_0.at 8 rfl) ?_
  refine J_istore_n (lv' := [(3, vI (h1 98 (2 + a1))), (0, vR 68), (1, vI a1), (2, vI a2)]) 14 rfl 3 (by decide) rfl (D_X12_told_0.at 9 rfl) ?_
  exact J_sub (lv' := [(0, vR 68), (1, vI a1), (2, vI a2), (3, vI (h1 98 (2 + a1)))]) [1, 2, 3, 0] rfl T
theorem l_X12_told_14 {w : Wd} {v1 v2 v3 : Int} {h : Hp} {K : Int → Hp → Prop} (T : (0 ≤ (2 + v1) ∧ (2 + v1) < 4) ∧ ((inR v3) ∧ ((inR (h 99 (2 + v1))) ∧ (((v3 ≥ (h 99 (2 + v1))) → ((inL (h 102 0)) ∧ ((((h 102 0) ≥ 0) → ((inR v2) ∧ ((inL (h 102 0)) ∧ ((inL v2) ∧ ((((h 102 0) ≤ v2) → (K (h 102 0) h)) ∧ (¬ ((h 102 0) ≤ v2) → (K v2 h))))))) ∧ (¬ ((h 102 0) ≥ 0) → (K 0 h))))) ∧ (¬ (v3 ≥ (h 99 (2 + v1))) → ((0 ≤ (1600 + v3) ∧ (1600 + v3) < 3200) ∧ ((inR (h 100 (1600 + v3))) ∧ ((((h 100 (1600 + v3)) < 1000) → ((inR (h 100 (1600 + v3))) ∧ ((inL (h 100 (1600 + v3))) ∧ ((((h 100 (1600 + v3)) < 7) → (C_X12_joins w (h 100 (1600 + v3)) h (fun _ h18 => L_X12_told_14 w v1 v2 (v3 + 1) h18 K))) ∧ (¬ ((h 100 (1600 + v3)) < 7) → ((inL (h 100 (1600 + v3))) ∧ ((((h 100 (1600 + v3)) > 13) → (C_X12_joins w (h 100 (1600 + v3)) h (fun _ h22 => L_X12_told_14 w v1 v2 (v3 + 1) h22 K))) ∧ (¬ ((h 100 (1600 + v3)) > 13) → ((0 ≤ ((h 100 (1600 + v3)) - 7) ∧ ((h 100 (1600 + v3)) - 7) < 7) ∧ ((inR (h 103 ((h 100 (1600 + v3)) - 7))) ∧ (C_X12_puts w (h 103 ((h 100 (1600 + v3)) - 7)) h (fun _ h27 => L_X12_told_14 w v1 v2 (v3 + 1) h27 K)))))))))))) ∧ (¬ ((h 100 (1600 + v3)) < 1000) → ((inR ((h 100 (1600 + v3)) - 1000)) ∧ (C_X12_puts w ((h 100 (1600 + v3)) - 1000) h (fun _ h33 => L_X12_told_14 w v1 v2 (v3 + 1) h33 K)))))))))))) : L_X12_told_14 w v1 v2 v3 h K := by
  unfold L_X12_told_14
  refine J_iload_n 15 rfl 3 3 rfl (D_X12_told_0.at 10 rfl) ?_
  refine J_aload_n 16 rfl 0 0 rfl ⟨by decide, by decide⟩ (D_X12_told_0.at 11 rfl) ?_
  refine J_getF (ov := 99) (dd := 1031) 19 rfl fl_12_106 rfl (by decide) rfl ob_68 (Ob.lt ob_68) (D_X12_told_0.at 12 rfl) ?_
  refine J_iconst 20 rfl (D_X12_told_0.at 13 rfl) ?_
  refine J_iload_n 21 rfl 1 1 rfl (D_X12_told_0.at 14 rfl) ?_
  refine J_iadd 22 rfl (D_X12_told_0.at 15 rfl) ?_
  obtain ⟨s4, T⟩ := T
  refine J_iald 23 rfl ar_99 (Ar.lt ar_99) s4 (D_X12_told_0.at 16 rfl) ?_
  obtain ⟨s5, T⟩ := T
  obtain ⟨s6, T⟩ := T
  refine J_icmp_ge 26 rfl 105 s5 s6 (D_X12_told_0.at 17 rfl) (by decide) (fun c36 => ?_) (fun c36 => ?_)
  · replace T := T.1 c36
    refine J_aload_n 106 rfl 0 0 rfl ⟨by decide, by decide⟩ (D_X12_told_1.at 8 rfl) ?_
    refine J_getF (ov := 102) (dd := 1034) 109 rfl fl_12_115 rfl (by decide) rfl ob_68 (Ob.lt ob_68) (D_X12_told_1.at 9 rfl) ?_
    refine J_iconst 110 rfl (D_X12_told_1.at 10 rfl) ?_
    refine J_lald 111 rfl ar_102 (Ar.lt ar_102) ⟨by decide, by decide⟩ (D_X12_told_1.at 11 rfl) ?_
    refine J_lconst (z := 0) 112 rfl rfl (D_X12_told_1.at 12 rfl) ?_
    obtain ⟨s7, T⟩ := T
    refine J_lcmp_ge 116 rfl 120 s7 ⟨by decide, by decide⟩ (D_X12_told_1.at 13 rfl) (D_X12_told_1.at 14 rfl) (by decide) (fun c12 => ?_) (fun c12 => ?_)
    · replace T := T.1 c12
      refine J_aload_n 121 rfl 0 0 rfl ⟨by decide, by decide⟩ (D_X12_told_1.at 17 rfl) ?_
      refine J_getF (ov := 102) (dd := 1034) 124 rfl fl_12_115 rfl (by decide) rfl ob_68 (Ob.lt ob_68) (D_X12_told_1.at 18 rfl) ?_
      refine J_iconst 125 rfl (D_X12_told_1.at 19 rfl) ?_
      refine J_lald 126 rfl ar_102 (Ar.lt ar_102) ⟨by decide, by decide⟩ (D_X12_told_1.at 20 rfl) ?_
      refine J_iload_n 127 rfl 2 2 rfl (D_X12_told_1.at 21 rfl) ?_
      obtain ⟨s8, T⟩ := T
      refine J_i2l 128 rfl s8 (D_X12_told_1.at 22 rfl) ?_
      obtain ⟨s9, T⟩ := T
      obtain ⟨s10, T⟩ := T
      refine J_lcmp_le 132 rfl 136 s9 s10 (D_X12_told_1.at 23 rfl) (D_X12_told_1.at 24 rfl) (by decide) (fun c11 => ?_) (fun c11 => ?_)
      · replace T := T.1 c11
        refine J_aload_n 137 rfl 0 0 rfl ⟨by decide, by decide⟩ (D_X12_told_1.at 27 rfl) ?_
        refine J_getF (ov := 102) (dd := 1034) 140 rfl fl_12_115 rfl (by decide) rfl ob_68 (Ob.lt ob_68) (D_X12_told_1.at 28 rfl) ?_
        refine J_iconst 141 rfl (D_X12_told_1.at 29 rfl) ?_
        refine J_lald 142 rfl ar_102 (Ar.lt ar_102) ⟨by decide, by decide⟩ (D_X12_told_1.at 30 rfl) ?_
        refine J_l2i 143 rfl (D_X12_told_1.at 31 rfl) ?_
        exact J_iret rfl (D_X12_told_1.at 32 rfl) T
      replace T := T.2 c11
      refine J_iload_n 133 rfl 2 2 rfl (D_X12_told_1.at 25 rfl) ?_
      refine J_goto 143 (D_X12_told_1.at 26 rfl) (by decide) ?_
      exact J_iret rfl (D_X12_told_1.at 32 rfl) T
    replace T := T.2 c12
    refine J_iconst 117 rfl (D_X12_told_1.at 15 rfl) ?_
    refine J_goto 143 (D_X12_told_1.at 16 rfl) (by decide) ?_
    exact J_iret rfl (D_X12_told_1.at 32 rfl) T
  replace T := T.2 c36
  refine J_aload_n 27 rfl 0 0 rfl ⟨by decide, by decide⟩ (D_X12_told_0.at 18 rfl) ?_
  refine J_getF (ov := 100) (dd := 1032) 30 rfl fl_12_109 rfl (by decide) rfl ob_68 (Ob.lt ob_68) (D_X12_told_0.at 19 rfl) ?_
  refine J_sipush 33 rfl ⟨by decide, by decide⟩ (D_X12_told_0.at 20 rfl) ?_
  refine J_iload_n 34 rfl 3 3 rfl (D_X12_told_0.at 21 rfl) ?_
  refine J_iadd 35 rfl (D_X12_told_0.at 22 rfl) ?_
  obtain ⟨s13, T⟩ := T
  refine J_iald 36 rfl ar_100 (Ar.lt ar_100) s13 (D_X12_told_0.at 23 rfl) ?_
  refine J_istore (lv' := [(4, vI (h 100 (1600 + v3))), (0, vR 68), (1, vI v1), (2, vI v2), (3, vI v3)]) 38 rfl 4 (by decide) rfl (D_X12_told_0.at 24 rfl) ?_
  refine J_iload 40 rfl 4 0 rfl (D_X12_told_0.at 25 rfl) ?_
  refine J_sipush 43 rfl ⟨by decide, by decide⟩ (D_X12_told_0.at 26 rfl) ?_
  obtain ⟨s14, T⟩ := T
  refine J_icmp_lt 46 rfl 60 s14 ⟨by decide, by decide⟩ (D_X12_told_0.at 27 rfl) (by decide) (fun c35 => ?_) (fun c35 => ?_)
  · replace T := T.1 c35
    refine J_iload 62 rfl 4 0 rfl (D_X12_told_0.at 35 rfl) ?_
    obtain ⟨s15, T⟩ := T
    refine J_i2l 63 rfl s15 (D_X12_told_0.at 36 rfl) ?_
    refine J_ldc2 66 rfl ko_12_412 (D_X12_told_0.at 37 rfl) ?_
    refine J_ldc2 69 rfl ko_12_414 (D_X12_told_0.at 38 rfl) ?_
    refine J_callS (d' := 1) (K1 := fun z h0 => rok (some .boolean) z → JG w true m_X12_told 3 NT NT 72 [(4, vI (h 100 (1600 + v3))), (0, vR 68), (1, vI v1), (2, vI v2), (3, vI v3)] [vI z] h0 _) (sr := fun z => [vI z]) (as := [vL (h 100 (1600 + v3)), vL 7, vL 13]) (st := []) 72 rfl ok_X12_isIn sm_X12_isIn ml_12_267 rfl (by decide) ⟨Nat.le_refl _, Nat.le_refl _⟩ (Nat.le_of_ble_eq_true rfl) (D_X12_told_0.at 39 rfl) (fun _ => rfl) (CGm_of2 (by decide) (by decide) trivial (Nat.le_of_ble_eq_true rfl) ?_) (fun _ _ kq hb => kq hb)
    refine J_lload_n 1 rfl 0 0 rfl (D_X12_isIn_0.at 0 rfl) ?_
    refine J_lload_n 2 rfl 2 1 rfl (D_X12_isIn_0.at 1 rfl) ?_
    obtain ⟨s16, T⟩ := T
    refine J_lcmp_lt 6 rfl 17 s16 ⟨by decide, by decide⟩ (D_X12_isIn_0.at 2 rfl) (D_X12_isIn_0.at 3 rfl) (by decide) (fun c30 => ?_) (fun c30 => ?_)
    · replace T := T.1 c30
      refine J_iconst 18 rfl (D_X12_isIn_0.at 10 rfl) ?_
      refine J_zret rfl (Or.inl rfl) (D_X12_isIn_0.at 11 rfl) (fun _ => ?_)
      refine J_if_eq 75 rfl 93 ⟨by decide, by decide⟩ (D_X12_told_0.at 40 rfl) (by decide) (fun _ => ?_) (fun c => absurd (by decide) c)
      refine J_aload_n 94 rfl 0 1 rfl ⟨by decide, by decide⟩ (D_X12_told_1.at 3 rfl) ?_
      refine J_iload 96 rfl 4 0 rfl (D_X12_told_1.at 4 rfl) ?_
      refine J_callV (d' := 2) (sr := fun z => []) (as := [vI (h 100 (1600 + v3))]) (st := []) (o := 68) 99 rfl ok_X12_joins im_X12_joins se_X12_joins ml_12_416 isC_12 ob_68 (Ob.lt ob_68) rfl (by decide) ⟨Nat.le_refl _, Nat.le_refl _⟩ (Nat.le_of_ble_eq_true rfl) (D_X12_told_1.at 5 rfl) (fun _ => rfl) T (fun r17 h18 T b19 => ?_)
      refine J_iinc (v := (v3 + 1)) (lv' := [(3, vI (v3 + 1)), (4, vI (h 100 (1600 + v3))), (0, vR 68), (1, vI v1), (2, vI v2)]) 102 rfl 3 4 1 rfl rfl (by decide) rfl (D_X12_told_1.at 6 rfl) ?_
      refine J_goto 14 (D_X12_told_1.at 7 rfl) (by decide) ?_
      exact J_sub (lv' := [(0, vR 68), (1, vI v1), (2, vI v2), (3, vI (v3 + 1))]) [2, 3, 4, 0] rfl T
    replace T := T.2 c30
    refine J_lload_n 7 rfl 0 0 rfl (D_X12_isIn_0.at 4 rfl) ?_
    refine J_lload 9 rfl 4 2 rfl (D_X12_isIn_0.at 5 rfl) ?_
    obtain ⟨s20, T⟩ := T
    refine J_lcmp_gt 13 rfl 17 s20 ⟨by decide, by decide⟩ (D_X12_isIn_0.at 6 rfl) (D_X12_isIn_0.at 7 rfl) (by decide) (fun c29 => ?_) (fun c29 => ?_)
    · replace T := T.1 c29
      refine J_iconst 18 rfl (D_X12_isIn_0.at 10 rfl) ?_
      refine J_zret rfl (Or.inl rfl) (D_X12_isIn_0.at 11 rfl) (fun _ => ?_)
      refine J_if_eq 75 rfl 93 ⟨by decide, by decide⟩ (D_X12_told_0.at 40 rfl) (by decide) (fun _ => ?_) (fun c => absurd (by decide) c)
      refine J_aload_n 94 rfl 0 1 rfl ⟨by decide, by decide⟩ (D_X12_told_1.at 3 rfl) ?_
      refine J_iload 96 rfl 4 0 rfl (D_X12_told_1.at 4 rfl) ?_
      refine J_callV (d' := 2) (sr := fun z => []) (as := [vI (h 100 (1600 + v3))]) (st := []) (o := 68) 99 rfl ok_X12_joins im_X12_joins se_X12_joins ml_12_416 isC_12 ob_68 (Ob.lt ob_68) rfl (by decide) ⟨Nat.le_refl _, Nat.le_refl _⟩ (Nat.le_of_ble_eq_true rfl) (D_X12_told_1.at 5 rfl) (fun _ => rfl) T (fun r21 h22 T b23 => ?_)
      refine J_iinc (v := (v3 + 1)) (lv' := [(3, vI (v3 + 1)), (4, vI (h 100 (1600 + v3))), (0, vR 68), (1, vI v1), (2, vI v2)]) 102 rfl 3 4 1 rfl rfl (by decide) rfl (D_X12_told_1.at 6 rfl) ?_
      refine J_goto 14 (D_X12_told_1.at 7 rfl) (by decide) ?_
      exact J_sub (lv' := [(0, vR 68), (1, vI v1), (2, vI v2), (3, vI (v3 + 1))]) [2, 3, 4, 0] rfl T
    replace T := T.2 c29
    refine J_iconst 14 rfl (D_X12_isIn_0.at 8 rfl) ?_
    refine J_goto 18 (D_X12_isIn_0.at 9 rfl) (by decide) ?_
    refine J_zret rfl (Or.inr rfl) (D_X12_isIn_0.at 11 rfl) (fun _ => ?_)
    refine J_if_eq 75 rfl 93 ⟨by decide, by decide⟩ (D_X12_told_0.at 40 rfl) (by decide) (fun c => absurd c (by decide)) (fun _ => ?_)
    refine J_aload_n 76 rfl 0 1 rfl ⟨by decide, by decide⟩ (D_X12_told_0.at 41 rfl) ?_
    refine J_aload_n 77 rfl 0 1 rfl ⟨by decide, by decide⟩ (D_X12_told_0.at 42 rfl) ?_
    refine J_getF (ov := 103) (dd := 1035) 80 rfl fl_12_118 rfl (by decide) rfl ob_68 (Ob.lt ob_68) (D_X12_told_0.at 43 rfl) ?_
    refine J_iload 82 rfl 4 0 rfl (D_X12_told_0.at 44 rfl) ?_
    refine J_bipush 84 rfl ⟨by decide, by decide⟩ (D_X12_told_0.at 45 rfl) ?_
    refine J_isub 85 rfl (D_X12_told_0.at 46 rfl) ?_
    obtain ⟨s24, T⟩ := T
    refine J_iald 86 rfl ar_103 (Ar.lt ar_103) s24 (D_X12_told_0.at 47 rfl) ?_
    obtain ⟨s25, T⟩ := T
    refine J_i2l 87 rfl s25 (D_X12_told_1.at 0 rfl) ?_
    refine J_callV (d' := 1) (sr := fun z => []) (as := [vL (h 103 ((h 100 (1600 + v3)) - 7))]) (st := []) (o := 68) 90 rfl ok_X12_puts im_X12_puts se_X12_puts ml_12_404 isC_12 ob_68 (Ob.lt ob_68) rfl (by decide) ⟨Nat.le_refl _, Nat.le_refl _⟩ (Nat.le_of_ble_eq_true rfl) (D_X12_told_1.at 1 rfl) (fun _ => rfl) T (fun r26 h27 T b28 => ?_)
    refine J_goto 99 (D_X12_told_1.at 2 rfl) (by decide) ?_
    refine J_iinc (v := (v3 + 1)) (lv' := [(3, vI (v3 + 1)), (4, vI (h 100 (1600 + v3))), (0, vR 68), (1, vI v1), (2, vI v2)]) 102 rfl 3 4 1 rfl rfl (by decide) rfl (D_X12_told_1.at 6 rfl) ?_
    refine J_goto 14 (D_X12_told_1.at 7 rfl) (by decide) ?_
    exact J_sub (lv' := [(0, vR 68), (1, vI v1), (2, vI v2), (3, vI (v3 + 1))]) [2, 3, 4, 0] rfl T
  replace T := T.2 c35
  refine J_aload_n 47 rfl 0 1 rfl ⟨by decide, by decide⟩ (D_X12_told_0.at 28 rfl) ?_
  refine J_iload 49 rfl 4 0 rfl (D_X12_told_0.at 29 rfl) ?_
  refine J_sipush 52 rfl ⟨by decide, by decide⟩ (D_X12_told_0.at 30 rfl) ?_
  refine J_isub 53 rfl (D_X12_told_0.at 31 rfl) ?_
  obtain ⟨s31, T⟩ := T
  refine J_i2l 54 rfl s31 (D_X12_told_0.at 32 rfl) ?_
  refine J_callV (d' := 1) (sr := fun z => []) (as := [vL ((h 100 (1600 + v3)) - 1000)]) (st := []) (o := 68) 57 rfl ok_X12_puts im_X12_puts se_X12_puts ml_12_404 isC_12 ob_68 (Ob.lt ob_68) rfl (by decide) ⟨Nat.le_refl _, Nat.le_refl _⟩ (Nat.le_of_ble_eq_true rfl) (D_X12_told_0.at 33 rfl) (fun _ => rfl) T (fun r32 h33 T b34 => ?_)
  refine J_goto 99 (D_X12_told_0.at 34 rfl) (by decide) ?_
  refine J_iinc (v := (v3 + 1)) (lv' := [(3, vI (v3 + 1)), (4, vI (h 100 (1600 + v3))), (0, vR 68), (1, vI v1), (2, vI v2)]) 102 rfl 3 4 1 rfl rfl (by decide) rfl (D_X12_told_1.at 6 rfl) ?_
  refine J_goto 14 (D_X12_told_1.at 7 rfl) (by decide) ?_
  exact J_sub (lv' := [(0, vR 68), (1, vI v1), (2, vI v2), (3, vI (v3 + 1))]) [2, 3, 4, 0] rfl T
theorem c_X12_settledAll {w : Wd} {h : Hp} {K : Int → Hp → Prop} (T : L_X12_settledAll_4 w 0 0 h K) : C_X12_settledAll w h K := by
  refine CGm_of2 (by decide) (by decide) trivial (Nat.le_of_ble_eq_true rfl) ?_
  refine J_iconst 1 rfl (D_X12_settledAll_0.at 0 rfl) ?_
  refine J_istore_n (lv' := [(1, vI 0), (0, vR 68)]) 2 rfl 1 (by decide) rfl (D_X12_settledAll_0.at 1 rfl) ?_
  refine J_iconst 3 rfl (D_X12_settledAll_0.at 2 rfl) ?_
  refine J_istore_n (lv' := [(2, vI 0), (1, vI 0), (0, vR 68)]) 4 rfl 2 (by decide) rfl (D_X12_settledAll_0.at 3 rfl) ?_
  exact J_sub (lv' := [(0, vR 68), (1, vI 0), (2, vI 0)]) [2, 1, 0] rfl T
theorem l_X12_settledAll_4 {w : Wd} {v1 v2 : Int} {h : Hp} {K : Int → Hp → Prop} (T : (inR v2) ∧ ((inR (h 68 36)) ∧ (((v2 ≥ (h 68 36)) → (K v1 h)) ∧ (¬ (v2 ≥ (h 68 36)) → (C_X12_settledIn w v2 h (fun r3 h4 => L_X12_settledAll_4 w (v1 + r3) (v2 + 1) h4 K)))))) : L_X12_settledAll_4 w v1 v2 h K := by
  unfold L_X12_settledAll_4
  refine J_iload_n 5 rfl 2 2 rfl (D_X12_settledAll_0.at 4 rfl) ?_
  refine J_aload_n 6 rfl 0 0 rfl ⟨by decide, by decide⟩ (D_X12_settledAll_0.at 5 rfl) ?_
  refine J_getI (z := (h 68 36)) 9 rfl fl_12_356 rfl ob_68 (Ob.lt ob_68) (D_X12_settledAll_0.at 6 rfl) rfl ?_
  obtain ⟨s1, T⟩ := T
  obtain ⟨s2, T⟩ := T
  refine J_icmp_ge 12 rfl 26 s1 s2 (D_X12_settledAll_0.at 7 rfl) (by decide) (fun c6 => ?_) (fun c6 => ?_)
  · replace T := T.1 c6
    refine J_iload_n 27 rfl 1 1 rfl (D_X12_settledAll_0.at 16 rfl) ?_
    exact J_iret rfl (D_X12_settledAll_0.at 17 rfl) T
  replace T := T.2 c6
  refine J_iload_n 13 rfl 1 1 rfl (D_X12_settledAll_0.at 8 rfl) ?_
  refine J_aload_n 14 rfl 0 0 rfl ⟨by decide, by decide⟩ (D_X12_settledAll_0.at 9 rfl) ?_
  refine J_iload_n 15 rfl 2 2 rfl (D_X12_settledAll_0.at 10 rfl) ?_
  refine J_callV (d' := 2) (sr := fun z => [vI z, vI v1]) (as := [vI v2]) (st := [vI v1]) (o := 68) 18 rfl ok_X12_settledIn im_X12_settledIn se_X12_settledIn ml_12_453 isC_12 ob_68 (Ob.lt ob_68) rfl (by decide) ⟨Nat.le_refl _, Nat.le_refl _⟩ (Nat.le_of_ble_eq_true rfl) (D_X12_settledAll_0.at 11 rfl) (fun _ => rfl) T (fun r3 h4 T b5 => ?_)
  refine J_iadd 19 rfl (D_X12_settledAll_0.at 12 rfl) ?_
  refine J_istore_n (lv' := [(1, vI (v1 + r3)), (0, vR 68), (2, vI v2)]) 20 rfl 1 (by decide) rfl (D_X12_settledAll_0.at 13 rfl) ?_
  refine J_iinc (v := (v2 + 1)) (lv' := [(2, vI (v2 + 1)), (1, vI (v1 + r3)), (0, vR 68)]) 23 rfl 2 2 1 rfl rfl (by decide) rfl (D_X12_settledAll_0.at 14 rfl) ?_
  refine J_goto 4 (D_X12_settledAll_0.at 15 rfl) (by decide) ?_
  exact J_sub (lv' := [(0, vR 68), (1, vI (v1 + r3)), (2, vI (v2 + 1))]) [2, 1, 0] rfl T
theorem c_X12_mostSettled {w : Wd} {h : Hp} {K : Int → Hp → Prop} (T : L_X12_mostSettled_6 w (-1) 0 0 h K) : C_X12_mostSettled w h K := by
  refine CGm_of2 (by decide) (by decide) trivial (Nat.le_of_ble_eq_true rfl) ?_
  refine J_iconst 1 rfl (D_X12_mostSettled_0.at 0 rfl) ?_
  refine J_istore_n (lv' := [(1, vI (-1)), (0, vR 68)]) 2 rfl 1 (by decide) rfl (D_X12_mostSettled_0.at 1 rfl) ?_
  refine J_iconst 3 rfl (D_X12_mostSettled_0.at 2 rfl) ?_
  refine J_istore_n (lv' := [(2, vI 0), (1, vI (-1)), (0, vR 68)]) 4 rfl 2 (by decide) rfl (D_X12_mostSettled_0.at 3 rfl) ?_
  refine J_iconst 5 rfl (D_X12_mostSettled_0.at 4 rfl) ?_
  refine J_istore_n (lv' := [(3, vI 0), (2, vI 0), (1, vI (-1)), (0, vR 68)]) 6 rfl 3 (by decide) rfl (D_X12_mostSettled_0.at 5 rfl) ?_
  exact J_sub (lv' := [(0, vR 68), (1, vI (-1)), (2, vI 0), (3, vI 0)]) [3, 2, 1, 0] rfl T
theorem l_X12_mostSettled_6 {w : Wd} {v1 v2 v3 : Int} {h : Hp} {K : Int → Hp → Prop} (T : (inR v3) ∧ ((inR (h 68 36)) ∧ (((v3 ≥ (h 68 36)) → (K v1 h)) ∧ (¬ (v3 ≥ (h 68 36)) → (C_X12_settledIn w v3 h (fun r3 h4 => (inR r3) ∧ ((inR v2) ∧ (((r3 > v2) → (C_X12_settledIn w v3 h4 (fun r8 h9 => L_X12_mostSettled_6 w v3 r8 (v3 + 1) h9 K))) ∧ (¬ (r3 > v2) → (L_X12_mostSettled_6 w v1 v2 (v3 + 1) h4 K)))))))))) : L_X12_mostSettled_6 w v1 v2 v3 h K := by
  unfold L_X12_mostSettled_6
  refine J_iload_n 7 rfl 3 3 rfl (D_X12_mostSettled_0.at 6 rfl) ?_
  refine J_aload_n 8 rfl 0 0 rfl ⟨by decide, by decide⟩ (D_X12_mostSettled_0.at 7 rfl) ?_
  refine J_getI (z := (h 68 36)) 11 rfl fl_12_356 rfl ob_68 (Ob.lt ob_68) (D_X12_mostSettled_0.at 8 rfl) rfl ?_
  obtain ⟨s1, T⟩ := T
  obtain ⟨s2, T⟩ := T
  refine J_icmp_ge 14 rfl 40 s1 s2 (D_X12_mostSettled_0.at 9 rfl) (by decide) (fun c12 => ?_) (fun c12 => ?_)
  · replace T := T.1 c12
    refine J_iload_n 41 rfl 1 1 rfl (D_X12_mostSettled_0.at 24 rfl) ?_
    exact J_iret rfl (D_X12_mostSettled_0.at 25 rfl) T
  replace T := T.2 c12
  refine J_aload_n 15 rfl 0 0 rfl ⟨by decide, by decide⟩ (D_X12_mostSettled_0.at 10 rfl) ?_
  refine J_iload_n 16 rfl 3 3 rfl (D_X12_mostSettled_0.at 11 rfl) ?_
  refine J_callV (d' := 2) (sr := fun z => [vI z]) (as := [vI v3]) (st := []) (o := 68) 19 rfl ok_X12_settledIn im_X12_settledIn se_X12_settledIn ml_12_453 isC_12 ob_68 (Ob.lt ob_68) rfl (by decide) ⟨Nat.le_refl _, Nat.le_refl _⟩ (Nat.le_of_ble_eq_true rfl) (D_X12_mostSettled_0.at 12 rfl) (fun _ => rfl) T (fun r3 h4 T b5 => ?_)
  refine J_iload_n 20 rfl 2 2 rfl (D_X12_mostSettled_0.at 13 rfl) ?_
  obtain ⟨s6, T⟩ := T
  obtain ⟨s7, T⟩ := T
  refine J_icmp_gt 23 rfl 26 s6 s7 (D_X12_mostSettled_0.at 14 rfl) (by decide) (fun c11 => ?_) (fun c11 => ?_)
  · replace T := T.1 c11
    refine J_iload_n 27 rfl 3 3 rfl (D_X12_mostSettled_0.at 16 rfl) ?_
    refine J_istore_n (lv' := [(1, vI v3), (0, vR 68), (2, vI v2), (3, vI v3)]) 28 rfl 1 (by decide) rfl (D_X12_mostSettled_0.at 17 rfl) ?_
    refine J_aload_n 29 rfl 0 1 rfl ⟨by decide, by decide⟩ (D_X12_mostSettled_0.at 18 rfl) ?_
    refine J_iload_n 30 rfl 3 3 rfl (D_X12_mostSettled_0.at 19 rfl) ?_
    refine J_callV (d' := 2) (sr := fun z => [vI z]) (as := [vI v3]) (st := []) (o := 68) 33 rfl ok_X12_settledIn im_X12_settledIn se_X12_settledIn ml_12_453 isC_12 ob_68 (Ob.lt ob_68) rfl (by decide) ⟨Nat.le_refl _, Nat.le_refl _⟩ (Nat.le_of_ble_eq_true rfl) (D_X12_mostSettled_0.at 20 rfl) (fun _ => rfl) T (fun r8 h9 T b10 => ?_)
    refine J_istore_n (lv' := [(2, vI r8), (1, vI v3), (0, vR 68), (3, vI v3)]) 34 rfl 2 (by decide) rfl (D_X12_mostSettled_0.at 21 rfl) ?_
    refine J_iinc (v := (v3 + 1)) (lv' := [(3, vI (v3 + 1)), (2, vI r8), (1, vI v3), (0, vR 68)]) 37 rfl 3 3 1 rfl rfl (by decide) rfl (D_X12_mostSettled_0.at 22 rfl) ?_
    refine J_goto 6 (D_X12_mostSettled_0.at 23 rfl) (by decide) ?_
    exact J_sub (lv' := [(0, vR 68), (1, vI v3), (2, vI r8), (3, vI (v3 + 1))]) [3, 2, 1, 0] rfl T
  replace T := T.2 c11
  refine J_goto 34 (D_X12_mostSettled_0.at 15 rfl) (by decide) ?_
  refine J_iinc (v := (v3 + 1)) (lv' := [(3, vI (v3 + 1)), (0, vR 68), (1, vI v1), (2, vI v2)]) 37 rfl 3 3 1 rfl rfl (by decide) rfl (D_X12_mostSettled_0.at 22 rfl) ?_
  refine J_goto 6 (D_X12_mostSettled_0.at 23 rfl) (by decide) ?_
  exact J_sub (lv' := [(0, vR 68), (1, vI v1), (2, vI v2), (3, vI (v3 + 1))]) [1, 2, 3, 0] rfl T
theorem c_X12_stone {w : Wd} {a1 a2 : Int} (ha2 : a2 = 0 ∨ a2 = 1) {h : Hp} {K : Int → Hp → Prop} (T : (inR a1) ∧ ((inR ((h 68 36) - 1)) ∧ ((inL a1) ∧ (((a1 < 0) → (∀ h4 : Hp, h4 = hu h 70 3 ((h 70 3) + 1) → K 0 h4)) ∧ (¬ (a1 < 0) → ((inL a1) ∧ ((inL ((h 68 36) - 1)) ∧ (((a1 > ((h 68 36) - 1)) → (∀ h8 : Hp, h8 = hu h 70 3 ((h 70 3) + 1) → K 0 h8)) ∧ (¬ (a1 > ((h 68 36) - 1)) → ((0 ≤ (1 + a1) ∧ (1 + a1) < 109) ∧ (((a2 = 0) → ((inR (h 104 (1 + a1))) ∧ ((((h 104 (1 + a1)) ≠ 0) → (C_X12_keeps w h (fun _ h13 => (0 ≤ (1 + a1) ∧ (1 + a1) < 109) ∧ (((a2 = 0) → ((0 ≤ (1 + a1) ∧ (1 + a1) < 109) ∧ (∀ h17 : Hp, h17 = hu h13 104 (1 + a1) ((h13 104 (1 + a1)) + (-1)) → K 1 h17))) ∧ (¬ (a2 = 0) → ((0 ≤ (1 + a1) ∧ (1 + a1) < 109) ∧ (∀ h20 : Hp, h20 = hu h13 104 (1 + a1) ((h13 104 (1 + a1)) + 1) → K 1 h20))))))) ∧ (¬ ((h 104 (1 + a1)) ≠ 0) → (∀ h23 : Hp, h23 = hu h 70 3 ((h 70 3) + 1) → K 0 h23))))) ∧ (¬ (a2 = 0) → ((inR (h 104 (1 + a1))) ∧ ((((h 104 (1 + a1)) ≠ 3) → (C_X12_keeps w h (fun _ h28 => (0 ≤ (1 + a1) ∧ (1 + a1) < 109) ∧ (((a2 = 0) → ((0 ≤ (1 + a1) ∧ (1 + a1) < 109) ∧ (∀ h32 : Hp, h32 = hu h28 104 (1 + a1) ((h28 104 (1 + a1)) + (-1)) → K 1 h32))) ∧ (¬ (a2 = 0) → ((0 ≤ (1 + a1) ∧ (1 + a1) < 109) ∧ (∀ h35 : Hp, h35 = hu h28 104 (1 + a1) ((h28 104 (1 + a1)) + 1) → K 1 h35))))))) ∧ (¬ ((h 104 (1 + a1)) ≠ 3) → (∀ h38 : Hp, h38 = hu h 70 3 ((h 70 3) + 1) → K 0 h38)))))))))))))))) : C_X12_stone w a1 a2 h K := by
  refine CGm_of2 (by decide) (by decide) trivial (Nat.le_of_ble_eq_true rfl) ?_
  refine J_aload_n 1 rfl 0 0 rfl ⟨by decide, by decide⟩ (D_X12_stone_0.at 0 rfl) ?_
  refine J_iload_n 2 rfl 1 1 rfl (D_X12_stone_0.at 1 rfl) ?_
  refine J_callV (d' := 2) (K1 := fun z h0 => rok (some .boolean) z → JG w true m_X12_stone 3 NT NT 5 [(0, vR 68), (1, vI a1), (2, vI a2)] [vI z] h0 _) (sr := fun z => [vI z]) (as := [vI a1]) (st := []) (o := 68) 5 rfl ok_X12_isReach im_X12_isReach se_X12_isReach ml_12_499 isC_12 ob_68 (Ob.lt ob_68) rfl (by decide) ⟨Nat.le_refl _, Nat.le_refl _⟩ (Nat.le_of_ble_eq_true rfl) (D_X12_stone_0.at 2 rfl) (fun _ => rfl) (CGm_of2 (by decide) (by decide) trivial (Nat.le_of_ble_eq_true rfl) ?_) (fun _ _ kq hb => kq hb)
  refine J_iload_n 1 rfl 1 1 rfl (D_X12_isReach_0.at 0 rfl) ?_
  obtain ⟨s1, T⟩ := T
  refine J_i2l 2 rfl s1 (D_X12_isReach_0.at 1 rfl) ?_
  refine J_lconst (z := 0) 3 rfl rfl (D_X12_isReach_0.at 2 rfl) ?_
  refine J_aload_n 4 rfl 0 0 rfl ⟨by decide, by decide⟩ (D_X12_isReach_0.at 3 rfl) ?_
  refine J_getI (z := (h 68 36)) 7 rfl fl_12_356 rfl ob_68 (Ob.lt ob_68) (D_X12_isReach_0.at 4 rfl) rfl ?_
  refine J_iconst 8 rfl (D_X12_isReach_0.at 5 rfl) ?_
  refine J_isub 9 rfl (D_X12_isReach_0.at 6 rfl) ?_
  obtain ⟨s2, T⟩ := T
  refine J_i2l 10 rfl s2 (D_X12_isReach_0.at 7 rfl) ?_
  refine J_callS (d' := 1) (K1 := fun z h0 => rok (some .boolean) z → JG w true m_X12_isReach 2 NT NT 13 [(0, vR 68), (1, vI a1)] [vI z] h0 _) (sr := fun z => [vI z]) (as := [vL a1, vL 0, vL ((h 68 36) - 1)]) (st := []) 13 rfl ok_X12_isIn sm_X12_isIn ml_12_267 rfl (by decide) ⟨Nat.le_refl _, Nat.le_refl _⟩ (Nat.le_of_ble_eq_true rfl) (D_X12_isReach_0.at 8 rfl) (fun _ => rfl) (CGm_of2 (by decide) (by decide) trivial (Nat.le_of_ble_eq_true rfl) ?_) (fun _ _ kq hb => kq hb)
  refine J_lload_n 1 rfl 0 0 rfl (D_X12_isIn_0.at 0 rfl) ?_
  refine J_lload_n 2 rfl 2 1 rfl (D_X12_isIn_0.at 1 rfl) ?_
  obtain ⟨s3, T⟩ := T
  refine J_lcmp_lt 6 rfl 17 s3 ⟨by decide, by decide⟩ (D_X12_isIn_0.at 2 rfl) (D_X12_isIn_0.at 3 rfl) (by decide) (fun c43 => ?_) (fun c43 => ?_)
  · replace T := T.1 c43
    refine J_iconst 18 rfl (D_X12_isIn_0.at 10 rfl) ?_
    refine J_zret rfl (Or.inl rfl) (D_X12_isIn_0.at 11 rfl) (fun _ => ?_)
    refine J_zret rfl (Or.inl rfl) (D_X12_isReach_0.at 9 rfl) (fun _ => ?_)
    refine J_if_eq 8 rfl 28 ⟨by decide, by decide⟩ (D_X12_stone_0.at 3 rfl) (by decide) (fun _ => ?_) (fun c => absurd (by decide) c)
    refine J_aload_n 29 rfl 0 0 rfl ⟨by decide, by decide⟩ (D_X12_stone_0.at 16 rfl) ?_
    refine J_getF (ov := 70) (dd := 1002) 32 rfl fl_12_17 rfl (by decide) rfl ob_68 (Ob.lt ob_68) (D_X12_stone_0.at 17 rfl) ?_
    refine J_iconst 33 rfl (D_X12_stone_0.at 18 rfl) ?_
    refine J_dup2 34 rfl rfl rfl (D_X12_stone_0.at 19 rfl) ?_
    refine J_iald 35 rfl ar_70 (Ar.lt ar_70) ⟨by decide, by decide⟩ (D_X12_stone_0.at 20 rfl) ?_
    refine J_iconst 36 rfl (D_X12_stone_0.at 21 rfl) ?_
    refine J_iadd 37 rfl (D_X12_stone_0.at 22 rfl) ?_
    refine J_iastH 38 rfl ar_70 (Ar.lt ar_70) ⟨by decide, by decide⟩ trivial (D_X12_stone_0.at 23 rfl) (fun h4 e5 => ?_)
    replace T := T h4 e5
    refine J_iconst 39 rfl (D_X12_stone_0.at 24 rfl) ?_
    exact J_zret rfl (Or.inl rfl) (D_X12_stone_0.at 25 rfl) T
  replace T := T.2 c43
  refine J_lload_n 7 rfl 0 0 rfl (D_X12_isIn_0.at 4 rfl) ?_
  refine J_lload 9 rfl 4 2 rfl (D_X12_isIn_0.at 5 rfl) ?_
  obtain ⟨s6, T⟩ := T
  obtain ⟨s7, T⟩ := T
  refine J_lcmp_gt 13 rfl 17 s6 s7 (D_X12_isIn_0.at 6 rfl) (D_X12_isIn_0.at 7 rfl) (by decide) (fun c42 => ?_) (fun c42 => ?_)
  · replace T := T.1 c42
    refine J_iconst 18 rfl (D_X12_isIn_0.at 10 rfl) ?_
    refine J_zret rfl (Or.inl rfl) (D_X12_isIn_0.at 11 rfl) (fun _ => ?_)
    refine J_zret rfl (Or.inl rfl) (D_X12_isReach_0.at 9 rfl) (fun _ => ?_)
    refine J_if_eq 8 rfl 28 ⟨by decide, by decide⟩ (D_X12_stone_0.at 3 rfl) (by decide) (fun _ => ?_) (fun c => absurd (by decide) c)
    refine J_aload_n 29 rfl 0 0 rfl ⟨by decide, by decide⟩ (D_X12_stone_0.at 16 rfl) ?_
    refine J_getF (ov := 70) (dd := 1002) 32 rfl fl_12_17 rfl (by decide) rfl ob_68 (Ob.lt ob_68) (D_X12_stone_0.at 17 rfl) ?_
    refine J_iconst 33 rfl (D_X12_stone_0.at 18 rfl) ?_
    refine J_dup2 34 rfl rfl rfl (D_X12_stone_0.at 19 rfl) ?_
    refine J_iald 35 rfl ar_70 (Ar.lt ar_70) ⟨by decide, by decide⟩ (D_X12_stone_0.at 20 rfl) ?_
    refine J_iconst 36 rfl (D_X12_stone_0.at 21 rfl) ?_
    refine J_iadd 37 rfl (D_X12_stone_0.at 22 rfl) ?_
    refine J_iastH 38 rfl ar_70 (Ar.lt ar_70) ⟨by decide, by decide⟩ trivial (D_X12_stone_0.at 23 rfl) (fun h8 e9 => ?_)
    replace T := T h8 e9
    refine J_iconst 39 rfl (D_X12_stone_0.at 24 rfl) ?_
    exact J_zret rfl (Or.inl rfl) (D_X12_stone_0.at 25 rfl) T
  replace T := T.2 c42
  refine J_iconst 14 rfl (D_X12_isIn_0.at 8 rfl) ?_
  refine J_goto 18 (D_X12_isIn_0.at 9 rfl) (by decide) ?_
  refine J_zret rfl (Or.inr rfl) (D_X12_isIn_0.at 11 rfl) (fun _ => ?_)
  refine J_zret rfl (Or.inr rfl) (D_X12_isReach_0.at 9 rfl) (fun _ => ?_)
  refine J_if_eq 8 rfl 28 ⟨by decide, by decide⟩ (D_X12_stone_0.at 3 rfl) (by decide) (fun c => absurd c (by decide)) (fun _ => ?_)
  refine J_aload_n 9 rfl 0 0 rfl ⟨by decide, by decide⟩ (D_X12_stone_0.at 4 rfl) ?_
  refine J_getF (ov := 104) (dd := 1036) 12 rfl fl_12_121 rfl (by decide) rfl ob_68 (Ob.lt ob_68) (D_X12_stone_0.at 5 rfl) ?_
  refine J_iconst 13 rfl (D_X12_stone_0.at 6 rfl) ?_
  refine J_iload_n 14 rfl 1 1 rfl (D_X12_stone_0.at 7 rfl) ?_
  refine J_iadd 15 rfl (D_X12_stone_0.at 8 rfl) ?_
  obtain ⟨s10, T⟩ := T
  refine J_iald 16 rfl ar_104 (Ar.lt ar_104) s10 (D_X12_stone_0.at 9 rfl) ?_
  refine J_iload_n 17 rfl 2 2 rfl (D_X12_stone_0.at 10 rfl) ?_
  refine J_if_eq 20 rfl 24 (inR_b ha2) (D_X12_stone_0.at 11 rfl) (by decide) (fun c41 => ?_) (fun c41 => ?_)
  · replace T := T.1 c41
    refine J_iconst 25 rfl (D_X12_stone_0.at 14 rfl) ?_
    obtain ⟨s11, T⟩ := T
    refine J_icmp_ne 28 rfl 40 s11 ⟨by decide, by decide⟩ (D_X12_stone_0.at 15 rfl) (by decide) (fun c25 => ?_) (fun c25 => ?_)
    · replace T := T.1 c25
      refine J_aload_n 41 rfl 0 0 rfl ⟨by decide, by decide⟩ (D_X12_stone_0.at 26 rfl) ?_
      refine J_callV (d' := 1) (sr := fun z => []) (as := []) (st := []) (o := 68) 44 rfl ok_X12_keeps im_X12_keeps se_X12_keeps ml_12_529 isC_12 ob_68 (Ob.lt ob_68) rfl (by decide) ⟨Nat.le_refl _, Nat.le_refl _⟩ (Nat.le_of_ble_eq_true rfl) (D_X12_stone_0.at 27 rfl) (fun _ => rfl) T (fun r12 h13 T b14 => ?_)
      refine J_aload_n 45 rfl 0 0 rfl ⟨by decide, by decide⟩ (D_X12_stone_0.at 28 rfl) ?_
      refine J_getF (ov := 104) (dd := 1036) 48 rfl fl_12_121 rfl (by decide) rfl ob_68 (Ob.lt ob_68) (D_X12_stone_0.at 29 rfl) ?_
      refine J_iconst 49 rfl (D_X12_stone_0.at 30 rfl) ?_
      refine J_iload_n 50 rfl 1 1 rfl (D_X12_stone_0.at 31 rfl) ?_
      refine J_iadd 51 rfl (D_X12_stone_0.at 32 rfl) ?_
      refine J_dup2 52 rfl rfl rfl (D_X12_stone_0.at 33 rfl) ?_
      obtain ⟨s15, T⟩ := T
      refine J_iald 53 rfl ar_104 (Ar.lt ar_104) s15 (D_X12_stone_0.at 34 rfl) ?_
      refine J_iload_n 54 rfl 2 2 rfl (D_X12_stone_0.at 35 rfl) ?_
      refine J_if_eq 57 rfl 61 (inR_b ha2) (D_X12_stone_0.at 36 rfl) (by decide) (fun c22 => ?_) (fun c22 => ?_)
      · replace T := T.1 c22
        refine J_iconst 62 rfl (D_X12_stone_0.at 39 rfl) ?_
        refine J_iadd 63 rfl (D_X12_stone_0.at 40 rfl) ?_
        obtain ⟨s16, T⟩ := T
        refine J_iastH 64 rfl ar_104 (Ar.lt ar_104) s16 trivial (D_X12_stone_0.at 41 rfl) (fun h17 e18 => ?_)
        replace T := T h17 e18
        refine J_iconst 65 rfl (D_X12_stone_0.at 42 rfl) ?_
        exact J_zret rfl (Or.inr rfl) (D_X12_stone_0.at 43 rfl) T
      replace T := T.2 c22
      refine J_iconst 58 rfl (D_X12_stone_0.at 37 rfl) ?_
      refine J_goto 62 (D_X12_stone_0.at 38 rfl) (by decide) ?_
      refine J_iadd 63 rfl (D_X12_stone_0.at 40 rfl) ?_
      obtain ⟨s19, T⟩ := T
      refine J_iastH 64 rfl ar_104 (Ar.lt ar_104) s19 trivial (D_X12_stone_0.at 41 rfl) (fun h20 e21 => ?_)
      replace T := T h20 e21
      refine J_iconst 65 rfl (D_X12_stone_0.at 42 rfl) ?_
      exact J_zret rfl (Or.inr rfl) (D_X12_stone_0.at 43 rfl) T
    replace T := T.2 c25
    refine J_aload_n 29 rfl 0 0 rfl ⟨by decide, by decide⟩ (D_X12_stone_0.at 16 rfl) ?_
    refine J_getF (ov := 70) (dd := 1002) 32 rfl fl_12_17 rfl (by decide) rfl ob_68 (Ob.lt ob_68) (D_X12_stone_0.at 17 rfl) ?_
    refine J_iconst 33 rfl (D_X12_stone_0.at 18 rfl) ?_
    refine J_dup2 34 rfl rfl rfl (D_X12_stone_0.at 19 rfl) ?_
    refine J_iald 35 rfl ar_70 (Ar.lt ar_70) ⟨by decide, by decide⟩ (D_X12_stone_0.at 20 rfl) ?_
    refine J_iconst 36 rfl (D_X12_stone_0.at 21 rfl) ?_
    refine J_iadd 37 rfl (D_X12_stone_0.at 22 rfl) ?_
    refine J_iastH 38 rfl ar_70 (Ar.lt ar_70) ⟨by decide, by decide⟩ trivial (D_X12_stone_0.at 23 rfl) (fun h23 e24 => ?_)
    replace T := T h23 e24
    refine J_iconst 39 rfl (D_X12_stone_0.at 24 rfl) ?_
    exact J_zret rfl (Or.inl rfl) (D_X12_stone_0.at 25 rfl) T
  replace T := T.2 c41
  refine J_iconst 21 rfl (D_X12_stone_0.at 12 rfl) ?_
  refine J_goto 25 (D_X12_stone_0.at 13 rfl) (by decide) ?_
  obtain ⟨s26, T⟩ := T
  refine J_icmp_ne 28 rfl 40 s26 ⟨by decide, by decide⟩ (D_X12_stone_0.at 15 rfl) (by decide) (fun c40 => ?_) (fun c40 => ?_)
  · replace T := T.1 c40
    refine J_aload_n 41 rfl 0 0 rfl ⟨by decide, by decide⟩ (D_X12_stone_0.at 26 rfl) ?_
    refine J_callV (d' := 1) (sr := fun z => []) (as := []) (st := []) (o := 68) 44 rfl ok_X12_keeps im_X12_keeps se_X12_keeps ml_12_529 isC_12 ob_68 (Ob.lt ob_68) rfl (by decide) ⟨Nat.le_refl _, Nat.le_refl _⟩ (Nat.le_of_ble_eq_true rfl) (D_X12_stone_0.at 27 rfl) (fun _ => rfl) T (fun r27 h28 T b29 => ?_)
    refine J_aload_n 45 rfl 0 0 rfl ⟨by decide, by decide⟩ (D_X12_stone_0.at 28 rfl) ?_
    refine J_getF (ov := 104) (dd := 1036) 48 rfl fl_12_121 rfl (by decide) rfl ob_68 (Ob.lt ob_68) (D_X12_stone_0.at 29 rfl) ?_
    refine J_iconst 49 rfl (D_X12_stone_0.at 30 rfl) ?_
    refine J_iload_n 50 rfl 1 1 rfl (D_X12_stone_0.at 31 rfl) ?_
    refine J_iadd 51 rfl (D_X12_stone_0.at 32 rfl) ?_
    refine J_dup2 52 rfl rfl rfl (D_X12_stone_0.at 33 rfl) ?_
    obtain ⟨s30, T⟩ := T
    refine J_iald 53 rfl ar_104 (Ar.lt ar_104) s30 (D_X12_stone_0.at 34 rfl) ?_
    refine J_iload_n 54 rfl 2 2 rfl (D_X12_stone_0.at 35 rfl) ?_
    refine J_if_eq 57 rfl 61 (inR_b ha2) (D_X12_stone_0.at 36 rfl) (by decide) (fun c37 => ?_) (fun c37 => ?_)
    · replace T := T.1 c37
      refine J_iconst 62 rfl (D_X12_stone_0.at 39 rfl) ?_
      refine J_iadd 63 rfl (D_X12_stone_0.at 40 rfl) ?_
      obtain ⟨s31, T⟩ := T
      refine J_iastH 64 rfl ar_104 (Ar.lt ar_104) s31 trivial (D_X12_stone_0.at 41 rfl) (fun h32 e33 => ?_)
      replace T := T h32 e33
      refine J_iconst 65 rfl (D_X12_stone_0.at 42 rfl) ?_
      exact J_zret rfl (Or.inr rfl) (D_X12_stone_0.at 43 rfl) T
    replace T := T.2 c37
    refine J_iconst 58 rfl (D_X12_stone_0.at 37 rfl) ?_
    refine J_goto 62 (D_X12_stone_0.at 38 rfl) (by decide) ?_
    refine J_iadd 63 rfl (D_X12_stone_0.at 40 rfl) ?_
    obtain ⟨s34, T⟩ := T
    refine J_iastH 64 rfl ar_104 (Ar.lt ar_104) s34 trivial (D_X12_stone_0.at 41 rfl) (fun h35 e36 => ?_)
    replace T := T h35 e36
    refine J_iconst 65 rfl (D_X12_stone_0.at 42 rfl) ?_
    exact J_zret rfl (Or.inr rfl) (D_X12_stone_0.at 43 rfl) T
  replace T := T.2 c40
  refine J_aload_n 29 rfl 0 0 rfl ⟨by decide, by decide⟩ (D_X12_stone_0.at 16 rfl) ?_
  refine J_getF (ov := 70) (dd := 1002) 32 rfl fl_12_17 rfl (by decide) rfl ob_68 (Ob.lt ob_68) (D_X12_stone_0.at 17 rfl) ?_
  refine J_iconst 33 rfl (D_X12_stone_0.at 18 rfl) ?_
  refine J_dup2 34 rfl rfl rfl (D_X12_stone_0.at 19 rfl) ?_
  refine J_iald 35 rfl ar_70 (Ar.lt ar_70) ⟨by decide, by decide⟩ (D_X12_stone_0.at 20 rfl) ?_
  refine J_iconst 36 rfl (D_X12_stone_0.at 21 rfl) ?_
  refine J_iadd 37 rfl (D_X12_stone_0.at 22 rfl) ?_
  refine J_iastH 38 rfl ar_70 (Ar.lt ar_70) ⟨by decide, by decide⟩ trivial (D_X12_stone_0.at 23 rfl) (fun h38 e39 => ?_)
  replace T := T h38 e39
  refine J_iconst 39 rfl (D_X12_stone_0.at 24 rfl) ?_
  exact J_zret rfl (Or.inl rfl) (D_X12_stone_0.at 25 rfl) T
theorem c_X12_rake {w : Wd} {a1 a2 a3 a4 : Int} {h : Hp} {K : Int → Hp → Prop} (T : (inR a1) ∧ ((inR ((h 68 36) - 1)) ∧ ((inL a1) ∧ (((a1 < 0) → (L_X12_rake_46 w h K)) ∧ (¬ (a1 < 0) → ((inL a1) ∧ ((inL ((h 68 36) - 1)) ∧ (((a1 > ((h 68 36) - 1)) → (L_X12_rake_46 w h K)) ∧ (¬ (a1 > ((h 68 36) - 1)) → ((inR a2) ∧ ((inR ((h 93 5) - 1)) ∧ ((inL a2) ∧ (((a2 < 0) → (L_X12_rake_46 w h K)) ∧ (¬ (a2 < 0) → ((inL a2) ∧ ((inL ((h 93 5) - 1)) ∧ (((a2 > ((h 93 5) - 1)) → (L_X12_rake_46 w h K)) ∧ (¬ (a2 > ((h 93 5) - 1)) → ((inR a3) ∧ ((inR ((h 93 5) - 1)) ∧ ((inL a3) ∧ (((a3 < 0) → (L_X12_rake_46 w h K)) ∧ (¬ (a3 < 0) → ((inL a3) ∧ ((inL ((h 93 5) - 1)) ∧ (((a3 > ((h 93 5) - 1)) → (L_X12_rake_46 w h K)) ∧ (¬ (a3 > ((h 93 5) - 1)) → ((inR a2) ∧ ((inR a3) ∧ (((a2 = a3) → (L_X12_rake_46 w h K)) ∧ (¬ (a2 = a3) → ((inR a4) ∧ (((a4 < 1) → (L_X12_rake_46 w h K)) ∧ (¬ (a4 < 1) → ((0 ≤ ((29 + (10 * a1)) + a2) ∧ ((29 + (10 * a1)) + a2) < 109) ∧ ((inR a4) ∧ ((inR (h 104 ((29 + (10 * a1)) + a2))) ∧ (((a4 ≤ (h 104 ((29 + (10 * a1)) + a2))) → (C_X12_keeps w h (fun _ h23 => (0 ≤ ((29 + (10 * a1)) + a2) ∧ ((29 + (10 * a1)) + a2) < 109) ∧ ((0 ≤ ((29 + (10 * a1)) + a2) ∧ ((29 + (10 * a1)) + a2) < 109) ∧ (∀ h27 : Hp, h27 = hu h23 104 ((29 + (10 * a1)) + a2) ((h23 104 ((29 + (10 * a1)) + a2)) - a4) → (0 ≤ ((29 + (10 * a1)) + a3) ∧ ((29 + (10 * a1)) + a3) < 109) ∧ ((0 ≤ ((29 + (10 * a1)) + a3) ∧ ((29 + (10 * a1)) + a3) < 109) ∧ (∀ h31 : Hp, h31 = hu h27 104 ((29 + (10 * a1)) + a3) ((h27 104 ((29 + (10 * a1)) + a3)) + a4) → K 1 h31))))))) ∧ (¬ (a4 ≤ (h 104 ((29 + (10 * a1)) + a2))) → (L_X12_rake_46 w h K)))))))))))))))))))))))))))))))))))))))) : C_X12_rake w a1 a2 a3 a4 h K := by
  refine CGm_of2 (by decide) (by decide) trivial (Nat.le_of_ble_eq_true rfl) ?_
  refine J_aload_n 1 rfl 0 0 rfl ⟨by decide, by decide⟩ (D_X12_rake_0.at 0 rfl) ?_
  refine J_iload_n 2 rfl 1 1 rfl (D_X12_rake_0.at 1 rfl) ?_
  refine J_callV (d' := 2) (K1 := fun z h0 => rok (some .boolean) z → JG w true m_X12_rake 3 NT NT 5 [(0, vR 68), (1, vI a1), (2, vI a2), (3, vI a3), (4, vI a4)] [vI z] h0 _) (sr := fun z => [vI z]) (as := [vI a1]) (st := []) (o := 68) 5 rfl ok_X12_isReach im_X12_isReach se_X12_isReach ml_12_499 isC_12 ob_68 (Ob.lt ob_68) rfl (by decide) ⟨Nat.le_refl _, Nat.le_refl _⟩ (Nat.le_of_ble_eq_true rfl) (D_X12_rake_0.at 2 rfl) (fun _ => rfl) (CGm_of2 (by decide) (by decide) trivial (Nat.le_of_ble_eq_true rfl) ?_) (fun _ _ kq hb => kq hb)
  refine J_iload_n 1 rfl 1 1 rfl (D_X12_isReach_0.at 0 rfl) ?_
  obtain ⟨s1, T⟩ := T
  refine J_i2l 2 rfl s1 (D_X12_isReach_0.at 1 rfl) ?_
  refine J_lconst (z := 0) 3 rfl rfl (D_X12_isReach_0.at 2 rfl) ?_
  refine J_aload_n 4 rfl 0 0 rfl ⟨by decide, by decide⟩ (D_X12_isReach_0.at 3 rfl) ?_
  refine J_getI (z := (h 68 36)) 7 rfl fl_12_356 rfl ob_68 (Ob.lt ob_68) (D_X12_isReach_0.at 4 rfl) rfl ?_
  refine J_iconst 8 rfl (D_X12_isReach_0.at 5 rfl) ?_
  refine J_isub 9 rfl (D_X12_isReach_0.at 6 rfl) ?_
  obtain ⟨s2, T⟩ := T
  refine J_i2l 10 rfl s2 (D_X12_isReach_0.at 7 rfl) ?_
  refine J_callS (d' := 1) (K1 := fun z h0 => rok (some .boolean) z → JG w true m_X12_isReach 2 NT NT 13 [(0, vR 68), (1, vI a1)] [vI z] h0 _) (sr := fun z => [vI z]) (as := [vL a1, vL 0, vL ((h 68 36) - 1)]) (st := []) 13 rfl ok_X12_isIn sm_X12_isIn ml_12_267 rfl (by decide) ⟨Nat.le_refl _, Nat.le_refl _⟩ (Nat.le_of_ble_eq_true rfl) (D_X12_isReach_0.at 8 rfl) (fun _ => rfl) (CGm_of2 (by decide) (by decide) trivial (Nat.le_of_ble_eq_true rfl) ?_) (fun _ _ kq hb => kq hb)
  refine J_lload_n 1 rfl 0 0 rfl (D_X12_isIn_0.at 0 rfl) ?_
  refine J_lload_n 2 rfl 2 1 rfl (D_X12_isIn_0.at 1 rfl) ?_
  obtain ⟨s3, T⟩ := T
  refine J_lcmp_lt 6 rfl 17 s3 ⟨by decide, by decide⟩ (D_X12_isIn_0.at 2 rfl) (D_X12_isIn_0.at 3 rfl) (by decide) (fun c41 => ?_) (fun c41 => ?_)
  · replace T := T.1 c41
    refine J_iconst 18 rfl (D_X12_isIn_0.at 10 rfl) ?_
    refine J_zret rfl (Or.inl rfl) (D_X12_isIn_0.at 11 rfl) (fun _ => ?_)
    refine J_zret rfl (Or.inl rfl) (D_X12_isReach_0.at 9 rfl) (fun _ => ?_)
    refine J_if_eq 8 rfl 46 ⟨by decide, by decide⟩ (D_X12_rake_0.at 3 rfl) (by decide) (fun _ => ?_) (fun c => absurd (by decide) c)
    exact J_sub (lv' := [(0, vR 68)]) [0] rfl T
  replace T := T.2 c41
  refine J_lload_n 7 rfl 0 0 rfl (D_X12_isIn_0.at 4 rfl) ?_
  refine J_lload 9 rfl 4 2 rfl (D_X12_isIn_0.at 5 rfl) ?_
  obtain ⟨s4, T⟩ := T
  obtain ⟨s5, T⟩ := T
  refine J_lcmp_gt 13 rfl 17 s4 s5 (D_X12_isIn_0.at 6 rfl) (D_X12_isIn_0.at 7 rfl) (by decide) (fun c40 => ?_) (fun c40 => ?_)
  · replace T := T.1 c40
    refine J_iconst 18 rfl (D_X12_isIn_0.at 10 rfl) ?_
    refine J_zret rfl (Or.inl rfl) (D_X12_isIn_0.at 11 rfl) (fun _ => ?_)
    refine J_zret rfl (Or.inl rfl) (D_X12_isReach_0.at 9 rfl) (fun _ => ?_)
    refine J_if_eq 8 rfl 46 ⟨by decide, by decide⟩ (D_X12_rake_0.at 3 rfl) (by decide) (fun _ => ?_) (fun c => absurd (by decide) c)
    exact J_sub (lv' := [(0, vR 68)]) [0] rfl T
  replace T := T.2 c40
  refine J_iconst 14 rfl (D_X12_isIn_0.at 8 rfl) ?_
  refine J_goto 18 (D_X12_isIn_0.at 9 rfl) (by decide) ?_
  refine J_zret rfl (Or.inr rfl) (D_X12_isIn_0.at 11 rfl) (fun _ => ?_)
  refine J_zret rfl (Or.inr rfl) (D_X12_isReach_0.at 9 rfl) (fun _ => ?_)
  refine J_if_eq 8 rfl 46 ⟨by decide, by decide⟩ (D_X12_rake_0.at 3 rfl) (by decide) (fun c => absurd c (by decide)) (fun _ => ?_)
  refine J_aload_n 9 rfl 0 0 rfl ⟨by decide, by decide⟩ (D_X12_rake_0.at 4 rfl) ?_
  refine J_iload_n 10 rfl 2 2 rfl (D_X12_rake_0.at 5 rfl) ?_
  refine J_callV (d' := 2) (K1 := fun z h0 => rok (some .boolean) z → JG w true m_X12_rake 3 NT NT 13 [(0, vR 68), (1, vI a1), (2, vI a2), (3, vI a3), (4, vI a4)] [vI z] h0 _) (sr := fun z => [vI z]) (as := [vI a2]) (st := []) (o := 68) 13 rfl ok_X12_isBank im_X12_isBank se_X12_isBank ml_12_481 isC_12 ob_68 (Ob.lt ob_68) rfl (by decide) ⟨Nat.le_refl _, Nat.le_refl _⟩ (Nat.le_of_ble_eq_true rfl) (D_X12_rake_0.at 6 rfl) (fun _ => rfl) (CGm_of2 (by decide) (by decide) trivial (Nat.le_of_ble_eq_true rfl) ?_) (fun _ _ kq hb => kq hb)
  refine J_iload_n 1 rfl 1 1 rfl (D_X12_isBank_0.at 0 rfl) ?_
  obtain ⟨s6, T⟩ := T
  refine J_i2l 2 rfl s6 (D_X12_isBank_0.at 1 rfl) ?_
  refine J_lconst (z := 0) 3 rfl rfl (D_X12_isBank_0.at 2 rfl) ?_
  refine J_aload_n 4 rfl 0 0 rfl ⟨by decide, by decide⟩ (D_X12_isBank_0.at 3 rfl) ?_
  refine J_callV (d' := 1) (K1 := fun z h0 => rok (some .int) z → JG w true m_X12_isBank 2 NT NT 7 [(0, vR 68), (1, vI a2)] [vI z, vL 0, vL a2] h0 _) (sr := fun z => [vI z, vL 0, vL a2]) (as := []) (st := [vL 0, vL a2]) (o := 68) 7 rfl ok_X12_bankMany im_X12_bankMany se_X12_bankMany ml_12_419 isC_12 ob_68 (Ob.lt ob_68) rfl (by decide) ⟨Nat.le_refl _, Nat.le_refl _⟩ (Nat.le_of_ble_eq_true rfl) (D_X12_isBank_0.at 4 rfl) (fun _ => rfl) (CGm_of2 (by decide) (by decide) trivial (Nat.le_of_ble_eq_true rfl) ?_) (fun _ _ kq hb => kq hb)
  refine J_aload_n 1 rfl 0 0 rfl ⟨by decide, by decide⟩ (D_X12_bankMany_0.at 0 rfl) ?_
  refine J_getF (ov := 93) (dd := 1025) 4 rfl fl_12_87 rfl (by decide) rfl ob_68 (Ob.lt ob_68) (D_X12_bankMany_0.at 1 rfl) ?_
  refine J_iconst 5 rfl (D_X12_bankMany_0.at 2 rfl) ?_
  refine J_iald 6 rfl ar_93 (Ar.lt ar_93) ⟨by decide, by decide⟩ (D_X12_bankMany_0.at 3 rfl) ?_
  refine J_iret rfl (D_X12_bankMany_0.at 4 rfl) (fun _ => ?_)
  refine J_iconst 8 rfl (D_X12_isBank_0.at 5 rfl) ?_
  refine J_isub 9 rfl (D_X12_isBank_0.at 6 rfl) ?_
  obtain ⟨s7, T⟩ := T
  refine J_i2l 10 rfl s7 (D_X12_isBank_0.at 7 rfl) ?_
  refine J_callS (d' := 1) (K1 := fun z h0 => rok (some .boolean) z → JG w true m_X12_isBank 2 NT NT 13 [(0, vR 68), (1, vI a2)] [vI z] h0 _) (sr := fun z => [vI z]) (as := [vL a2, vL 0, vL ((h 93 5) - 1)]) (st := []) 13 rfl ok_X12_isIn sm_X12_isIn ml_12_267 rfl (by decide) ⟨Nat.le_refl _, Nat.le_refl _⟩ (Nat.le_of_ble_eq_true rfl) (D_X12_isBank_0.at 8 rfl) (fun _ => rfl) (CGm_of2 (by decide) (by decide) trivial (Nat.le_of_ble_eq_true rfl) ?_) (fun _ _ kq hb => kq hb)
  refine J_lload_n 1 rfl 0 0 rfl (D_X12_isIn_0.at 0 rfl) ?_
  refine J_lload_n 2 rfl 2 1 rfl (D_X12_isIn_0.at 1 rfl) ?_
  obtain ⟨s8, T⟩ := T
  refine J_lcmp_lt 6 rfl 17 s8 ⟨by decide, by decide⟩ (D_X12_isIn_0.at 2 rfl) (D_X12_isIn_0.at 3 rfl) (by decide) (fun c39 => ?_) (fun c39 => ?_)
  · replace T := T.1 c39
    refine J_iconst 18 rfl (D_X12_isIn_0.at 10 rfl) ?_
    refine J_zret rfl (Or.inl rfl) (D_X12_isIn_0.at 11 rfl) (fun _ => ?_)
    refine J_zret rfl (Or.inl rfl) (D_X12_isBank_0.at 9 rfl) (fun _ => ?_)
    refine J_if_eq 16 rfl 46 ⟨by decide, by decide⟩ (D_X12_rake_0.at 7 rfl) (by decide) (fun _ => ?_) (fun c => absurd (by decide) c)
    exact J_sub (lv' := [(0, vR 68)]) [0] rfl T
  replace T := T.2 c39
  refine J_lload_n 7 rfl 0 0 rfl (D_X12_isIn_0.at 4 rfl) ?_
  refine J_lload 9 rfl 4 2 rfl (D_X12_isIn_0.at 5 rfl) ?_
  obtain ⟨s9, T⟩ := T
  obtain ⟨s10, T⟩ := T
  refine J_lcmp_gt 13 rfl 17 s9 s10 (D_X12_isIn_0.at 6 rfl) (D_X12_isIn_0.at 7 rfl) (by decide) (fun c38 => ?_) (fun c38 => ?_)
  · replace T := T.1 c38
    refine J_iconst 18 rfl (D_X12_isIn_0.at 10 rfl) ?_
    refine J_zret rfl (Or.inl rfl) (D_X12_isIn_0.at 11 rfl) (fun _ => ?_)
    refine J_zret rfl (Or.inl rfl) (D_X12_isBank_0.at 9 rfl) (fun _ => ?_)
    refine J_if_eq 16 rfl 46 ⟨by decide, by decide⟩ (D_X12_rake_0.at 7 rfl) (by decide) (fun _ => ?_) (fun c => absurd (by decide) c)
    exact J_sub (lv' := [(0, vR 68)]) [0] rfl T
  replace T := T.2 c38
  refine J_iconst 14 rfl (D_X12_isIn_0.at 8 rfl) ?_
  refine J_goto 18 (D_X12_isIn_0.at 9 rfl) (by decide) ?_
  refine J_zret rfl (Or.inr rfl) (D_X12_isIn_0.at 11 rfl) (fun _ => ?_)
  refine J_zret rfl (Or.inr rfl) (D_X12_isBank_0.at 9 rfl) (fun _ => ?_)
  refine J_if_eq 16 rfl 46 ⟨by decide, by decide⟩ (D_X12_rake_0.at 7 rfl) (by decide) (fun c => absurd c (by decide)) (fun _ => ?_)
  refine J_aload_n 17 rfl 0 0 rfl ⟨by decide, by decide⟩ (D_X12_rake_0.at 8 rfl) ?_
  refine J_iload_n 18 rfl 3 3 rfl (D_X12_rake_0.at 9 rfl) ?_
  refine J_callV (d' := 2) (K1 := fun z h0 => rok (some .boolean) z → JG w true m_X12_rake 3 NT NT 21 [(0, vR 68), (1, vI a1), (2, vI a2), (3, vI a3), (4, vI a4)] [vI z] h0 _) (sr := fun z => [vI z]) (as := [vI a3]) (st := []) (o := 68) 21 rfl ok_X12_isBank im_X12_isBank se_X12_isBank ml_12_481 isC_12 ob_68 (Ob.lt ob_68) rfl (by decide) ⟨Nat.le_refl _, Nat.le_refl _⟩ (Nat.le_of_ble_eq_true rfl) (D_X12_rake_0.at 10 rfl) (fun _ => rfl) (CGm_of2 (by decide) (by decide) trivial (Nat.le_of_ble_eq_true rfl) ?_) (fun _ _ kq hb => kq hb)
  refine J_iload_n 1 rfl 1 1 rfl (D_X12_isBank_0.at 0 rfl) ?_
  obtain ⟨s11, T⟩ := T
  refine J_i2l 2 rfl s11 (D_X12_isBank_0.at 1 rfl) ?_
  refine J_lconst (z := 0) 3 rfl rfl (D_X12_isBank_0.at 2 rfl) ?_
  refine J_aload_n 4 rfl 0 0 rfl ⟨by decide, by decide⟩ (D_X12_isBank_0.at 3 rfl) ?_
  refine J_callV (d' := 1) (K1 := fun z h0 => rok (some .int) z → JG w true m_X12_isBank 2 NT NT 7 [(0, vR 68), (1, vI a3)] [vI z, vL 0, vL a3] h0 _) (sr := fun z => [vI z, vL 0, vL a3]) (as := []) (st := [vL 0, vL a3]) (o := 68) 7 rfl ok_X12_bankMany im_X12_bankMany se_X12_bankMany ml_12_419 isC_12 ob_68 (Ob.lt ob_68) rfl (by decide) ⟨Nat.le_refl _, Nat.le_refl _⟩ (Nat.le_of_ble_eq_true rfl) (D_X12_isBank_0.at 4 rfl) (fun _ => rfl) (CGm_of2 (by decide) (by decide) trivial (Nat.le_of_ble_eq_true rfl) ?_) (fun _ _ kq hb => kq hb)
  refine J_aload_n 1 rfl 0 0 rfl ⟨by decide, by decide⟩ (D_X12_bankMany_0.at 0 rfl) ?_
  refine J_getF (ov := 93) (dd := 1025) 4 rfl fl_12_87 rfl (by decide) rfl ob_68 (Ob.lt ob_68) (D_X12_bankMany_0.at 1 rfl) ?_
  refine J_iconst 5 rfl (D_X12_bankMany_0.at 2 rfl) ?_
  refine J_iald 6 rfl ar_93 (Ar.lt ar_93) ⟨by decide, by decide⟩ (D_X12_bankMany_0.at 3 rfl) ?_
  refine J_iret rfl (D_X12_bankMany_0.at 4 rfl) (fun _ => ?_)
  refine J_iconst 8 rfl (D_X12_isBank_0.at 5 rfl) ?_
  refine J_isub 9 rfl (D_X12_isBank_0.at 6 rfl) ?_
  obtain ⟨s12, T⟩ := T
  refine J_i2l 10 rfl s12 (D_X12_isBank_0.at 7 rfl) ?_
  refine J_callS (d' := 1) (K1 := fun z h0 => rok (some .boolean) z → JG w true m_X12_isBank 2 NT NT 13 [(0, vR 68), (1, vI a3)] [vI z] h0 _) (sr := fun z => [vI z]) (as := [vL a3, vL 0, vL ((h 93 5) - 1)]) (st := []) 13 rfl ok_X12_isIn sm_X12_isIn ml_12_267 rfl (by decide) ⟨Nat.le_refl _, Nat.le_refl _⟩ (Nat.le_of_ble_eq_true rfl) (D_X12_isBank_0.at 8 rfl) (fun _ => rfl) (CGm_of2 (by decide) (by decide) trivial (Nat.le_of_ble_eq_true rfl) ?_) (fun _ _ kq hb => kq hb)
  refine J_lload_n 1 rfl 0 0 rfl (D_X12_isIn_0.at 0 rfl) ?_
  refine J_lload_n 2 rfl 2 1 rfl (D_X12_isIn_0.at 1 rfl) ?_
  obtain ⟨s13, T⟩ := T
  refine J_lcmp_lt 6 rfl 17 s13 ⟨by decide, by decide⟩ (D_X12_isIn_0.at 2 rfl) (D_X12_isIn_0.at 3 rfl) (by decide) (fun c37 => ?_) (fun c37 => ?_)
  · replace T := T.1 c37
    refine J_iconst 18 rfl (D_X12_isIn_0.at 10 rfl) ?_
    refine J_zret rfl (Or.inl rfl) (D_X12_isIn_0.at 11 rfl) (fun _ => ?_)
    refine J_zret rfl (Or.inl rfl) (D_X12_isBank_0.at 9 rfl) (fun _ => ?_)
    refine J_if_eq 24 rfl 46 ⟨by decide, by decide⟩ (D_X12_rake_0.at 11 rfl) (by decide) (fun _ => ?_) (fun c => absurd (by decide) c)
    exact J_sub (lv' := [(0, vR 68)]) [0] rfl T
  replace T := T.2 c37
  refine J_lload_n 7 rfl 0 0 rfl (D_X12_isIn_0.at 4 rfl) ?_
  refine J_lload 9 rfl 4 2 rfl (D_X12_isIn_0.at 5 rfl) ?_
  obtain ⟨s14, T⟩ := T
  obtain ⟨s15, T⟩ := T
  refine J_lcmp_gt 13 rfl 17 s14 s15 (D_X12_isIn_0.at 6 rfl) (D_X12_isIn_0.at 7 rfl) (by decide) (fun c36 => ?_) (fun c36 => ?_)
  · replace T := T.1 c36
    refine J_iconst 18 rfl (D_X12_isIn_0.at 10 rfl) ?_
    refine J_zret rfl (Or.inl rfl) (D_X12_isIn_0.at 11 rfl) (fun _ => ?_)
    refine J_zret rfl (Or.inl rfl) (D_X12_isBank_0.at 9 rfl) (fun _ => ?_)
    refine J_if_eq 24 rfl 46 ⟨by decide, by decide⟩ (D_X12_rake_0.at 11 rfl) (by decide) (fun _ => ?_) (fun c => absurd (by decide) c)
    exact J_sub (lv' := [(0, vR 68)]) [0] rfl T
  replace T := T.2 c36
  refine J_iconst 14 rfl (D_X12_isIn_0.at 8 rfl) ?_
  refine J_goto 18 (D_X12_isIn_0.at 9 rfl) (by decide) ?_
  refine J_zret rfl (Or.inr rfl) (D_X12_isIn_0.at 11 rfl) (fun _ => ?_)
  refine J_zret rfl (Or.inr rfl) (D_X12_isBank_0.at 9 rfl) (fun _ => ?_)
  refine J_if_eq 24 rfl 46 ⟨by decide, by decide⟩ (D_X12_rake_0.at 11 rfl) (by decide) (fun c => absurd c (by decide)) (fun _ => ?_)
  refine J_iload_n 25 rfl 2 2 rfl (D_X12_rake_0.at 12 rfl) ?_
  refine J_iload_n 26 rfl 3 3 rfl (D_X12_rake_0.at 13 rfl) ?_
  obtain ⟨s16, T⟩ := T
  obtain ⟨s17, T⟩ := T
  refine J_icmp_eq 29 rfl 46 s16 s17 (D_X12_rake_0.at 14 rfl) (by decide) (fun c35 => ?_) (fun c35 => ?_)
  · replace T := T.1 c35
    exact J_sub (lv' := [(0, vR 68)]) [0] rfl T
  replace T := T.2 c35
  refine J_iload 31 rfl 4 4 rfl (D_X12_rake_0.at 15 rfl) ?_
  refine J_iconst 32 rfl (D_X12_rake_0.at 16 rfl) ?_
  obtain ⟨s18, T⟩ := T
  refine J_icmp_lt 35 rfl 46 s18 ⟨by decide, by decide⟩ (D_X12_rake_0.at 17 rfl) (by decide) (fun c34 => ?_) (fun c34 => ?_)
  · replace T := T.1 c34
    exact J_sub (lv' := [(0, vR 68)]) [0] rfl T
  replace T := T.2 c34
  refine J_iload 37 rfl 4 4 rfl (D_X12_rake_0.at 18 rfl) ?_
  refine J_aload_n 38 rfl 0 0 rfl ⟨by decide, by decide⟩ (D_X12_rake_0.at 19 rfl) ?_
  refine J_iload_n 39 rfl 1 1 rfl (D_X12_rake_0.at 20 rfl) ?_
  refine J_iload_n 40 rfl 2 2 rfl (D_X12_rake_0.at 21 rfl) ?_
  refine J_callV (d' := 1) (K1 := fun z h0 => rok (some .int) z → JG w true m_X12_rake 3 NT NT 43 [(0, vR 68), (1, vI a1), (2, vI a2), (3, vI a3), (4, vI a4)] [vI z, vI a4] h0 _) (sr := fun z => [vI z, vI a4]) (as := [vI a1, vI a2]) (st := [vI a4]) (o := 68) 43 rfl ok_X12_liesIn im_X12_liesIn se_X12_liesIn ml_12_468 isC_12 ob_68 (Ob.lt ob_68) rfl (by decide) ⟨Nat.le_refl _, Nat.le_refl _⟩ (Nat.le_of_ble_eq_true rfl) (D_X12_rake_0.at 22 rfl) (fun _ => rfl) (CGm_of2 (by decide) (by decide) trivial (Nat.le_of_ble_eq_true rfl) ?_) (fun _ _ kq hb => kq hb)
  refine J_aload_n 1 rfl 0 0 rfl ⟨by decide, by decide⟩ (D_X12_liesIn_0.at 0 rfl) ?_
  refine J_getF (ov := 104) (dd := 1036) 4 rfl fl_12_121 rfl (by decide) rfl ob_68 (Ob.lt ob_68) (D_X12_liesIn_0.at 1 rfl) ?_
  refine J_bipush 6 rfl ⟨by decide, by decide⟩ (D_X12_liesIn_0.at 2 rfl) ?_
  refine J_bipush 8 rfl ⟨by decide, by decide⟩ (D_X12_liesIn_0.at 3 rfl) ?_
  refine J_iload_n 9 rfl 1 1 rfl (D_X12_liesIn_0.at 4 rfl) ?_
  refine J_imul 10 rfl (D_X12_liesIn_0.at 5 rfl) ?_
  refine J_iadd 11 rfl (D_X12_liesIn_0.at 6 rfl) ?_
  refine J_iload_n 12 rfl 2 2 rfl (D_X12_liesIn_0.at 7 rfl) ?_
  refine J_iadd 13 rfl (D_X12_liesIn_0.at 8 rfl) ?_
  obtain ⟨s19, T⟩ := T
  refine J_iald 14 rfl ar_104 (Ar.lt ar_104) s19 (D_X12_liesIn_0.at 9 rfl) ?_
  refine J_iret rfl (D_X12_liesIn_0.at 10 rfl) (fun _ => ?_)
  obtain ⟨s20, T⟩ := T
  obtain ⟨s21, T⟩ := T
  refine J_icmp_le 46 rfl 58 s20 s21 (D_X12_rake_0.at 23 rfl) (by decide) (fun c33 => ?_) (fun c33 => ?_)
  · replace T := T.1 c33
    refine J_aload_n 59 rfl 0 0 rfl ⟨by decide, by decide⟩ (D_X12_rake_0.at 34 rfl) ?_
    refine J_callV (d' := 1) (sr := fun z => []) (as := []) (st := []) (o := 68) 62 rfl ok_X12_keeps im_X12_keeps se_X12_keeps ml_12_529 isC_12 ob_68 (Ob.lt ob_68) rfl (by decide) ⟨Nat.le_refl _, Nat.le_refl _⟩ (Nat.le_of_ble_eq_true rfl) (D_X12_rake_0.at 35 rfl) (fun _ => rfl) T (fun r22 h23 T b24 => ?_)
    refine J_aload_n 63 rfl 0 0 rfl ⟨by decide, by decide⟩ (D_X12_rake_0.at 36 rfl) ?_
    refine J_getF (ov := 104) (dd := 1036) 66 rfl fl_12_121 rfl (by decide) rfl ob_68 (Ob.lt ob_68) (D_X12_rake_0.at 37 rfl) ?_
    refine J_bipush 68 rfl ⟨by decide, by decide⟩ (D_X12_rake_0.at 38 rfl) ?_
    refine J_bipush 70 rfl ⟨by decide, by decide⟩ (D_X12_rake_0.at 39 rfl) ?_
    refine J_iload_n 71 rfl 1 1 rfl (D_X12_rake_0.at 40 rfl) ?_
    refine J_imul 72 rfl (D_X12_rake_0.at 41 rfl) ?_
    refine J_iadd 73 rfl (D_X12_rake_0.at 42 rfl) ?_
    refine J_iload_n 74 rfl 2 2 rfl (D_X12_rake_0.at 43 rfl) ?_
    refine J_iadd 75 rfl (D_X12_rake_0.at 44 rfl) ?_
    refine J_dup2 76 rfl rfl rfl (D_X12_rake_0.at 45 rfl) ?_
    obtain ⟨s25, T⟩ := T
    refine J_iald 77 rfl ar_104 (Ar.lt ar_104) s25 (D_X12_rake_0.at 46 rfl) ?_
    refine J_iload 79 rfl 4 4 rfl (D_X12_rake_0.at 47 rfl) ?_
    refine J_isub 80 rfl (D_X12_rake_1.at 0 rfl) ?_
    obtain ⟨s26, T⟩ := T
    refine J_iastH 81 rfl ar_104 (Ar.lt ar_104) s26 trivial (D_X12_rake_1.at 1 rfl) (fun h27 e28 => ?_)
    replace T := T h27 e28
    refine J_aload_n 82 rfl 0 0 rfl ⟨by decide, by decide⟩ (D_X12_rake_1.at 2 rfl) ?_
    refine J_getF (ov := 104) (dd := 1036) 85 rfl fl_12_121 rfl (by decide) rfl ob_68 (Ob.lt ob_68) (D_X12_rake_1.at 3 rfl) ?_
    refine J_bipush 87 rfl ⟨by decide, by decide⟩ (D_X12_rake_1.at 4 rfl) ?_
    refine J_bipush 89 rfl ⟨by decide, by decide⟩ (D_X12_rake_1.at 5 rfl) ?_
    refine J_iload_n 90 rfl 1 1 rfl (D_X12_rake_1.at 6 rfl) ?_
    refine J_imul 91 rfl (D_X12_rake_1.at 7 rfl) ?_
    refine J_iadd 92 rfl (D_X12_rake_1.at 8 rfl) ?_
    refine J_iload_n 93 rfl 3 3 rfl (D_X12_rake_1.at 9 rfl) ?_
    refine J_iadd 94 rfl (D_X12_rake_1.at 10 rfl) ?_
    refine J_dup2 95 rfl rfl rfl (D_X12_rake_1.at 11 rfl) ?_
    obtain ⟨s29, T⟩ := T
    refine J_iald 96 rfl ar_104 (Ar.lt ar_104) s29 (D_X12_rake_1.at 12 rfl) ?_
    refine J_iload 98 rfl 4 4 rfl (D_X12_rake_1.at 13 rfl) ?_
    refine J_iadd 99 rfl (D_X12_rake_1.at 14 rfl) ?_
    obtain ⟨s30, T⟩ := T
    refine J_iastH 100 rfl ar_104 (Ar.lt ar_104) s30 trivial (D_X12_rake_1.at 15 rfl) (fun h31 e32 => ?_)
    replace T := T h31 e32
    refine J_iconst 101 rfl (D_X12_rake_1.at 16 rfl) ?_
    exact J_zret rfl (Or.inr rfl) (D_X12_rake_1.at 17 rfl) T
  replace T := T.2 c33
  exact J_sub (lv' := [(0, vR 68)]) [0] rfl T
theorem l_X12_rake_46 {w : Wd} {h : Hp} {K : Int → Hp → Prop} (T : ∀ h42 : Hp, h42 = hu h 70 3 ((h 70 3) + 1) → K 0 h42) : L_X12_rake_46 w h K := by
  unfold L_X12_rake_46
  refine J_aload_n 47 rfl 0 0 rfl ⟨by decide, by decide⟩ (D_X12_rake_0.at 24 rfl) ?_
  refine J_getF (ov := 70) (dd := 1002) 50 rfl fl_12_17 rfl (by decide) rfl ob_68 (Ob.lt ob_68) (D_X12_rake_0.at 25 rfl) ?_
  refine J_iconst 51 rfl (D_X12_rake_0.at 26 rfl) ?_
  refine J_dup2 52 rfl rfl rfl (D_X12_rake_0.at 27 rfl) ?_
  refine J_iald 53 rfl ar_70 (Ar.lt ar_70) ⟨by decide, by decide⟩ (D_X12_rake_0.at 28 rfl) ?_
  refine J_iconst 54 rfl (D_X12_rake_0.at 29 rfl) ?_
  refine J_iadd 55 rfl (D_X12_rake_0.at 30 rfl) ?_
  refine J_iastH 56 rfl ar_70 (Ar.lt ar_70) ⟨by decide, by decide⟩ trivial (D_X12_rake_0.at 31 rfl) (fun h42 e43 => ?_)
  replace T := T h42 e43
  refine J_iconst 57 rfl (D_X12_rake_0.at 32 rfl) ?_
  exact J_zret rfl (Or.inl rfl) (D_X12_rake_0.at 33 rfl) T
theorem c_X12_wouldLie {w : Wd} {a1 : Int} {h : Hp} {K : Int → Hp → Prop} (T : C_X12_liesAll w a1 h (fun r1 h2 => C_X12_settledIn w a1 h2 (fun r4 h5 => K (r1 + r4) h5))) : C_X12_wouldLie w a1 h K := by
  refine CGm_of2 (by decide) (by decide) trivial (Nat.le_of_ble_eq_true rfl) ?_
  refine J_aload_n 1 rfl 0 0 rfl ⟨by decide, by decide⟩ (D_X12_wouldLie_0.at 0 rfl) ?_
  refine J_iload_n 2 rfl 1 1 rfl (D_X12_wouldLie_0.at 1 rfl) ?_
  refine J_callV (d' := 2) (sr := fun z => [vI z]) (as := [vI a1]) (st := []) (o := 68) 5 rfl ok_X12_liesAll im_X12_liesAll se_X12_liesAll ml_12_456 isC_12 ob_68 (Ob.lt ob_68) rfl (by decide) ⟨Nat.le_refl _, Nat.le_refl _⟩ (Nat.le_of_ble_eq_true rfl) (D_X12_wouldLie_0.at 2 rfl) (fun _ => rfl) T (fun r1 h2 T b3 => ?_)
  refine J_aload_n 6 rfl 0 0 rfl ⟨by decide, by decide⟩ (D_X12_wouldLie_0.at 3 rfl) ?_
  refine J_iload_n 7 rfl 1 1 rfl (D_X12_wouldLie_0.at 4 rfl) ?_
  refine J_callV (d' := 2) (sr := fun z => [vI z, vI r1]) (as := [vI a1]) (st := [vI r1]) (o := 68) 10 rfl ok_X12_settledIn im_X12_settledIn se_X12_settledIn ml_12_453 isC_12 ob_68 (Ob.lt ob_68) rfl (by decide) ⟨Nat.le_refl _, Nat.le_refl _⟩ (Nat.le_of_ble_eq_true rfl) (D_X12_wouldLie_0.at 5 rfl) (fun _ => rfl) T (fun r4 h5 T b6 => ?_)
  refine J_iadd 11 rfl (D_X12_wouldLie_0.at 6 rfl) ?_
  exact J_iret rfl (D_X12_wouldLie_0.at 7 rfl) T
theorem c_X12_forged {w : Wd} {a1 : Int} {h : Hp} {K : Int → Hp → Prop} (T : ∀ h1 : Hp, h1 = hu h 68 1 0 → (inR a1) ∧ ((inR ((h1 68 36) - 1)) ∧ ((inL a1) ∧ (((a1 < 0) → (K (-1) h1)) ∧ (¬ (a1 < 0) → ((inL a1) ∧ ((inL ((h1 68 36) - 1)) ∧ (((a1 > ((h1 68 36) - 1)) → (K (-1) h1)) ∧ (¬ (a1 > ((h1 68 36) - 1)) → ((inR (h 68 1)) ∧ ((inR (2 * (h1 93 4))) ∧ ((((h 68 1) = (2 * (h1 93 4))) → (L_X12_forged_35 w a1 0 0 h1 K)) ∧ (¬ ((h 68 1) = (2 * (h1 93 4))) → (K (-1) h1)))))))))))))) : C_X12_forged w a1 h K := by
  refine CGm_of2 (by decide) (by decide) trivial (Nat.le_of_ble_eq_true rfl) ?_
  refine J_aload_n 1 rfl 0 0 rfl ⟨by decide, by decide⟩ (D_X12_forged_0.at 0 rfl) ?_
  refine J_getI (z := (h 68 1)) 4 rfl fl_12_224 rfl ob_68 (Ob.lt ob_68) (D_X12_forged_0.at 1 rfl) rfl ?_
  refine J_istore_n (lv' := [(2, vI (h 68 1)), (0, vR 68), (1, vI a1)]) 5 rfl 2 (by decide) rfl (D_X12_forged_0.at 2 rfl) ?_
  refine J_aload_n 6 rfl 0 1 rfl ⟨by decide, by decide⟩ (D_X12_forged_0.at 3 rfl) ?_
  refine J_iconst 7 rfl (D_X12_forged_0.at 4 rfl) ?_
  refine J_putI 10 rfl fl_12_224 rfl rfl ob_68 (Ob.lt ob_68) (D_X12_forged_0.at 5 rfl) (fun h1 e2 => ?_)
  replace T := T h1 e2
  refine J_aload_n 11 rfl 0 1 rfl ⟨by decide, by decide⟩ (D_X12_forged_0.at 6 rfl) ?_
  refine J_iload_n 12 rfl 1 2 rfl (D_X12_forged_0.at 7 rfl) ?_
  refine J_callV (d' := 2) (K1 := fun z h0 => rok (some .boolean) z → JG w true m_X12_forged 3 NT NT 15 [(2, vI (h 68 1)), (0, vR 68), (1, vI a1)] [vI z] h0 _) (sr := fun z => [vI z]) (as := [vI a1]) (st := []) (o := 68) 15 rfl ok_X12_isReach im_X12_isReach se_X12_isReach ml_12_499 isC_12 ob_68 (Ob.lt ob_68) rfl (by decide) ⟨Nat.le_refl _, Nat.le_refl _⟩ (Nat.le_of_ble_eq_true rfl) (D_X12_forged_0.at 8 rfl) (fun _ => rfl) (CGm_of2 (by decide) (by decide) trivial (Nat.le_of_ble_eq_true rfl) ?_) (fun _ _ kq hb => kq hb)
  refine J_iload_n 1 rfl 1 1 rfl (D_X12_isReach_0.at 0 rfl) ?_
  obtain ⟨s3, T⟩ := T
  refine J_i2l 2 rfl s3 (D_X12_isReach_0.at 1 rfl) ?_
  refine J_lconst (z := 0) 3 rfl rfl (D_X12_isReach_0.at 2 rfl) ?_
  refine J_aload_n 4 rfl 0 0 rfl ⟨by decide, by decide⟩ (D_X12_isReach_0.at 3 rfl) ?_
  refine J_getI (z := (h1 68 36)) 7 rfl fl_12_356 rfl ob_68 (Ob.lt ob_68) (D_X12_isReach_0.at 4 rfl) rfl ?_
  refine J_iconst 8 rfl (D_X12_isReach_0.at 5 rfl) ?_
  refine J_isub 9 rfl (D_X12_isReach_0.at 6 rfl) ?_
  obtain ⟨s4, T⟩ := T
  refine J_i2l 10 rfl s4 (D_X12_isReach_0.at 7 rfl) ?_
  refine J_callS (d' := 1) (K1 := fun z h0 => rok (some .boolean) z → JG w true m_X12_isReach 2 NT NT 13 [(0, vR 68), (1, vI a1)] [vI z] h0 _) (sr := fun z => [vI z]) (as := [vL a1, vL 0, vL ((h1 68 36) - 1)]) (st := []) 13 rfl ok_X12_isIn sm_X12_isIn ml_12_267 rfl (by decide) ⟨Nat.le_refl _, Nat.le_refl _⟩ (Nat.le_of_ble_eq_true rfl) (D_X12_isReach_0.at 8 rfl) (fun _ => rfl) (CGm_of2 (by decide) (by decide) trivial (Nat.le_of_ble_eq_true rfl) ?_) (fun _ _ kq hb => kq hb)
  refine J_lload_n 1 rfl 0 0 rfl (D_X12_isIn_0.at 0 rfl) ?_
  refine J_lload_n 2 rfl 2 1 rfl (D_X12_isIn_0.at 1 rfl) ?_
  obtain ⟨s5, T⟩ := T
  refine J_lcmp_lt 6 rfl 17 s5 ⟨by decide, by decide⟩ (D_X12_isIn_0.at 2 rfl) (D_X12_isIn_0.at 3 rfl) (by decide) (fun c12 => ?_) (fun c12 => ?_)
  · replace T := T.1 c12
    refine J_iconst 18 rfl (D_X12_isIn_0.at 10 rfl) ?_
    refine J_zret rfl (Or.inl rfl) (D_X12_isIn_0.at 11 rfl) (fun _ => ?_)
    refine J_zret rfl (Or.inl rfl) (D_X12_isReach_0.at 9 rfl) (fun _ => ?_)
    refine J_if_eq 18 rfl 28 ⟨by decide, by decide⟩ (D_X12_forged_0.at 9 rfl) (by decide) (fun _ => ?_) (fun c => absurd (by decide) c)
    refine J_iconst 29 rfl (D_X12_forged_0.at 16 rfl) ?_
    exact J_iret rfl (D_X12_forged_0.at 17 rfl) T
  replace T := T.2 c12
  refine J_lload_n 7 rfl 0 0 rfl (D_X12_isIn_0.at 4 rfl) ?_
  refine J_lload 9 rfl 4 2 rfl (D_X12_isIn_0.at 5 rfl) ?_
  obtain ⟨s6, T⟩ := T
  obtain ⟨s7, T⟩ := T
  refine J_lcmp_gt 13 rfl 17 s6 s7 (D_X12_isIn_0.at 6 rfl) (D_X12_isIn_0.at 7 rfl) (by decide) (fun c11 => ?_) (fun c11 => ?_)
  · replace T := T.1 c11
    refine J_iconst 18 rfl (D_X12_isIn_0.at 10 rfl) ?_
    refine J_zret rfl (Or.inl rfl) (D_X12_isIn_0.at 11 rfl) (fun _ => ?_)
    refine J_zret rfl (Or.inl rfl) (D_X12_isReach_0.at 9 rfl) (fun _ => ?_)
    refine J_if_eq 18 rfl 28 ⟨by decide, by decide⟩ (D_X12_forged_0.at 9 rfl) (by decide) (fun _ => ?_) (fun c => absurd (by decide) c)
    refine J_iconst 29 rfl (D_X12_forged_0.at 16 rfl) ?_
    exact J_iret rfl (D_X12_forged_0.at 17 rfl) T
  replace T := T.2 c11
  refine J_iconst 14 rfl (D_X12_isIn_0.at 8 rfl) ?_
  refine J_goto 18 (D_X12_isIn_0.at 9 rfl) (by decide) ?_
  refine J_zret rfl (Or.inr rfl) (D_X12_isIn_0.at 11 rfl) (fun _ => ?_)
  refine J_zret rfl (Or.inr rfl) (D_X12_isReach_0.at 9 rfl) (fun _ => ?_)
  refine J_if_eq 18 rfl 28 ⟨by decide, by decide⟩ (D_X12_forged_0.at 9 rfl) (by decide) (fun c => absurd c (by decide)) (fun _ => ?_)
  refine J_iload_n 19 rfl 2 0 rfl (D_X12_forged_0.at 10 rfl) ?_
  refine J_iconst 20 rfl (D_X12_forged_0.at 11 rfl) ?_
  refine J_aload_n 21 rfl 0 1 rfl ⟨by decide, by decide⟩ (D_X12_forged_0.at 12 rfl) ?_
  refine J_callV (d' := 1) (K1 := fun z h0 => rok (some .int) z → JG w true m_X12_forged 3 NT NT 24 [(2, vI (h 68 1)), (0, vR 68), (1, vI a1)] [vI z, vI 2, vI (h 68 1)] h0 _) (sr := fun z => [vI z, vI 2, vI (h 68 1)]) (as := []) (st := [vI 2, vI (h 68 1)]) (o := 68) 24 rfl ok_X12_colourMany im_X12_colourMany se_X12_colourMany ml_12_471 isC_12 ob_68 (Ob.lt ob_68) rfl (by decide) ⟨Nat.le_refl _, Nat.le_refl _⟩ (Nat.le_of_ble_eq_true rfl) (D_X12_forged_0.at 13 rfl) (fun _ => rfl) (CGm_of2 (by decide) (by decide) trivial (Nat.le_of_ble_eq_true rfl) ?_) (fun _ _ kq hb => kq hb)
  refine J_aload_n 1 rfl 0 0 rfl ⟨by decide, by decide⟩ (D_X12_colourMany_0.at 0 rfl) ?_
  refine J_getF (ov := 93) (dd := 1025) 4 rfl fl_12_87 rfl (by decide) rfl ob_68 (Ob.lt ob_68) (D_X12_colourMany_0.at 1 rfl) ?_
  refine J_iconst 5 rfl (D_X12_colourMany_0.at 2 rfl) ?_
  refine J_iald 6 rfl ar_93 (Ar.lt ar_93) ⟨by decide, by decide⟩ (D_X12_colourMany_0.at 3 rfl) ?_
  refine J_iret rfl (D_X12_colourMany_0.at 4 rfl) (fun _ => ?_)
  refine J_imul 25 rfl (D_X12_forged_0.at 14 rfl) ?_
  obtain ⟨s8, T⟩ := T
  obtain ⟨s9, T⟩ := T
  refine J_icmp_eq 28 rfl 30 s8 s9 (D_X12_forged_0.at 15 rfl) (by decide) (fun c10 => ?_) (fun c10 => ?_)
  · replace T := T.1 c10
    refine J_iconst 31 rfl (D_X12_forged_0.at 18 rfl) ?_
    refine J_istore_n (lv' := [(3, vI 0), (2, vI (h 68 1)), (0, vR 68), (1, vI a1)]) 32 rfl 3 (by decide) rfl (D_X12_forged_0.at 19 rfl) ?_
    refine J_iconst 33 rfl (D_X12_forged_0.at 20 rfl) ?_
    refine J_istore (lv' := [(4, vI 0), (3, vI 0), (2, vI (h 68 1)), (0, vR 68), (1, vI a1)]) 35 rfl 4 (by decide) rfl (D_X12_forged_0.at 21 rfl) ?_
    exact J_sub (lv' := [(0, vR 68), (1, vI a1), (3, vI 0), (4, vI 0)]) [3, 4, 1, 0] rfl T
  replace T := T.2 c10
  refine J_iconst 29 rfl (D_X12_forged_0.at 16 rfl) ?_
  exact J_iret rfl (D_X12_forged_0.at 17 rfl) T
theorem l_X12_forged_35 {w : Wd} {v1 v3 v4 : Int} {h : Hp} {K : Int → Hp → Prop} (T : (inR v4) ∧ ((inR (h 93 4)) ∧ (((v4 ≥ (h 93 4)) → (K v3 h)) ∧ (¬ (v4 ≥ (h 93 4)) → ((0 ≤ (2 * v4) ∧ (2 * v4) < 1600) ∧ ((0 ≤ ((2 * v4) + 1) ∧ ((2 * v4) + 1) < 1600) ∧ (C_X12_tintOf w v1 v4 h (fun r17 h18 => (inR (((256 * (h 69 (2 * v4))) + (h 69 ((2 * v4) + 1))) - r17)) ∧ ((((((256 * (h 69 (2 * v4))) + (h 69 ((2 * v4) + 1))) - r17) ≤ 0) → (L_X12_forged_35 w v1 v3 (v4 + 1) h18 K)) ∧ (¬ ((((256 * (h 69 (2 * v4))) + (h 69 ((2 * v4) + 1))) - r17) ≤ 0) → (L_X12_forged_35 w v1 (v3 + (((256 * (h 69 (2 * v4))) + (h 69 ((2 * v4) + 1))) - r17)) (v4 + 1) h18 K))))))))))) : L_X12_forged_35 w v1 v3 v4 h K := by
  unfold L_X12_forged_35
  refine J_iload 37 rfl 4 3 rfl (D_X12_forged_0.at 22 rfl) ?_
  refine J_aload_n 38 rfl 0 0 rfl ⟨by decide, by decide⟩ (D_X12_forged_0.at 23 rfl) ?_
  refine J_callV (d' := 1) (K1 := fun z h0 => rok (some .int) z → JG w true m_X12_forged 3 NT NT 41 [(0, vR 68), (1, vI v1), (3, vI v3), (4, vI v4)] [vI z, vI v4] h0 _) (sr := fun z => [vI z, vI v4]) (as := []) (st := [vI v4]) (o := 68) 41 rfl ok_X12_colourMany im_X12_colourMany se_X12_colourMany ml_12_471 isC_12 ob_68 (Ob.lt ob_68) rfl (by decide) ⟨Nat.le_refl _, Nat.le_refl _⟩ (Nat.le_of_ble_eq_true rfl) (D_X12_forged_0.at 24 rfl) (fun _ => rfl) (CGm_of2 (by decide) (by decide) trivial (Nat.le_of_ble_eq_true rfl) ?_) (fun _ _ kq hb => kq hb)
  refine J_aload_n 1 rfl 0 0 rfl ⟨by decide, by decide⟩ (D_X12_colourMany_0.at 0 rfl) ?_
  refine J_getF (ov := 93) (dd := 1025) 4 rfl fl_12_87 rfl (by decide) rfl ob_68 (Ob.lt ob_68) (D_X12_colourMany_0.at 1 rfl) ?_
  refine J_iconst 5 rfl (D_X12_colourMany_0.at 2 rfl) ?_
  refine J_iald 6 rfl ar_93 (Ar.lt ar_93) ⟨by decide, by decide⟩ (D_X12_colourMany_0.at 3 rfl) ?_
  refine J_iret rfl (D_X12_colourMany_0.at 4 rfl) (fun _ => ?_)
  obtain ⟨s13, T⟩ := T
  obtain ⟨s14, T⟩ := T
  refine J_icmp_ge 44 rfl 95 s13 s14 (D_X12_forged_0.at 25 rfl) (by decide) (fun c22 => ?_) (fun c22 => ?_)
  · replace T := T.1 c22
    refine J_iload_n 96 rfl 3 2 rfl (D_X12_forged_1.at 9 rfl) ?_
    exact J_iret rfl (D_X12_forged_1.at 10 rfl) T
  replace T := T.2 c22
  refine J_sipush 47 rfl ⟨by decide, by decide⟩ (D_X12_forged_0.at 26 rfl) ?_
  refine J_aload_n 48 rfl 0 0 rfl ⟨by decide, by decide⟩ (D_X12_forged_0.at 27 rfl) ?_
  refine J_getF (ov := 69) (dd := 1001) 51 rfl fl_12_7 rfl (by decide) rfl ob_68 (Ob.lt ob_68) (D_X12_forged_0.at 28 rfl) ?_
  refine J_iconst 52 rfl (D_X12_forged_0.at 29 rfl) ?_
  refine J_iload 54 rfl 4 3 rfl (D_X12_forged_0.at 30 rfl) ?_
  refine J_imul 55 rfl (D_X12_forged_0.at 31 rfl) ?_
  obtain ⟨s15, T⟩ := T
  refine J_iald 56 rfl ar_69 (Ar.lt ar_69) s15 (D_X12_forged_0.at 32 rfl) ?_
  refine J_imul 57 rfl (D_X12_forged_0.at 33 rfl) ?_
  refine J_aload_n 58 rfl 0 0 rfl ⟨by decide, by decide⟩ (D_X12_forged_0.at 34 rfl) ?_
  refine J_getF (ov := 69) (dd := 1001) 61 rfl fl_12_7 rfl (by decide) rfl ob_68 (Ob.lt ob_68) (D_X12_forged_0.at 35 rfl) ?_
  refine J_iconst 62 rfl (D_X12_forged_0.at 36 rfl) ?_
  refine J_iload 64 rfl 4 3 rfl (D_X12_forged_0.at 37 rfl) ?_
  refine J_imul 65 rfl (D_X12_forged_0.at 38 rfl) ?_
  refine J_iconst 66 rfl (D_X12_forged_0.at 39 rfl) ?_
  refine J_iadd 67 rfl (D_X12_forged_0.at 40 rfl) ?_
  obtain ⟨s16, T⟩ := T
  refine J_iald 68 rfl ar_69 (Ar.lt ar_69) s16 (D_X12_forged_0.at 41 rfl) ?_
  refine J_iadd 69 rfl (D_X12_forged_0.at 42 rfl) ?_
  refine J_aload_n 70 rfl 0 0 rfl ⟨by decide, by decide⟩ (D_X12_forged_0.at 43 rfl) ?_
  refine J_iload_n 71 rfl 1 1 rfl (D_X12_forged_0.at 44 rfl) ?_
  refine J_iload 73 rfl 4 3 rfl (D_X12_forged_0.at 45 rfl) ?_
  refine J_callV (d' := 2) (sr := fun z => [vI z, vI ((256 * (h 69 (2 * v4))) + (h 69 ((2 * v4) + 1)))]) (as := [vI v1, vI v4]) (st := [vI ((256 * (h 69 (2 * v4))) + (h 69 ((2 * v4) + 1)))]) (o := 68) 76 rfl ok_X12_tintOf im_X12_tintOf se_X12_tintOf ml_12_511 isC_12 ob_68 (Ob.lt ob_68) rfl (by decide) ⟨Nat.le_refl _, Nat.le_refl _⟩ (Nat.le_of_ble_eq_true rfl) (D_X12_forged_0.at 46 rfl) (fun _ => rfl) T (fun r17 h18 T b19 => ?_)
  refine J_isub 77 rfl (D_X12_forged_0.at 47 rfl) ?_
  refine J_istore (lv' := [(5, vI (((256 * (h 69 (2 * v4))) + (h 69 ((2 * v4) + 1))) - r17)), (0, vR 68), (1, vI v1), (3, vI v3), (4, vI v4)]) 79 rfl 5 (by decide) rfl (D_X12_forged_1.at 0 rfl) ?_
  refine J_iload 81 rfl 5 0 rfl (D_X12_forged_1.at 1 rfl) ?_
  obtain ⟨s20, T⟩ := T
  refine J_if_le 84 rfl 89 s20 (D_X12_forged_1.at 2 rfl) (by decide) (fun c21 => ?_) (fun c21 => ?_)
  · replace T := T.1 c21
    refine J_iinc (v := (v4 + 1)) (lv' := [(4, vI (v4 + 1)), (5, vI (((256 * (h 69 (2 * v4))) + (h 69 ((2 * v4) + 1))) - r17)), (0, vR 68), (1, vI v1), (3, vI v3)]) 92 rfl 4 4 1 rfl rfl (by decide) rfl (D_X12_forged_1.at 7 rfl) ?_
    refine J_goto 35 (D_X12_forged_1.at 8 rfl) (by decide) ?_
    exact J_sub (lv' := [(0, vR 68), (1, vI v1), (3, vI v3), (4, vI (v4 + 1))]) [2, 3, 4, 0] rfl T
  replace T := T.2 c21
  refine J_iload_n 85 rfl 3 3 rfl (D_X12_forged_1.at 3 rfl) ?_
  refine J_iload 87 rfl 5 0 rfl (D_X12_forged_1.at 4 rfl) ?_
  refine J_iadd 88 rfl (D_X12_forged_1.at 5 rfl) ?_
  refine J_istore_n (lv' := [(3, vI (v3 + (((256 * (h 69 (2 * v4))) + (h 69 ((2 * v4) + 1))) - r17))), (5, vI (((256 * (h 69 (2 * v4))) + (h 69 ((2 * v4) + 1))) - r17)), (0, vR 68), (1, vI v1), (4, vI v4)]) 89 rfl 3 (by decide) rfl (D_X12_forged_1.at 6 rfl) ?_
  refine J_iinc (v := (v4 + 1)) (lv' := [(4, vI (v4 + 1)), (3, vI (v3 + (((256 * (h 69 (2 * v4))) + (h 69 ((2 * v4) + 1))) - r17))), (5, vI (((256 * (h 69 (2 * v4))) + (h 69 ((2 * v4) + 1))) - r17)), (0, vR 68), (1, vI v1)]) 92 rfl 4 4 1 rfl rfl (by decide) rfl (D_X12_forged_1.at 7 rfl) ?_
  refine J_goto 35 (D_X12_forged_1.at 8 rfl) (by decide) ?_
  exact J_sub (lv' := [(0, vR 68), (1, vI v1), (3, vI (v3 + (((256 * (h 69 (2 * v4))) + (h 69 ((2 * v4) + 1))) - r17))), (4, vI (v4 + 1))]) [3, 4, 1, 0] rfl T
theorem c_X12_image {w : Wd} {h : Hp} {K : Int → Hp → Prop} (T : ∀ h1 : Hp, h1 = hu h 68 97 0 → C_X12_writesTwo w (h1 104 0) h1 (fun _ h4 => L_X12_image_17 w 0 h4 K)) : C_X12_image w h K := by
  refine CGm_of2 (by decide) (by decide) trivial (Nat.le_of_ble_eq_true rfl) ?_
  refine J_aload_n 1 rfl 0 0 rfl ⟨by decide, by decide⟩ (D_X12_image_0.at 0 rfl) ?_
  refine J_iconst 2 rfl (D_X12_image_0.at 1 rfl) ?_
  refine J_putI 5 rfl fl_12_687 rfl rfl ob_68 (Ob.lt ob_68) (D_X12_image_0.at 2 rfl) (fun h1 e2 => ?_)
  replace T := T h1 e2
  refine J_aload_n 6 rfl 0 0 rfl ⟨by decide, by decide⟩ (D_X12_image_0.at 3 rfl) ?_
  refine J_aload_n 7 rfl 0 0 rfl ⟨by decide, by decide⟩ (D_X12_image_0.at 4 rfl) ?_
  refine J_getF (ov := 104) (dd := 1036) 10 rfl fl_12_121 rfl (by decide) rfl ob_68 (Ob.lt ob_68) (D_X12_image_0.at 5 rfl) ?_
  refine J_iconst 11 rfl (D_X12_image_0.at 6 rfl) ?_
  refine J_iald 12 rfl ar_104 (Ar.lt ar_104) ⟨by decide, by decide⟩ (D_X12_image_0.at 7 rfl) ?_
  refine J_callV (d' := 2) (sr := fun z => []) (as := [vI (h1 104 0)]) (st := []) (o := 68) 15 rfl ok_X12_writesTwo im_X12_writesTwo se_X12_writesTwo ml_12_693 isC_12 ob_68 (Ob.lt ob_68) rfl (by decide) ⟨Nat.le_refl _, Nat.le_refl _⟩ (Nat.le_of_ble_eq_true rfl) (D_X12_image_0.at 8 rfl) (fun _ => rfl) T (fun r3 h4 T b5 => ?_)
  refine J_iconst 16 rfl (D_X12_image_0.at 9 rfl) ?_
  refine J_istore_n (lv' := [(1, vI 0), (0, vR 68)]) 17 rfl 1 (by decide) rfl (D_X12_image_0.at 10 rfl) ?_
  exact J_sub (lv' := [(0, vR 68), (1, vI 0)]) [1, 0] rfl T
theorem l_X12_image_17 {w : Wd} {v1 : Int} {h : Hp} {K : Int → Hp → Prop} (T : (inR v1) ∧ ((inR (h 68 36)) ∧ (((v1 ≥ (h 68 36)) → (L_X12_image_71 w 0 h K)) ∧ (¬ (v1 ≥ (h 68 36)) → ((0 ≤ (1 + v1) ∧ (1 + v1) < 109) ∧ (C_X12_writes w (h 104 (1 + v1)) h (fun _ h10 => L_X12_image_39 w v1 0 h10 K))))))) : L_X12_image_17 w v1 h K := by
  unfold L_X12_image_17
  refine J_iload_n 18 rfl 1 1 rfl (D_X12_image_0.at 11 rfl) ?_
  refine J_aload_n 19 rfl 0 0 rfl ⟨by decide, by decide⟩ (D_X12_image_0.at 12 rfl) ?_
  refine J_getI (z := (h 68 36)) 22 rfl fl_12_356 rfl ob_68 (Ob.lt ob_68) (D_X12_image_0.at 13 rfl) rfl ?_
  obtain ⟨s6, T⟩ := T
  obtain ⟨s7, T⟩ := T
  refine J_icmp_ge 25 rfl 69 s6 s7 (D_X12_image_0.at 14 rfl) (by decide) (fun c12 => ?_) (fun c12 => ?_)
  · replace T := T.1 c12
    refine J_iconst 70 rfl (D_X12_image_0.at 39 rfl) ?_
    refine J_istore_n (lv' := [(1, vI 0), (0, vR 68)]) 71 rfl 1 (by decide) rfl (D_X12_image_0.at 40 rfl) ?_
    exact J_sub (lv' := [(0, vR 68), (1, vI 0)]) [1, 0] rfl T
  replace T := T.2 c12
  refine J_aload_n 26 rfl 0 0 rfl ⟨by decide, by decide⟩ (D_X12_image_0.at 15 rfl) ?_
  refine J_aload_n 27 rfl 0 0 rfl ⟨by decide, by decide⟩ (D_X12_image_0.at 16 rfl) ?_
  refine J_getF (ov := 104) (dd := 1036) 30 rfl fl_12_121 rfl (by decide) rfl ob_68 (Ob.lt ob_68) (D_X12_image_0.at 17 rfl) ?_
  refine J_iconst 31 rfl (D_X12_image_0.at 18 rfl) ?_
  refine J_iload_n 32 rfl 1 1 rfl (D_X12_image_0.at 19 rfl) ?_
  refine J_iadd 33 rfl (D_X12_image_0.at 20 rfl) ?_
  obtain ⟨s8, T⟩ := T
  refine J_iald 34 rfl ar_104 (Ar.lt ar_104) s8 (D_X12_image_0.at 21 rfl) ?_
  refine J_callV (d' := 1) (sr := fun z => []) (as := [vI (h 104 (1 + v1))]) (st := []) (o := 68) 37 rfl ok_X12_writes im_X12_writes se_X12_writes ml_12_690 isC_12 ob_68 (Ob.lt ob_68) rfl (by decide) ⟨Nat.le_refl _, Nat.le_refl _⟩ (Nat.le_of_ble_eq_true rfl) (D_X12_image_0.at 22 rfl) (fun _ => rfl) T (fun r9 h10 T b11 => ?_)
  refine J_iconst 38 rfl (D_X12_image_0.at 23 rfl) ?_
  refine J_istore_n (lv' := [(2, vI 0), (0, vR 68), (1, vI v1)]) 39 rfl 2 (by decide) rfl (D_X12_image_0.at 24 rfl) ?_
  exact J_sub (lv' := [(0, vR 68), (1, vI v1), (2, vI 0)]) [1, 2, 0] rfl T
theorem l_X12_image_39 {w : Wd} {v1 v2 : Int} {h : Hp} {K : Int → Hp → Prop} (T : (inR v2) ∧ ((inR (h 93 5)) ∧ (((v2 ≥ (h 93 5)) → (L_X12_image_17 w (v1 + 1) h K)) ∧ (¬ (v2 ≥ (h 93 5)) → ((0 ≤ ((29 + (10 * v1)) + v2) ∧ ((29 + (10 * v1)) + v2) < 109) ∧ (C_X12_writesTwo w (h 104 ((29 + (10 * v1)) + v2)) h (fun _ h17 => L_X12_image_39 w v1 (v2 + 1) h17 K))))))) : L_X12_image_39 w v1 v2 h K := by
  unfold L_X12_image_39
  refine J_iload_n 40 rfl 2 2 rfl (D_X12_image_0.at 25 rfl) ?_
  refine J_aload_n 41 rfl 0 0 rfl ⟨by decide, by decide⟩ (D_X12_image_0.at 26 rfl) ?_
  refine J_callV (d' := 1) (K1 := fun z h0 => rok (some .int) z → JG w true m_X12_image 3 NT NT 44 [(0, vR 68), (1, vI v1), (2, vI v2)] [vI z, vI v2] h0 _) (sr := fun z => [vI z, vI v2]) (as := []) (st := [vI v2]) (o := 68) 44 rfl ok_X12_bankMany im_X12_bankMany se_X12_bankMany ml_12_419 isC_12 ob_68 (Ob.lt ob_68) rfl (by decide) ⟨Nat.le_refl _, Nat.le_refl _⟩ (Nat.le_of_ble_eq_true rfl) (D_X12_image_0.at 27 rfl) (fun _ => rfl) (CGm_of2 (by decide) (by decide) trivial (Nat.le_of_ble_eq_true rfl) ?_) (fun _ _ kq hb => kq hb)
  refine J_aload_n 1 rfl 0 0 rfl ⟨by decide, by decide⟩ (D_X12_bankMany_0.at 0 rfl) ?_
  refine J_getF (ov := 93) (dd := 1025) 4 rfl fl_12_87 rfl (by decide) rfl ob_68 (Ob.lt ob_68) (D_X12_bankMany_0.at 1 rfl) ?_
  refine J_iconst 5 rfl (D_X12_bankMany_0.at 2 rfl) ?_
  refine J_iald 6 rfl ar_93 (Ar.lt ar_93) ⟨by decide, by decide⟩ (D_X12_bankMany_0.at 3 rfl) ?_
  refine J_iret rfl (D_X12_bankMany_0.at 4 rfl) (fun _ => ?_)
  obtain ⟨s13, T⟩ := T
  obtain ⟨s14, T⟩ := T
  refine J_icmp_ge 47 rfl 63 s13 s14 (D_X12_image_0.at 28 rfl) (by decide) (fun c19 => ?_) (fun c19 => ?_)
  · replace T := T.1 c19
    refine J_iinc (v := (v1 + 1)) (lv' := [(1, vI (v1 + 1)), (0, vR 68), (2, vI v2)]) 66 rfl 1 1 1 rfl rfl (by decide) rfl (D_X12_image_0.at 37 rfl) ?_
    refine J_goto 17 (D_X12_image_0.at 38 rfl) (by decide) ?_
    exact J_sub (lv' := [(0, vR 68), (1, vI (v1 + 1))]) [1, 0] rfl T
  replace T := T.2 c19
  refine J_aload_n 48 rfl 0 0 rfl ⟨by decide, by decide⟩ (D_X12_image_0.at 29 rfl) ?_
  refine J_aload_n 49 rfl 0 0 rfl ⟨by decide, by decide⟩ (D_X12_image_0.at 30 rfl) ?_
  refine J_iload_n 50 rfl 1 1 rfl (D_X12_image_0.at 31 rfl) ?_
  refine J_iload_n 51 rfl 2 2 rfl (D_X12_image_0.at 32 rfl) ?_
  refine J_callV (d' := 1) (K1 := fun z h0 => rok (some .int) z → JG w true m_X12_image 3 NT NT 54 [(0, vR 68), (1, vI v1), (2, vI v2)] [vI z, vR 68] h0 _) (sr := fun z => [vI z, vR 68]) (as := [vI v1, vI v2]) (st := [vR 68]) (o := 68) 54 rfl ok_X12_liesIn im_X12_liesIn se_X12_liesIn ml_12_468 isC_12 ob_68 (Ob.lt ob_68) rfl (by decide) ⟨Nat.le_refl _, Nat.le_refl _⟩ (Nat.le_of_ble_eq_true rfl) (D_X12_image_0.at 33 rfl) (fun _ => rfl) (CGm_of2 (by decide) (by decide) trivial (Nat.le_of_ble_eq_true rfl) ?_) (fun _ _ kq hb => kq hb)
  refine J_aload_n 1 rfl 0 0 rfl ⟨by decide, by decide⟩ (D_X12_liesIn_0.at 0 rfl) ?_
  refine J_getF (ov := 104) (dd := 1036) 4 rfl fl_12_121 rfl (by decide) rfl ob_68 (Ob.lt ob_68) (D_X12_liesIn_0.at 1 rfl) ?_
  refine J_bipush 6 rfl ⟨by decide, by decide⟩ (D_X12_liesIn_0.at 2 rfl) ?_
  refine J_bipush 8 rfl ⟨by decide, by decide⟩ (D_X12_liesIn_0.at 3 rfl) ?_
  refine J_iload_n 9 rfl 1 1 rfl (D_X12_liesIn_0.at 4 rfl) ?_
  refine J_imul 10 rfl (D_X12_liesIn_0.at 5 rfl) ?_
  refine J_iadd 11 rfl (D_X12_liesIn_0.at 6 rfl) ?_
  refine J_iload_n 12 rfl 2 2 rfl (D_X12_liesIn_0.at 7 rfl) ?_
  refine J_iadd 13 rfl (D_X12_liesIn_0.at 8 rfl) ?_
  obtain ⟨s15, T⟩ := T
  refine J_iald 14 rfl ar_104 (Ar.lt ar_104) s15 (D_X12_liesIn_0.at 9 rfl) ?_
  refine J_iret rfl (D_X12_liesIn_0.at 10 rfl) (fun _ => ?_)
  refine J_callV (d' := 2) (sr := fun z => []) (as := [vI (h 104 ((29 + (10 * v1)) + v2))]) (st := []) (o := 68) 57 rfl ok_X12_writesTwo im_X12_writesTwo se_X12_writesTwo ml_12_693 isC_12 ob_68 (Ob.lt ob_68) rfl (by decide) ⟨Nat.le_refl _, Nat.le_refl _⟩ (Nat.le_of_ble_eq_true rfl) (D_X12_image_0.at 34 rfl) (fun _ => rfl) T (fun r16 h17 T b18 => ?_)
  refine J_iinc (v := (v2 + 1)) (lv' := [(2, vI (v2 + 1)), (0, vR 68), (1, vI v1)]) 60 rfl 2 2 1 rfl rfl (by decide) rfl (D_X12_image_0.at 35 rfl) ?_
  refine J_goto 39 (D_X12_image_0.at 36 rfl) (by decide) ?_
  exact J_sub (lv' := [(0, vR 68), (1, vI v1), (2, vI (v2 + 1))]) [1, 2, 0] rfl T
theorem l_X12_image_71 {w : Wd} {v1 : Int} {h : Hp} {K : Int → Hp → Prop} (T : (inR v1) ∧ ((inR (h 93 5)) ∧ (((v1 ≥ (h 93 5)) → (C_X12_checked w 136 (h 68 97) h (fun r22 h23 => C_X12_writes w r22 h23 (fun _ h26 => K (h26 68 97) h26)))) ∧ (¬ (v1 ≥ (h 93 5)) → ((0 ≤ (9 + v1) ∧ (9 + v1) < 109) ∧ (C_X12_writes w (h 104 (9 + v1)) h (fun _ h30 => (0 ≤ (19 + v1) ∧ (19 + v1) < 109) ∧ (C_X12_writesTwo w (h30 104 (19 + v1)) h30 (fun _ h34 => L_X12_image_71 w (v1 + 1) h34 K))))))))) : L_X12_image_71 w v1 h K := by
  unfold L_X12_image_71
  refine J_iload_n 72 rfl 1 1 rfl (D_X12_image_0.at 41 rfl) ?_
  refine J_aload_n 73 rfl 0 0 rfl ⟨by decide, by decide⟩ (D_X12_image_0.at 42 rfl) ?_
  refine J_callV (d' := 1) (K1 := fun z h0 => rok (some .int) z → JG w true m_X12_image 3 NT NT 76 [(0, vR 68), (1, vI v1)] [vI z, vI v1] h0 _) (sr := fun z => [vI z, vI v1]) (as := []) (st := [vI v1]) (o := 68) 76 rfl ok_X12_bankMany im_X12_bankMany se_X12_bankMany ml_12_419 isC_12 ob_68 (Ob.lt ob_68) rfl (by decide) ⟨Nat.le_refl _, Nat.le_refl _⟩ (Nat.le_of_ble_eq_true rfl) (D_X12_image_0.at 43 rfl) (fun _ => rfl) (CGm_of2 (by decide) (by decide) trivial (Nat.le_of_ble_eq_true rfl) ?_) (fun _ _ kq hb => kq hb)
  refine J_aload_n 1 rfl 0 0 rfl ⟨by decide, by decide⟩ (D_X12_bankMany_0.at 0 rfl) ?_
  refine J_getF (ov := 93) (dd := 1025) 4 rfl fl_12_87 rfl (by decide) rfl ob_68 (Ob.lt ob_68) (D_X12_bankMany_0.at 1 rfl) ?_
  refine J_iconst 5 rfl (D_X12_bankMany_0.at 2 rfl) ?_
  refine J_iald 6 rfl ar_93 (Ar.lt ar_93) ⟨by decide, by decide⟩ (D_X12_bankMany_0.at 3 rfl) ?_
  refine J_iret rfl (D_X12_bankMany_0.at 4 rfl) (fun _ => ?_)
  obtain ⟨s20, T⟩ := T
  obtain ⟨s21, T⟩ := T
  refine J_icmp_ge 79 rfl 111 s20 s21 (D_X12_image_0.at 44 rfl) (by decide) (fun c36 => ?_) (fun c36 => ?_)
  · replace T := T.1 c36
    refine J_aload_n 112 rfl 0 0 rfl ⟨by decide, by decide⟩ (D_X12_image_1.at 15 rfl) ?_
    refine J_aload_n 113 rfl 0 0 rfl ⟨by decide, by decide⟩ (D_X12_image_1.at 16 rfl) ?_
    refine J_getF (ov := 136) (dd := 1068) 116 rfl fl_12_221 rfl (by decide) rfl ob_68 (Ob.lt ob_68) (D_X12_image_1.at 17 rfl) ?_
    refine J_aload_n 117 rfl 0 0 rfl ⟨by decide, by decide⟩ (D_X12_image_1.at 18 rfl) ?_
    refine J_getI (z := (h 68 97)) 120 rfl fl_12_687 rfl ob_68 (Ob.lt ob_68) (D_X12_image_1.at 19 rfl) rfl ?_
    refine J_callS (d' := 1) (sr := fun z => [vI z, vR 68]) (as := [vR 136, vI (h 68 97)]) (st := [vR 68]) 123 rfl ok_X12_checked sm_X12_checked ml_12_696 rfl (by decide) ⟨Nat.le_refl _, Nat.le_refl _⟩ (Nat.le_of_ble_eq_true rfl) (D_X12_image_1.at 20 rfl) (fun _ => rfl) T (fun r22 h23 T b24 => ?_)
    refine J_callV (d' := 1) (sr := fun z => []) (as := [vI r22]) (st := []) (o := 68) 126 rfl ok_X12_writes im_X12_writes se_X12_writes ml_12_690 isC_12 ob_68 (Ob.lt ob_68) rfl (by decide) ⟨Nat.le_refl _, Nat.le_refl _⟩ (Nat.le_of_ble_eq_true rfl) (D_X12_image_1.at 21 rfl) (fun _ => rfl) T (fun r25 h26 T b27 => ?_)
    refine J_aload_n 127 rfl 0 0 rfl ⟨by decide, by decide⟩ (D_X12_image_1.at 22 rfl) ?_
    refine J_getI (z := (h26 68 97)) 130 rfl fl_12_687 rfl ob_68 (Ob.lt ob_68) (D_X12_image_1.at 23 rfl) rfl ?_
    exact J_iret rfl (D_X12_image_1.at 24 rfl) T
  replace T := T.2 c36
  refine J_aload_n 80 rfl 0 0 rfl ⟨by decide, by decide⟩ (D_X12_image_0.at 45 rfl) ?_
  refine J_aload_n 81 rfl 0 0 rfl ⟨by decide, by decide⟩ (D_X12_image_0.at 46 rfl) ?_
  refine J_getF (ov := 104) (dd := 1036) 84 rfl fl_12_121 rfl (by decide) rfl ob_68 (Ob.lt ob_68) (D_X12_image_0.at 47 rfl) ?_
  refine J_bipush 86 rfl ⟨by decide, by decide⟩ (D_X12_image_1.at 0 rfl) ?_
  refine J_iload_n 87 rfl 1 1 rfl (D_X12_image_1.at 1 rfl) ?_
  refine J_iadd 88 rfl (D_X12_image_1.at 2 rfl) ?_
  obtain ⟨s28, T⟩ := T
  refine J_iald 89 rfl ar_104 (Ar.lt ar_104) s28 (D_X12_image_1.at 3 rfl) ?_
  refine J_callV (d' := 1) (sr := fun z => []) (as := [vI (h 104 (9 + v1))]) (st := []) (o := 68) 92 rfl ok_X12_writes im_X12_writes se_X12_writes ml_12_690 isC_12 ob_68 (Ob.lt ob_68) rfl (by decide) ⟨Nat.le_refl _, Nat.le_refl _⟩ (Nat.le_of_ble_eq_true rfl) (D_X12_image_1.at 4 rfl) (fun _ => rfl) T (fun r29 h30 T b31 => ?_)
  refine J_aload_n 93 rfl 0 0 rfl ⟨by decide, by decide⟩ (D_X12_image_1.at 5 rfl) ?_
  refine J_aload_n 94 rfl 0 0 rfl ⟨by decide, by decide⟩ (D_X12_image_1.at 6 rfl) ?_
  refine J_getF (ov := 104) (dd := 1036) 97 rfl fl_12_121 rfl (by decide) rfl ob_68 (Ob.lt ob_68) (D_X12_image_1.at 7 rfl) ?_
  refine J_bipush 99 rfl ⟨by decide, by decide⟩ (D_X12_image_1.at 8 rfl) ?_
  refine J_iload_n 100 rfl 1 1 rfl (D_X12_image_1.at 9 rfl) ?_
  refine J_iadd 101 rfl (D_X12_image_1.at 10 rfl) ?_
  obtain ⟨s32, T⟩ := T
  refine J_iald 102 rfl ar_104 (Ar.lt ar_104) s32 (D_X12_image_1.at 11 rfl) ?_
  refine J_callV (d' := 2) (sr := fun z => []) (as := [vI (h30 104 (19 + v1))]) (st := []) (o := 68) 105 rfl ok_X12_writesTwo im_X12_writesTwo se_X12_writesTwo ml_12_693 isC_12 ob_68 (Ob.lt ob_68) rfl (by decide) ⟨Nat.le_refl _, Nat.le_refl _⟩ (Nat.le_of_ble_eq_true rfl) (D_X12_image_1.at 12 rfl) (fun _ => rfl) T (fun r33 h34 T b35 => ?_)
  refine J_iinc (v := (v1 + 1)) (lv' := [(1, vI (v1 + 1)), (0, vR 68)]) 108 rfl 1 1 1 rfl rfl (by decide) rfl (D_X12_image_1.at 13 rfl) ?_
  refine J_goto 71 (D_X12_image_1.at 14 rfl) (by decide) ?_
  exact J_sub (lv' := [(0, vR 68), (1, vI (v1 + 1))]) [1, 0] rfl T
theorem c_X12_on {w : Wd} {h : Hp} {K : Int → Hp → Prop} (T : ∀ h1 : Hp, h1 = hu h 68 1 0 → C_X12_isTold w (h 68 1) h1 (fun r3 h4 => (r3 = 0 ∨ r3 = 1) → ((r3 ≠ 0) → (∀ h6 : Hp, h6 = hu h4 104 0 ((256 * (h4 69 0)) + (h4 69 1)) → L_X12_on_62 w (1 + (2 * (h4 93 5))) (2 + ((1 + (2 * (h4 93 5))) * (h4 68 36))) 0 h6 K)) ∧ (¬ (r3 ≠ 0) → (∀ h8 : Hp, h8 = hu h4 70 5 ((h4 70 5) + 1) → K 0 h8)))) : C_X12_on w h K := by
  refine CGm_of2 (by decide) (by decide) trivial (Nat.le_of_ble_eq_true rfl) ?_
  refine J_aload_n 1 rfl 0 0 rfl ⟨by decide, by decide⟩ (D_X12_on_0.at 0 rfl) ?_
  refine J_getI (z := (h 68 1)) 4 rfl fl_12_224 rfl ob_68 (Ob.lt ob_68) (D_X12_on_0.at 1 rfl) rfl ?_
  refine J_istore_n (lv' := [(1, vI (h 68 1)), (0, vR 68)]) 5 rfl 1 (by decide) rfl (D_X12_on_0.at 2 rfl) ?_
  refine J_aload_n 6 rfl 0 1 rfl ⟨by decide, by decide⟩ (D_X12_on_0.at 3 rfl) ?_
  refine J_iconst 7 rfl (D_X12_on_0.at 4 rfl) ?_
  refine J_putI 10 rfl fl_12_224 rfl rfl ob_68 (Ob.lt ob_68) (D_X12_on_0.at 5 rfl) (fun h1 e2 => ?_)
  replace T := T h1 e2
  refine J_aload_n 11 rfl 0 1 rfl ⟨by decide, by decide⟩ (D_X12_on_0.at 6 rfl) ?_
  refine J_iload_n 12 rfl 1 0 rfl (D_X12_on_0.at 7 rfl) ?_
  refine J_callV (d' := 2) (sr := fun z => [vI z]) (as := [vI (h 68 1)]) (st := []) (o := 68) 15 rfl ok_X12_isTold im_X12_isTold se_X12_isTold ml_12_703 isC_12 ob_68 (Ob.lt ob_68) rfl (by decide) ⟨Nat.le_refl _, Nat.le_refl _⟩ (Nat.le_of_ble_eq_true rfl) (D_X12_on_0.at 8 rfl) (fun _ => rfl) T (fun r3 h4 T b5 => ?_)
  replace T := T b5
  refine J_if_ne 18 rfl 30 (inR_b b5) (D_X12_on_0.at 9 rfl) (by decide) (fun c10 => ?_) (fun c10 => ?_)
  · replace T := T.1 c10
    refine J_iconst 31 rfl (D_X12_on_0.at 20 rfl) ?_
    refine J_iconst 32 rfl (D_X12_on_0.at 21 rfl) ?_
    refine J_aload_n 33 rfl 0 1 rfl ⟨by decide, by decide⟩ (D_X12_on_0.at 22 rfl) ?_
    refine J_callV (d' := 1) (K1 := fun z h0 => rok (some .int) z → JG w true m_X12_on 3 NT NT 36 [(1, vI (h 68 1)), (0, vR 68)] [vI z, vI 2, vI 1] h0 _) (sr := fun z => [vI z, vI 2, vI 1]) (as := []) (st := [vI 2, vI 1]) (o := 68) 36 rfl ok_X12_bankMany im_X12_bankMany se_X12_bankMany ml_12_419 isC_12 ob_68 (Ob.lt ob_68) rfl (by decide) ⟨Nat.le_refl _, Nat.le_refl _⟩ (Nat.le_of_ble_eq_true rfl) (D_X12_on_0.at 23 rfl) (fun _ => rfl) (CGm_of2 (by decide) (by decide) trivial (Nat.le_of_ble_eq_true rfl) ?_) (fun _ _ kq hb => kq hb)
    refine J_aload_n 1 rfl 0 0 rfl ⟨by decide, by decide⟩ (D_X12_bankMany_0.at 0 rfl) ?_
    refine J_getF (ov := 93) (dd := 1025) 4 rfl fl_12_87 rfl (by decide) rfl ob_68 (Ob.lt ob_68) (D_X12_bankMany_0.at 1 rfl) ?_
    refine J_iconst 5 rfl (D_X12_bankMany_0.at 2 rfl) ?_
    refine J_iald 6 rfl ar_93 (Ar.lt ar_93) ⟨by decide, by decide⟩ (D_X12_bankMany_0.at 3 rfl) ?_
    refine J_iret rfl (D_X12_bankMany_0.at 4 rfl) (fun _ => ?_)
    refine J_imul 37 rfl (D_X12_on_0.at 24 rfl) ?_
    refine J_iadd 38 rfl (D_X12_on_0.at 25 rfl) ?_
    refine J_istore_n (lv' := [(2, vI (1 + (2 * (h4 93 5)))), (1, vI (h 68 1)), (0, vR 68)]) 39 rfl 2 (by decide) rfl (D_X12_on_0.at 26 rfl) ?_
    refine J_iconst 40 rfl (D_X12_on_0.at 27 rfl) ?_
    refine J_iload_n 41 rfl 2 0 rfl (D_X12_on_0.at 28 rfl) ?_
    refine J_aload_n 42 rfl 0 2 rfl ⟨by decide, by decide⟩ (D_X12_on_0.at 29 rfl) ?_
    refine J_getI (z := (h4 68 36)) 45 rfl fl_12_356 rfl ob_68 (Ob.lt ob_68) (D_X12_on_0.at 30 rfl) rfl ?_
    refine J_imul 46 rfl (D_X12_on_0.at 31 rfl) ?_
    refine J_iadd 47 rfl (D_X12_on_0.at 32 rfl) ?_
    refine J_istore_n (lv' := [(3, vI (2 + ((1 + (2 * (h4 93 5))) * (h4 68 36)))), (2, vI (1 + (2 * (h4 93 5)))), (1, vI (h 68 1)), (0, vR 68)]) 48 rfl 3 (by decide) rfl (D_X12_on_0.at 33 rfl) ?_
    refine J_aload_n 49 rfl 0 3 rfl ⟨by decide, by decide⟩ (D_X12_on_0.at 34 rfl) ?_
    refine J_getF (ov := 104) (dd := 1036) 52 rfl fl_12_121 rfl (by decide) rfl ob_68 (Ob.lt ob_68) (D_X12_on_0.at 35 rfl) ?_
    refine J_iconst 53 rfl (D_X12_on_0.at 36 rfl) ?_
    refine J_aload_n 54 rfl 0 3 rfl ⟨by decide, by decide⟩ (D_X12_on_0.at 37 rfl) ?_
    refine J_iconst 55 rfl (D_X12_on_0.at 38 rfl) ?_
    refine J_callV (d' := 1) (K1 := fun z h0 => rok (some .int) z → JG w true m_X12_on 3 NT NT 58 [(3, vI (2 + ((1 + (2 * (h4 93 5))) * (h4 68 36)))), (2, vI (1 + (2 * (h4 93 5)))), (1, vI (h 68 1)), (0, vR 68)] [vI z, vI 0, vR 104] h0 _) (sr := fun z => [vI z, vI 0, vR 104]) (as := [vI 0]) (st := [vI 0, vR 104]) (o := 68) 58 rfl ok_X12_two im_X12_two se_X12_two ml_12_700 isC_12 ob_68 (Ob.lt ob_68) rfl (by decide) ⟨Nat.le_refl _, Nat.le_refl _⟩ (Nat.le_of_ble_eq_true rfl) (D_X12_on_0.at 39 rfl) (fun _ => rfl) (CGm_of2 (by decide) (by decide) trivial (Nat.le_of_ble_eq_true rfl) ?_) (fun _ _ kq hb => kq hb)
    refine J_sipush 3 rfl ⟨by decide, by decide⟩ (D_X12_two_0.at 0 rfl) ?_
    refine J_aload_n 4 rfl 0 0 rfl ⟨by decide, by decide⟩ (D_X12_two_0.at 1 rfl) ?_
    refine J_getF (ov := 69) (dd := 1001) 7 rfl fl_12_7 rfl (by decide) rfl ob_68 (Ob.lt ob_68) (D_X12_two_0.at 2 rfl) ?_
    refine J_iload_n 8 rfl 1 1 rfl (D_X12_two_0.at 3 rfl) ?_
    refine J_iald 9 rfl ar_69 (Ar.lt ar_69) ⟨by decide, by decide⟩ (D_X12_two_0.at 4 rfl) ?_
    refine J_imul 10 rfl (D_X12_two_0.at 5 rfl) ?_
    refine J_aload_n 11 rfl 0 0 rfl ⟨by decide, by decide⟩ (D_X12_two_0.at 6 rfl) ?_
    refine J_getF (ov := 69) (dd := 1001) 14 rfl fl_12_7 rfl (by decide) rfl ob_68 (Ob.lt ob_68) (D_X12_two_0.at 7 rfl) ?_
    refine J_iload_n 15 rfl 1 1 rfl (D_X12_two_0.at 8 rfl) ?_
    refine J_iconst 16 rfl (D_X12_two_0.at 9 rfl) ?_
    refine J_iadd 17 rfl (D_X12_two_0.at 10 rfl) ?_
    refine J_iald 18 rfl ar_69 (Ar.lt ar_69) ⟨by decide, by decide⟩ (D_X12_two_0.at 11 rfl) ?_
    refine J_iadd 19 rfl (D_X12_two_0.at 12 rfl) ?_
    refine J_iret rfl (D_X12_two_0.at 13 rfl) (fun _ => ?_)
    refine J_iastH 59 rfl ar_104 (Ar.lt ar_104) ⟨by decide, by decide⟩ trivial (D_X12_on_0.at 40 rfl) (fun h6 e7 => ?_)
    replace T := T h6 e7
    refine J_iconst 60 rfl (D_X12_on_0.at 41 rfl) ?_
    refine J_istore (lv' := [(4, vI 0), (3, vI (2 + ((1 + (2 * (h4 93 5))) * (h4 68 36)))), (2, vI (1 + (2 * (h4 93 5)))), (1, vI (h 68 1)), (0, vR 68)]) 62 rfl 4 (by decide) rfl (D_X12_on_0.at 42 rfl) ?_
    exact J_sub (lv' := [(0, vR 68), (2, vI (1 + (2 * (h4 93 5)))), (3, vI (2 + ((1 + (2 * (h4 93 5))) * (h4 68 36)))), (4, vI 0)]) [4, 2, 1, 0] rfl T
  replace T := T.2 c10
  refine J_aload_n 19 rfl 0 1 rfl ⟨by decide, by decide⟩ (D_X12_on_0.at 10 rfl) ?_
  refine J_getF (ov := 70) (dd := 1002) 22 rfl fl_12_17 rfl (by decide) rfl ob_68 (Ob.lt ob_68) (D_X12_on_0.at 11 rfl) ?_
  refine J_iconst 23 rfl (D_X12_on_0.at 12 rfl) ?_
  refine J_dup2 24 rfl rfl rfl (D_X12_on_0.at 13 rfl) ?_
  refine J_iald 25 rfl ar_70 (Ar.lt ar_70) ⟨by decide, by decide⟩ (D_X12_on_0.at 14 rfl) ?_
  refine J_iconst 26 rfl (D_X12_on_0.at 15 rfl) ?_
  refine J_iadd 27 rfl (D_X12_on_0.at 16 rfl) ?_
  refine J_iastH 28 rfl ar_70 (Ar.lt ar_70) ⟨by decide, by decide⟩ trivial (D_X12_on_0.at 17 rfl) (fun h8 e9 => ?_)
  replace T := T h8 e9
  refine J_iconst 29 rfl (D_X12_on_0.at 18 rfl) ?_
  exact J_zret rfl (Or.inl rfl) (D_X12_on_0.at 19 rfl) T
theorem l_X12_on_62 {w : Wd} {v2 v3 v4 : Int} {h : Hp} {K : Int → Hp → Prop} (T : (inR v4) ∧ ((inR (h 68 36)) ∧ (((v4 ≥ (h 68 36)) → (L_X12_on_149 w v3 0 h K)) ∧ (¬ (v4 ≥ (h 68 36)) → ((0 ≤ (2 + (v2 * v4)) ∧ (2 + (v2 * v4)) < 1600) ∧ ((0 ≤ (1 + v4) ∧ (1 + v4) < 109) ∧ (∀ h15 : Hp, h15 = hu h 104 (1 + v4) (h 69 (2 + (v2 * v4))) → L_X12_on_94 w v2 v3 v4 0 h15 K))))))) : L_X12_on_62 w v2 v3 v4 h K := by
  unfold L_X12_on_62
  refine J_iload 64 rfl 4 3 rfl (D_X12_on_0.at 43 rfl) ?_
  refine J_aload_n 65 rfl 0 0 rfl ⟨by decide, by decide⟩ (D_X12_on_0.at 44 rfl) ?_
  refine J_getI (z := (h 68 36)) 68 rfl fl_12_356 rfl ob_68 (Ob.lt ob_68) (D_X12_on_0.at 45 rfl) rfl ?_
  obtain ⟨s11, T⟩ := T
  obtain ⟨s12, T⟩ := T
  refine J_icmp_ge 71 rfl 146 s11 s12 (D_X12_on_0.at 46 rfl) (by decide) (fun c17 => ?_) (fun c17 => ?_)
  · replace T := T.1 c17
    refine J_iconst 147 rfl (D_X12_on_1.at 44 rfl) ?_
    refine J_istore (lv' := [(4, vI 0), (0, vR 68), (2, vI v2), (3, vI v3)]) 149 rfl 4 (by decide) rfl (D_X12_on_1.at 45 rfl) ?_
    exact J_sub (lv' := [(0, vR 68), (3, vI v3), (4, vI 0)]) [1, 3, 0] rfl T
  replace T := T.2 c17
  refine J_aload_n 72 rfl 0 0 rfl ⟨by decide, by decide⟩ (D_X12_on_0.at 47 rfl) ?_
  refine J_getF (ov := 104) (dd := 1036) 75 rfl fl_12_121 rfl (by decide) rfl ob_68 (Ob.lt ob_68) (D_X12_on_1.at 0 rfl) ?_
  refine J_iconst 76 rfl (D_X12_on_1.at 1 rfl) ?_
  refine J_iload 78 rfl 4 3 rfl (D_X12_on_1.at 2 rfl) ?_
  refine J_iadd 79 rfl (D_X12_on_1.at 3 rfl) ?_
  refine J_aload_n 80 rfl 0 0 rfl ⟨by decide, by decide⟩ (D_X12_on_1.at 4 rfl) ?_
  refine J_getF (ov := 69) (dd := 1001) 83 rfl fl_12_7 rfl (by decide) rfl ob_68 (Ob.lt ob_68) (D_X12_on_1.at 5 rfl) ?_
  refine J_iconst 84 rfl (D_X12_on_1.at 6 rfl) ?_
  refine J_iload_n 85 rfl 2 1 rfl (D_X12_on_1.at 7 rfl) ?_
  refine J_iload 87 rfl 4 3 rfl (D_X12_on_1.at 8 rfl) ?_
  refine J_imul 88 rfl (D_X12_on_1.at 9 rfl) ?_
  refine J_iadd 89 rfl (D_X12_on_1.at 10 rfl) ?_
  obtain ⟨s13, T⟩ := T
  refine J_iald 90 rfl ar_69 (Ar.lt ar_69) s13 (D_X12_on_1.at 11 rfl) ?_
  obtain ⟨s14, T⟩ := T
  refine J_iastH 91 rfl ar_104 (Ar.lt ar_104) s14 trivial (D_X12_on_1.at 12 rfl) (fun h15 e16 => ?_)
  replace T := T h15 e16
  refine J_iconst 92 rfl (D_X12_on_1.at 13 rfl) ?_
  refine J_istore (lv' := [(5, vI 0), (0, vR 68), (2, vI v2), (3, vI v3), (4, vI v4)]) 94 rfl 5 (by decide) rfl (D_X12_on_1.at 14 rfl) ?_
  exact J_sub (lv' := [(0, vR 68), (2, vI v2), (3, vI v3), (4, vI v4), (5, vI 0)]) [1, 2, 3, 4, 0] rfl T
theorem l_X12_on_94 {w : Wd} {v2 v3 v4 v5 : Int} {h : Hp} {K : Int → Hp → Prop} (T : (inR v5) ∧ ((inR (h 93 5)) ∧ (((v5 ≥ (h 93 5)) → (L_X12_on_62 w v2 v3 (v4 + 1) h K)) ∧ (¬ (v5 ≥ (h 93 5)) → ((0 ≤ ((3 + (v2 * v4)) + (2 * v5)) ∧ ((3 + (v2 * v4)) + (2 * v5)) < 1600) ∧ ((0 ≤ (((3 + (v2 * v4)) + (2 * v5)) + 1) ∧ (((3 + (v2 * v4)) + (2 * v5)) + 1) < 1600) ∧ ((0 ≤ ((29 + (10 * v4)) + v5) ∧ ((29 + (10 * v4)) + v5) < 109) ∧ (∀ h23 : Hp, h23 = hu h 104 ((29 + (10 * v4)) + v5) ((256 * (h 69 ((3 + (v2 * v4)) + (2 * v5)))) + (h 69 (((3 + (v2 * v4)) + (2 * v5)) + 1))) → L_X12_on_94 w v2 v3 v4 (v5 + 1) h23 K)))))))) : L_X12_on_94 w v2 v3 v4 v5 h K := by
  unfold L_X12_on_94
  refine J_iload 96 rfl 5 4 rfl (D_X12_on_1.at 15 rfl) ?_
  refine J_aload_n 97 rfl 0 0 rfl ⟨by decide, by decide⟩ (D_X12_on_1.at 16 rfl) ?_
  refine J_callV (d' := 1) (K1 := fun z h0 => rok (some .int) z → JG w true m_X12_on 3 NT NT 100 [(0, vR 68), (2, vI v2), (3, vI v3), (4, vI v4), (5, vI v5)] [vI z, vI v5] h0 _) (sr := fun z => [vI z, vI v5]) (as := []) (st := [vI v5]) (o := 68) 100 rfl ok_X12_bankMany im_X12_bankMany se_X12_bankMany ml_12_419 isC_12 ob_68 (Ob.lt ob_68) rfl (by decide) ⟨Nat.le_refl _, Nat.le_refl _⟩ (Nat.le_of_ble_eq_true rfl) (D_X12_on_1.at 17 rfl) (fun _ => rfl) (CGm_of2 (by decide) (by decide) trivial (Nat.le_of_ble_eq_true rfl) ?_) (fun _ _ kq hb => kq hb)
  refine J_aload_n 1 rfl 0 0 rfl ⟨by decide, by decide⟩ (D_X12_bankMany_0.at 0 rfl) ?_
  refine J_getF (ov := 93) (dd := 1025) 4 rfl fl_12_87 rfl (by decide) rfl ob_68 (Ob.lt ob_68) (D_X12_bankMany_0.at 1 rfl) ?_
  refine J_iconst 5 rfl (D_X12_bankMany_0.at 2 rfl) ?_
  refine J_iald 6 rfl ar_93 (Ar.lt ar_93) ⟨by decide, by decide⟩ (D_X12_bankMany_0.at 3 rfl) ?_
  refine J_iret rfl (D_X12_bankMany_0.at 4 rfl) (fun _ => ?_)
  obtain ⟨s18, T⟩ := T
  obtain ⟨s19, T⟩ := T
  refine J_icmp_ge 103 rfl 140 s18 s19 (D_X12_on_1.at 18 rfl) (by decide) (fun c25 => ?_) (fun c25 => ?_)
  · replace T := T.1 c25
    refine J_iinc (v := (v4 + 1)) (lv' := [(4, vI (v4 + 1)), (0, vR 68), (2, vI v2), (3, vI v3), (5, vI v5)]) 143 rfl 4 3 1 rfl rfl (by decide) rfl (D_X12_on_1.at 42 rfl) ?_
    refine J_goto 62 (D_X12_on_1.at 43 rfl) (by decide) ?_
    exact J_sub (lv' := [(0, vR 68), (2, vI v2), (3, vI v3), (4, vI (v4 + 1))]) [1, 2, 3, 0] rfl T
  replace T := T.2 c25
  refine J_aload_n 104 rfl 0 0 rfl ⟨by decide, by decide⟩ (D_X12_on_1.at 19 rfl) ?_
  refine J_getF (ov := 104) (dd := 1036) 107 rfl fl_12_121 rfl (by decide) rfl ob_68 (Ob.lt ob_68) (D_X12_on_1.at 20 rfl) ?_
  refine J_bipush 109 rfl ⟨by decide, by decide⟩ (D_X12_on_1.at 21 rfl) ?_
  refine J_bipush 111 rfl ⟨by decide, by decide⟩ (D_X12_on_1.at 22 rfl) ?_
  refine J_iload 113 rfl 4 3 rfl (D_X12_on_1.at 23 rfl) ?_
  refine J_imul 114 rfl (D_X12_on_1.at 24 rfl) ?_
  refine J_iadd 115 rfl (D_X12_on_1.at 25 rfl) ?_
  refine J_iload 117 rfl 5 4 rfl (D_X12_on_1.at 26 rfl) ?_
  refine J_iadd 118 rfl (D_X12_on_1.at 27 rfl) ?_
  refine J_aload_n 119 rfl 0 0 rfl ⟨by decide, by decide⟩ (D_X12_on_1.at 28 rfl) ?_
  refine J_iconst 120 rfl (D_X12_on_1.at 29 rfl) ?_
  refine J_iload_n 121 rfl 2 1 rfl (D_X12_on_1.at 30 rfl) ?_
  refine J_iload 123 rfl 4 3 rfl (D_X12_on_1.at 31 rfl) ?_
  refine J_imul 124 rfl (D_X12_on_1.at 32 rfl) ?_
  refine J_iadd 125 rfl (D_X12_on_1.at 33 rfl) ?_
  refine J_iconst 126 rfl (D_X12_on_1.at 34 rfl) ?_
  refine J_iload 128 rfl 5 4 rfl (D_X12_on_1.at 35 rfl) ?_
  refine J_imul 129 rfl (D_X12_on_1.at 36 rfl) ?_
  refine J_iadd 130 rfl (D_X12_on_1.at 37 rfl) ?_
  refine J_callV (d' := 1) (K1 := fun z h0 => rok (some .int) z → JG w true m_X12_on 3 NT NT 133 [(0, vR 68), (2, vI v2), (3, vI v3), (4, vI v4), (5, vI v5)] [vI z, vI ((29 + (10 * v4)) + v5), vR 104] h0 _) (sr := fun z => [vI z, vI ((29 + (10 * v4)) + v5), vR 104]) (as := [vI ((3 + (v2 * v4)) + (2 * v5))]) (st := [vI ((29 + (10 * v4)) + v5), vR 104]) (o := 68) 133 rfl ok_X12_two im_X12_two se_X12_two ml_12_700 isC_12 ob_68 (Ob.lt ob_68) rfl (by decide) ⟨Nat.le_refl _, Nat.le_refl _⟩ (Nat.le_of_ble_eq_true rfl) (D_X12_on_1.at 38 rfl) (fun _ => rfl) (CGm_of2 (by decide) (by decide) trivial (Nat.le_of_ble_eq_true rfl) ?_) (fun _ _ kq hb => kq hb)
  refine J_sipush 3 rfl ⟨by decide, by decide⟩ (D_X12_two_0.at 0 rfl) ?_
  refine J_aload_n 4 rfl 0 0 rfl ⟨by decide, by decide⟩ (D_X12_two_0.at 1 rfl) ?_
  refine J_getF (ov := 69) (dd := 1001) 7 rfl fl_12_7 rfl (by decide) rfl ob_68 (Ob.lt ob_68) (D_X12_two_0.at 2 rfl) ?_
  refine J_iload_n 8 rfl 1 1 rfl (D_X12_two_0.at 3 rfl) ?_
  obtain ⟨s20, T⟩ := T
  refine J_iald 9 rfl ar_69 (Ar.lt ar_69) s20 (D_X12_two_0.at 4 rfl) ?_
  refine J_imul 10 rfl (D_X12_two_0.at 5 rfl) ?_
  refine J_aload_n 11 rfl 0 0 rfl ⟨by decide, by decide⟩ (D_X12_two_0.at 6 rfl) ?_
  refine J_getF (ov := 69) (dd := 1001) 14 rfl fl_12_7 rfl (by decide) rfl ob_68 (Ob.lt ob_68) (D_X12_two_0.at 7 rfl) ?_
  refine J_iload_n 15 rfl 1 1 rfl (D_X12_two_0.at 8 rfl) ?_
  refine J_iconst 16 rfl (D_X12_two_0.at 9 rfl) ?_
  refine J_iadd 17 rfl (D_X12_two_0.at 10 rfl) ?_
  obtain ⟨s21, T⟩ := T
  refine J_iald 18 rfl ar_69 (Ar.lt ar_69) s21 (D_X12_two_0.at 11 rfl) ?_
  refine J_iadd 19 rfl (D_X12_two_0.at 12 rfl) ?_
  refine J_iret rfl (D_X12_two_0.at 13 rfl) (fun _ => ?_)
  obtain ⟨s22, T⟩ := T
  refine J_iastH 134 rfl ar_104 (Ar.lt ar_104) s22 trivial (D_X12_on_1.at 39 rfl) (fun h23 e24 => ?_)
  replace T := T h23 e24
  refine J_iinc (v := (v5 + 1)) (lv' := [(5, vI (v5 + 1)), (0, vR 68), (2, vI v2), (3, vI v3), (4, vI v4)]) 137 rfl 5 4 1 rfl rfl (by decide) rfl (D_X12_on_1.at 40 rfl) ?_
  refine J_goto 94 (D_X12_on_1.at 41 rfl) (by decide) ?_
  exact J_sub (lv' := [(0, vR 68), (2, vI v2), (3, vI v3), (4, vI v4), (5, vI (v5 + 1))]) [1, 2, 3, 4, 0] rfl T
theorem l_X12_on_149 {w : Wd} {v3 v4 : Int} {h : Hp} {K : Int → Hp → Prop} (T : (inR v4) ∧ ((inR (h 93 5)) ∧ (((v4 ≥ (h 93 5)) → (∀ h28 : Hp, h28 = hu h 68 61 0 → K 1 h28)) ∧ (¬ (v4 ≥ (h 93 5)) → ((0 ≤ (v3 + (3 * v4)) ∧ (v3 + (3 * v4)) < 1600) ∧ ((0 ≤ (9 + v4) ∧ (9 + v4) < 109) ∧ (∀ h32 : Hp, h32 = hu h 104 (9 + v4) (h 69 (v3 + (3 * v4))) → (0 ≤ ((v3 + (3 * v4)) + 1) ∧ ((v3 + (3 * v4)) + 1) < 1600) ∧ ((0 ≤ (((v3 + (3 * v4)) + 1) + 1) ∧ (((v3 + (3 * v4)) + 1) + 1) < 1600) ∧ ((0 ≤ (19 + v4) ∧ (19 + v4) < 109) ∧ (∀ h37 : Hp, h37 = hu h32 104 (19 + v4) ((256 * (h32 69 ((v3 + (3 * v4)) + 1))) + (h32 69 (((v3 + (3 * v4)) + 1) + 1))) → L_X12_on_149 w v3 (v4 + 1) h37 K)))))))))) : L_X12_on_149 w v3 v4 h K := by
  unfold L_X12_on_149
  refine J_iload 151 rfl 4 2 rfl (D_X12_on_1.at 46 rfl) ?_
  refine J_aload_n 152 rfl 0 0 rfl ⟨by decide, by decide⟩ (D_X12_on_1.at 47 rfl) ?_
  refine J_callV (d' := 1) (K1 := fun z h0 => rok (some .int) z → JG w true m_X12_on 3 NT NT 155 [(0, vR 68), (3, vI v3), (4, vI v4)] [vI z, vI v4] h0 _) (sr := fun z => [vI z, vI v4]) (as := []) (st := [vI v4]) (o := 68) 155 rfl ok_X12_bankMany im_X12_bankMany se_X12_bankMany ml_12_419 isC_12 ob_68 (Ob.lt ob_68) rfl (by decide) ⟨Nat.le_refl _, Nat.le_refl _⟩ (Nat.le_of_ble_eq_true rfl) (D_X12_on_2.at 0 rfl) (fun _ => rfl) (CGm_of2 (by decide) (by decide) trivial (Nat.le_of_ble_eq_true rfl) ?_) (fun _ _ kq hb => kq hb)
  refine J_aload_n 1 rfl 0 0 rfl ⟨by decide, by decide⟩ (D_X12_bankMany_0.at 0 rfl) ?_
  refine J_getF (ov := 93) (dd := 1025) 4 rfl fl_12_87 rfl (by decide) rfl ob_68 (Ob.lt ob_68) (D_X12_bankMany_0.at 1 rfl) ?_
  refine J_iconst 5 rfl (D_X12_bankMany_0.at 2 rfl) ?_
  refine J_iald 6 rfl ar_93 (Ar.lt ar_93) ⟨by decide, by decide⟩ (D_X12_bankMany_0.at 3 rfl) ?_
  refine J_iret rfl (D_X12_bankMany_0.at 4 rfl) (fun _ => ?_)
  obtain ⟨s26, T⟩ := T
  obtain ⟨s27, T⟩ := T
  refine J_icmp_ge 158 rfl 207 s26 s27 (D_X12_on_2.at 1 rfl) (by decide) (fun c39 => ?_) (fun c39 => ?_)
  · replace T := T.1 c39
    refine J_aload_n 208 rfl 0 0 rfl ⟨by decide, by decide⟩ (D_X12_on_2.at 33 rfl) ?_
    refine J_iconst 209 rfl (D_X12_on_2.at 34 rfl) ?_
    refine J_putI 212 rfl fl_12_359 rfl rfl ob_68 (Ob.lt ob_68) (D_X12_on_2.at 35 rfl) (fun h28 e29 => ?_)
    replace T := T h28 e29
    refine J_iconst 213 rfl (D_X12_on_2.at 36 rfl) ?_
    exact J_zret rfl (Or.inr rfl) (D_X12_on_2.at 37 rfl) T
  replace T := T.2 c39
  refine J_aload_n 159 rfl 0 0 rfl ⟨by decide, by decide⟩ (D_X12_on_2.at 2 rfl) ?_
  refine J_getF (ov := 104) (dd := 1036) 162 rfl fl_12_121 rfl (by decide) rfl ob_68 (Ob.lt ob_68) (D_X12_on_2.at 3 rfl) ?_
  refine J_bipush 164 rfl ⟨by decide, by decide⟩ (D_X12_on_2.at 4 rfl) ?_
  refine J_iload 166 rfl 4 2 rfl (D_X12_on_2.at 5 rfl) ?_
  refine J_iadd 167 rfl (D_X12_on_2.at 6 rfl) ?_
  refine J_aload_n 168 rfl 0 0 rfl ⟨by decide, by decide⟩ (D_X12_on_2.at 7 rfl) ?_
  refine J_getF (ov := 69) (dd := 1001) 171 rfl fl_12_7 rfl (by decide) rfl ob_68 (Ob.lt ob_68) (D_X12_on_2.at 8 rfl) ?_
  refine J_iload_n 172 rfl 3 1 rfl (D_X12_on_2.at 9 rfl) ?_
  refine J_iconst 173 rfl (D_X12_on_2.at 10 rfl) ?_
  refine J_iload 175 rfl 4 2 rfl (D_X12_on_2.at 11 rfl) ?_
  refine J_imul 176 rfl (D_X12_on_2.at 12 rfl) ?_
  refine J_iadd 177 rfl (D_X12_on_2.at 13 rfl) ?_
  obtain ⟨s30, T⟩ := T
  refine J_iald 178 rfl ar_69 (Ar.lt ar_69) s30 (D_X12_on_2.at 14 rfl) ?_
  obtain ⟨s31, T⟩ := T
  refine J_iastH 179 rfl ar_104 (Ar.lt ar_104) s31 trivial (D_X12_on_2.at 15 rfl) (fun h32 e33 => ?_)
  replace T := T h32 e33
  refine J_aload_n 180 rfl 0 0 rfl ⟨by decide, by decide⟩ (D_X12_on_2.at 16 rfl) ?_
  refine J_getF (ov := 104) (dd := 1036) 183 rfl fl_12_121 rfl (by decide) rfl ob_68 (Ob.lt ob_68) (D_X12_on_2.at 17 rfl) ?_
  refine J_bipush 185 rfl ⟨by decide, by decide⟩ (D_X12_on_2.at 18 rfl) ?_
  refine J_iload 187 rfl 4 2 rfl (D_X12_on_2.at 19 rfl) ?_
  refine J_iadd 188 rfl (D_X12_on_2.at 20 rfl) ?_
  refine J_aload_n 189 rfl 0 0 rfl ⟨by decide, by decide⟩ (D_X12_on_2.at 21 rfl) ?_
  refine J_iload_n 190 rfl 3 1 rfl (D_X12_on_2.at 22 rfl) ?_
  refine J_iconst 191 rfl (D_X12_on_2.at 23 rfl) ?_
  refine J_iload 193 rfl 4 2 rfl (D_X12_on_2.at 24 rfl) ?_
  refine J_imul 194 rfl (D_X12_on_2.at 25 rfl) ?_
  refine J_iadd 195 rfl (D_X12_on_2.at 26 rfl) ?_
  refine J_iconst 196 rfl (D_X12_on_2.at 27 rfl) ?_
  refine J_iadd 197 rfl (D_X12_on_2.at 28 rfl) ?_
  refine J_callV (d' := 1) (K1 := fun z h0 => rok (some .int) z → JG w true m_X12_on 3 NT NT 200 [(0, vR 68), (3, vI v3), (4, vI v4)] [vI z, vI (19 + v4), vR 104] h0 _) (sr := fun z => [vI z, vI (19 + v4), vR 104]) (as := [vI ((v3 + (3 * v4)) + 1)]) (st := [vI (19 + v4), vR 104]) (o := 68) 200 rfl ok_X12_two im_X12_two se_X12_two ml_12_700 isC_12 ob_68 (Ob.lt ob_68) rfl (by decide) ⟨Nat.le_refl _, Nat.le_refl _⟩ (Nat.le_of_ble_eq_true rfl) (D_X12_on_2.at 29 rfl) (fun _ => rfl) (CGm_of2 (by decide) (by decide) trivial (Nat.le_of_ble_eq_true rfl) ?_) (fun _ _ kq hb => kq hb)
  refine J_sipush 3 rfl ⟨by decide, by decide⟩ (D_X12_two_0.at 0 rfl) ?_
  refine J_aload_n 4 rfl 0 0 rfl ⟨by decide, by decide⟩ (D_X12_two_0.at 1 rfl) ?_
  refine J_getF (ov := 69) (dd := 1001) 7 rfl fl_12_7 rfl (by decide) rfl ob_68 (Ob.lt ob_68) (D_X12_two_0.at 2 rfl) ?_
  refine J_iload_n 8 rfl 1 1 rfl (D_X12_two_0.at 3 rfl) ?_
  obtain ⟨s34, T⟩ := T
  refine J_iald 9 rfl ar_69 (Ar.lt ar_69) s34 (D_X12_two_0.at 4 rfl) ?_
  refine J_imul 10 rfl (D_X12_two_0.at 5 rfl) ?_
  refine J_aload_n 11 rfl 0 0 rfl ⟨by decide, by decide⟩ (D_X12_two_0.at 6 rfl) ?_
  refine J_getF (ov := 69) (dd := 1001) 14 rfl fl_12_7 rfl (by decide) rfl ob_68 (Ob.lt ob_68) (D_X12_two_0.at 7 rfl) ?_
  refine J_iload_n 15 rfl 1 1 rfl (D_X12_two_0.at 8 rfl) ?_
  refine J_iconst 16 rfl (D_X12_two_0.at 9 rfl) ?_
  refine J_iadd 17 rfl (D_X12_two_0.at 10 rfl) ?_
  obtain ⟨s35, T⟩ := T
  refine J_iald 18 rfl ar_69 (Ar.lt ar_69) s35 (D_X12_two_0.at 11 rfl) ?_
  refine J_iadd 19 rfl (D_X12_two_0.at 12 rfl) ?_
  refine J_iret rfl (D_X12_two_0.at 13 rfl) (fun _ => ?_)
  obtain ⟨s36, T⟩ := T
  refine J_iastH 201 rfl ar_104 (Ar.lt ar_104) s36 trivial (D_X12_on_2.at 30 rfl) (fun h37 e38 => ?_)
  replace T := T h37 e38
  refine J_iinc (v := (v4 + 1)) (lv' := [(4, vI (v4 + 1)), (0, vR 68), (3, vI v3)]) 204 rfl 4 2 1 rfl rfl (by decide) rfl (D_X12_on_2.at 31 rfl) ?_
  refine J_goto 149 (D_X12_on_2.at 32 rfl) (by decide) ?_
  exact J_sub (lv' := [(0, vR 68), (3, vI v3), (4, vI (v4 + 1))]) [1, 2, 0] rfl T
theorem c_X12_asks {w : Wd} {a1 : Int} {na1 : Nat} (ha1 : Ar 3 na1 a1) {h : Hp} {K : Int → Hp → Prop} (T : (inR (h 68 5)) ∧ ((((h 68 5) ≠ 0) → (K 0 h)) ∧ (¬ ((h 68 5) ≠ 0) → (C_X12_takes w a1 h (fun r2 h3 => (r2 = 0 ∨ r2 = 1) → ((r2 ≠ 0) → (K 0 h3)) ∧ (¬ (r2 ≠ 0) → (C_X12_fail w 1 (h3 68 2) h3 (fun _ h6 => K 0 h6)))))))) : C_X12_asks w a1 h K := by
  refine CGm_of2 (by decide) (by decide) trivial (Nat.le_of_ble_eq_true rfl) ?_
  refine J_aload_n 1 rfl 0 0 rfl ⟨by decide, by decide⟩ (D_X12_asks_0.at 0 rfl) ?_
  refine J_getI (z := (h 68 5)) 4 rfl fl_12_227 rfl ob_68 (Ob.lt ob_68) (D_X12_asks_0.at 1 rfl) rfl ?_
  obtain ⟨s1, T⟩ := T
  refine J_if_ne 7 rfl 24 s1 (D_X12_asks_0.at 2 rfl) (by decide) (fun c9 => ?_) (fun c9 => ?_)
  · replace T := T.1 c9
    exact J_vret rfl (D_X12_asks_0.at 12 rfl) T
  replace T := T.2 c9
  refine J_aload_n 8 rfl 0 0 rfl ⟨by decide, by decide⟩ (D_X12_asks_0.at 3 rfl) ?_
  refine J_aload_n 9 rfl 1 1 rfl (Ar.rng ha1) (D_X12_asks_0.at 4 rfl) ?_
  refine J_callV (d' := 3) (sr := fun z => [vI z]) (as := [vR a1]) (st := []) (o := 68) 12 rfl ok_X12_takes im_X12_takes se_X12_takes ml_12_254 isC_12 ob_68 (Ob.lt ob_68) rfl (by decide) ⟨Nat.le_refl _, Nat.le_refl _⟩ (Nat.le_of_ble_eq_true rfl) (D_X12_asks_0.at 5 rfl) (fun _ => rfl) T (fun r2 h3 T b4 => ?_)
  replace T := T b4
  refine J_if_ne 15 rfl 24 (inR_b b4) (D_X12_asks_0.at 6 rfl) (by decide) (fun c8 => ?_) (fun c8 => ?_)
  · replace T := T.1 c8
    exact J_vret rfl (D_X12_asks_0.at 12 rfl) T
  replace T := T.2 c8
  refine J_aload_n 16 rfl 0 0 rfl ⟨by decide, by decide⟩ (D_X12_asks_0.at 7 rfl) ?_
  refine J_iconst 17 rfl (D_X12_asks_0.at 8 rfl) ?_
  refine J_aload_n 18 rfl 0 0 rfl ⟨by decide, by decide⟩ (D_X12_asks_0.at 9 rfl) ?_
  refine J_getI (z := (h3 68 2)) 21 rfl fl_12_233 rfl ob_68 (Ob.lt ob_68) (D_X12_asks_0.at 10 rfl) rfl ?_
  refine J_callV (d' := 1) (sr := fun z => []) (as := [vI 1, vI (h3 68 2)]) (st := []) (o := 68) 24 rfl ok_X12_fail im_X12_fail se_X12_fail ml_12_257 isC_12 ob_68 (Ob.lt ob_68) rfl (by decide) ⟨Nat.le_refl _, Nat.le_refl _⟩ (Nat.le_of_ble_eq_true rfl) (D_X12_asks_0.at 11 rfl) (fun _ => rfl) T (fun r5 h6 T b7 => ?_)
  exact J_vret rfl (D_X12_asks_0.at 12 rfl) T
theorem c_X12_name {w : Wd} {h : Hp} {K : Int → Hp → Prop} (T : (inR (h 68 5)) ∧ ((((h 68 5) = 0) → (C_X12_look w h (fun r2 h3 => (inR r2) ∧ (((r2 < 97) → (C_X12_fail w 1 (h3 68 2) h3 (fun _ h7 => K 0 h7))) ∧ (¬ (r2 < 97) → ((inR r2) ∧ (((r2 > 122) → (C_X12_fail w 1 (h3 68 2) h3 (fun _ h11 => K 0 h11))) ∧ (¬ (r2 > 122) → ((inR (h3 68 2)) ∧ ((inR (h3 68 4)) ∧ ((((h3 68 2) = (h3 68 4)) → (C_X12_fail w 1 (h3 68 2) h3 (fun _ h16 => K 0 h16))) ∧ (¬ ((h3 68 2) = (h3 68 4)) → (C_X12_isOwnHere w h3 (fun r18 h19 => (r18 = 0 ∨ r18 = 1) → ((r18 = 0) → (∀ h21 : Hp, h21 = hu h19 68 32 (h19 68 2) → L_X12_name_58 w 0 h21 K)) ∧ (¬ (r18 = 0) → (C_X12_fail w 1 (h19 68 2) h19 (fun _ h24 => K 0 h24))))))))))))))))) ∧ (¬ ((h 68 5) = 0) → (K 0 h)))) : C_X12_name w h K := by
  refine CGm_of2 (by decide) (by decide) trivial (Nat.le_of_ble_eq_true rfl) ?_
  refine J_aload_n 1 rfl 0 0 rfl ⟨by decide, by decide⟩ (D_X12_name_0.at 0 rfl) ?_
  refine J_getI (z := (h 68 5)) 4 rfl fl_12_227 rfl ob_68 (Ob.lt ob_68) (D_X12_name_0.at 1 rfl) rfl ?_
  obtain ⟨s1, T⟩ := T
  refine J_if_eq 7 rfl 9 s1 (D_X12_name_0.at 2 rfl) (by decide) (fun c30 => ?_) (fun c30 => ?_)
  · replace T := T.1 c30
    refine J_aload_n 10 rfl 0 0 rfl ⟨by decide, by decide⟩ (D_X12_name_0.at 5 rfl) ?_
    refine J_callV (d' := 1) (sr := fun z => [vI z]) (as := []) (st := []) (o := 68) 13 rfl ok_X12_look im_X12_look se_X12_look ml_12_239 isC_12 ob_68 (Ob.lt ob_68) rfl (by decide) ⟨Nat.le_refl _, Nat.le_refl _⟩ (Nat.le_of_ble_eq_true rfl) (D_X12_name_0.at 6 rfl) (fun _ => rfl) T (fun r2 h3 T b4 => ?_)
    refine J_callS (d' := 1) (K1 := fun z h0 => rok (some .boolean) z → JG w true m_X12_name 4 NT NT 16 [(0, vR 68)] [vI z] h0 _) (sr := fun z => [vI z]) (as := [vI r2]) (st := []) 16 rfl ok_X12_isLetter sm_X12_isLetter ml_12_243 rfl (by decide) ⟨Nat.le_refl _, Nat.le_refl _⟩ (Nat.le_of_ble_eq_true rfl) (D_X12_name_0.at 7 rfl) (fun _ => rfl) (CGm_of2 (by decide) (by decide) trivial (Nat.le_of_ble_eq_true rfl) ?_) (fun _ _ kq hb => kq hb)
    refine J_iload_n 1 rfl 0 0 rfl (D_X12_isLetter_0.at 0 rfl) ?_
    refine J_bipush 3 rfl ⟨by decide, by decide⟩ (D_X12_isLetter_0.at 1 rfl) ?_
    obtain ⟨s5, T⟩ := T
    refine J_icmp_lt 6 rfl 16 s5 ⟨by decide, by decide⟩ (D_X12_isLetter_0.at 2 rfl) (by decide) (fun c29 => ?_) (fun c29 => ?_)
    · replace T := T.1 c29
      refine J_iconst 17 rfl (D_X12_isLetter_0.at 8 rfl) ?_
      refine J_zret rfl (Or.inl rfl) (D_X12_isLetter_0.at 9 rfl) (fun _ => ?_)
      refine J_if_eq 19 rfl 37 ⟨by decide, by decide⟩ (D_X12_name_0.at 8 rfl) (by decide) (fun _ => ?_) (fun c => absurd (by decide) c)
      refine J_aload_n 38 rfl 0 0 rfl ⟨by decide, by decide⟩ (D_X12_name_0.at 17 rfl) ?_
      refine J_iconst 39 rfl (D_X12_name_0.at 18 rfl) ?_
      refine J_aload_n 40 rfl 0 0 rfl ⟨by decide, by decide⟩ (D_X12_name_0.at 19 rfl) ?_
      refine J_getI (z := (h3 68 2)) 43 rfl fl_12_233 rfl ob_68 (Ob.lt ob_68) (D_X12_name_0.at 20 rfl) rfl ?_
      refine J_callV (d' := 1) (sr := fun z => []) (as := [vI 1, vI (h3 68 2)]) (st := []) (o := 68) 46 rfl ok_X12_fail im_X12_fail se_X12_fail ml_12_257 isC_12 ob_68 (Ob.lt ob_68) rfl (by decide) ⟨Nat.le_refl _, Nat.le_refl _⟩ (Nat.le_of_ble_eq_true rfl) (D_X12_name_0.at 21 rfl) (fun _ => rfl) T (fun r6 h7 T b8 => ?_)
      refine J_lconst (z := 0) 47 rfl rfl (D_X12_name_0.at 22 rfl) ?_
      exact J_lret rfl (D_X12_name_0.at 23 rfl) T
    replace T := T.2 c29
    refine J_iload_n 7 rfl 0 0 rfl (D_X12_isLetter_0.at 3 rfl) ?_
    refine J_bipush 9 rfl ⟨by decide, by decide⟩ (D_X12_isLetter_0.at 4 rfl) ?_
    obtain ⟨s9, T⟩ := T
    refine J_icmp_gt 12 rfl 16 s9 ⟨by decide, by decide⟩ (D_X12_isLetter_0.at 5 rfl) (by decide) (fun c28 => ?_) (fun c28 => ?_)
    · replace T := T.1 c28
      refine J_iconst 17 rfl (D_X12_isLetter_0.at 8 rfl) ?_
      refine J_zret rfl (Or.inl rfl) (D_X12_isLetter_0.at 9 rfl) (fun _ => ?_)
      refine J_if_eq 19 rfl 37 ⟨by decide, by decide⟩ (D_X12_name_0.at 8 rfl) (by decide) (fun _ => ?_) (fun c => absurd (by decide) c)
      refine J_aload_n 38 rfl 0 0 rfl ⟨by decide, by decide⟩ (D_X12_name_0.at 17 rfl) ?_
      refine J_iconst 39 rfl (D_X12_name_0.at 18 rfl) ?_
      refine J_aload_n 40 rfl 0 0 rfl ⟨by decide, by decide⟩ (D_X12_name_0.at 19 rfl) ?_
      refine J_getI (z := (h3 68 2)) 43 rfl fl_12_233 rfl ob_68 (Ob.lt ob_68) (D_X12_name_0.at 20 rfl) rfl ?_
      refine J_callV (d' := 1) (sr := fun z => []) (as := [vI 1, vI (h3 68 2)]) (st := []) (o := 68) 46 rfl ok_X12_fail im_X12_fail se_X12_fail ml_12_257 isC_12 ob_68 (Ob.lt ob_68) rfl (by decide) ⟨Nat.le_refl _, Nat.le_refl _⟩ (Nat.le_of_ble_eq_true rfl) (D_X12_name_0.at 21 rfl) (fun _ => rfl) T (fun r10 h11 T b12 => ?_)
      refine J_lconst (z := 0) 47 rfl rfl (D_X12_name_0.at 22 rfl) ?_
      exact J_lret rfl (D_X12_name_0.at 23 rfl) T
    replace T := T.2 c28
    refine J_iconst 13 rfl (D_X12_isLetter_0.at 6 rfl) ?_
    refine J_goto 17 (D_X12_isLetter_0.at 7 rfl) (by decide) ?_
    refine J_zret rfl (Or.inr rfl) (D_X12_isLetter_0.at 9 rfl) (fun _ => ?_)
    refine J_if_eq 19 rfl 37 ⟨by decide, by decide⟩ (D_X12_name_0.at 8 rfl) (by decide) (fun c => absurd c (by decide)) (fun _ => ?_)
    refine J_aload_n 20 rfl 0 0 rfl ⟨by decide, by decide⟩ (D_X12_name_0.at 9 rfl) ?_
    refine J_getI (z := (h3 68 2)) 23 rfl fl_12_233 rfl ob_68 (Ob.lt ob_68) (D_X12_name_0.at 10 rfl) rfl ?_
    refine J_aload_n 24 rfl 0 0 rfl ⟨by decide, by decide⟩ (D_X12_name_0.at 11 rfl) ?_
    refine J_getI (z := (h3 68 4)) 27 rfl fl_12_247 rfl ob_68 (Ob.lt ob_68) (D_X12_name_0.at 12 rfl) rfl ?_
    obtain ⟨s13, T⟩ := T
    obtain ⟨s14, T⟩ := T
    refine J_icmp_eq 30 rfl 37 s13 s14 (D_X12_name_0.at 13 rfl) (by decide) (fun c27 => ?_) (fun c27 => ?_)
    · replace T := T.1 c27
      refine J_aload_n 38 rfl 0 0 rfl ⟨by decide, by decide⟩ (D_X12_name_0.at 17 rfl) ?_
      refine J_iconst 39 rfl (D_X12_name_0.at 18 rfl) ?_
      refine J_aload_n 40 rfl 0 0 rfl ⟨by decide, by decide⟩ (D_X12_name_0.at 19 rfl) ?_
      refine J_getI (z := (h3 68 2)) 43 rfl fl_12_233 rfl ob_68 (Ob.lt ob_68) (D_X12_name_0.at 20 rfl) rfl ?_
      refine J_callV (d' := 1) (sr := fun z => []) (as := [vI 1, vI (h3 68 2)]) (st := []) (o := 68) 46 rfl ok_X12_fail im_X12_fail se_X12_fail ml_12_257 isC_12 ob_68 (Ob.lt ob_68) rfl (by decide) ⟨Nat.le_refl _, Nat.le_refl _⟩ (Nat.le_of_ble_eq_true rfl) (D_X12_name_0.at 21 rfl) (fun _ => rfl) T (fun r15 h16 T b17 => ?_)
      refine J_lconst (z := 0) 47 rfl rfl (D_X12_name_0.at 22 rfl) ?_
      exact J_lret rfl (D_X12_name_0.at 23 rfl) T
    replace T := T.2 c27
    refine J_aload_n 31 rfl 0 0 rfl ⟨by decide, by decide⟩ (D_X12_name_0.at 14 rfl) ?_
    refine J_callV (d' := 3) (sr := fun z => [vI z]) (as := []) (st := []) (o := 68) 34 rfl ok_X12_isOwnHere im_X12_isOwnHere se_X12_isOwnHere ml_12_271 isC_12 ob_68 (Ob.lt ob_68) rfl (by decide) ⟨Nat.le_refl _, Nat.le_refl _⟩ (Nat.le_of_ble_eq_true rfl) (D_X12_name_0.at 15 rfl) (fun _ => rfl) T (fun r18 h19 T b20 => ?_)
    replace T := T b20
    refine J_if_eq 37 rfl 48 (inR_b b20) (D_X12_name_0.at 16 rfl) (by decide) (fun c26 => ?_) (fun c26 => ?_)
    · replace T := T.1 c26
      refine J_aload_n 49 rfl 0 0 rfl ⟨by decide, by decide⟩ (D_X12_name_0.at 24 rfl) ?_
      refine J_aload_n 50 rfl 0 0 rfl ⟨by decide, by decide⟩ (D_X12_name_0.at 25 rfl) ?_
      refine J_getI (z := (h19 68 2)) 53 rfl fl_12_233 rfl ob_68 (Ob.lt ob_68) (D_X12_name_0.at 26 rfl) rfl ?_
      refine J_putI 56 rfl fl_12_275 rfl rfl ob_68 (Ob.lt ob_68) (D_X12_name_0.at 27 rfl) (fun h21 e22 => ?_)
      replace T := T h21 e22
      refine J_lconst (z := 0) 57 rfl rfl (D_X12_name_0.at 28 rfl) ?_
      refine J_lstore_n (lv' := [(1, vL 0), (0, vR 68)]) 58 rfl 1 (by decide) rfl (D_X12_name_0.at 29 rfl) ?_
      exact J_sub (lv' := [(0, vR 68), (1, vL 0)]) [1, 0] rfl T
    replace T := T.2 c26
    refine J_aload_n 38 rfl 0 0 rfl ⟨by decide, by decide⟩ (D_X12_name_0.at 17 rfl) ?_
    refine J_iconst 39 rfl (D_X12_name_0.at 18 rfl) ?_
    refine J_aload_n 40 rfl 0 0 rfl ⟨by decide, by decide⟩ (D_X12_name_0.at 19 rfl) ?_
    refine J_getI (z := (h19 68 2)) 43 rfl fl_12_233 rfl ob_68 (Ob.lt ob_68) (D_X12_name_0.at 20 rfl) rfl ?_
    refine J_callV (d' := 1) (sr := fun z => []) (as := [vI 1, vI (h19 68 2)]) (st := []) (o := 68) 46 rfl ok_X12_fail im_X12_fail se_X12_fail ml_12_257 isC_12 ob_68 (Ob.lt ob_68) rfl (by decide) ⟨Nat.le_refl _, Nat.le_refl _⟩ (Nat.le_of_ble_eq_true rfl) (D_X12_name_0.at 21 rfl) (fun _ => rfl) T (fun r23 h24 T b25 => ?_)
    refine J_lconst (z := 0) 47 rfl rfl (D_X12_name_0.at 22 rfl) ?_
    exact J_lret rfl (D_X12_name_0.at 23 rfl) T
  replace T := T.2 c30
  refine J_lconst (z := 0) 8 rfl rfl (D_X12_name_0.at 3 rfl) ?_
  exact J_lret rfl (D_X12_name_0.at 4 rfl) T
theorem l_X12_name_58 {w : Wd} {v1 : Int} {h : Hp} {K : Int → Hp → Prop} (T : (inR (h 68 2)) ∧ ((inR (h 68 3)) ∧ ((((h 68 2) ≥ (h 68 3)) → (∀ h33 : Hp, h33 = hu h 68 4 (h 68 2) → K v1 h33)) ∧ (¬ ((h 68 2) ≥ (h 68 3)) → ((0 ≤ (h 68 2) ∧ (h 68 2) < 1600) ∧ ((inR (h 69 (h 68 2))) ∧ ((((h 69 (h 68 2)) < 97) → (∀ h37 : Hp, h37 = hu h 68 4 (h 68 2) → K v1 h37)) ∧ (¬ ((h 69 (h 68 2)) < 97) → ((inR (h 69 (h 68 2))) ∧ ((((h 69 (h 68 2)) > 122) → (∀ h40 : Hp, h40 = hu h 68 4 (h 68 2) → K v1 h40)) ∧ (¬ ((h 69 (h 68 2)) > 122) → ((inR ((h 68 2) - (h 68 32))) ∧ (((((h 68 2) - (h 68 32)) ≠ 6) → ((0 ≤ (h 68 2) ∧ (h 68 2) < 1600) ∧ ((inR (h 69 (h 68 2))) ∧ (∀ h45 : Hp, h45 = hu h 68 2 ((h 68 2) + 1) → L_X12_name_58 w ((((27 * v1) + (h 69 (h 68 2))) - 97) + 1) h45 K)))) ∧ (¬ (((h 68 2) - (h 68 32)) ≠ 6) → (C_X12_fail w 1 (h 68 2) h (fun _ h48 => K 0 h48)))))))))))))))) : L_X12_name_58 w v1 h K := by
  unfold L_X12_name_58
  refine J_aload_n 59 rfl 0 0 rfl ⟨by decide, by decide⟩ (D_X12_name_0.at 30 rfl) ?_
  refine J_getI (z := (h 68 2)) 62 rfl fl_12_233 rfl ob_68 (Ob.lt ob_68) (D_X12_name_0.at 31 rfl) rfl ?_
  refine J_aload_n 63 rfl 0 0 rfl ⟨by decide, by decide⟩ (D_X12_name_0.at 32 rfl) ?_
  refine J_getI (z := (h 68 3)) 66 rfl fl_12_236 rfl ob_68 (Ob.lt ob_68) (D_X12_name_0.at 33 rfl) rfl ?_
  obtain ⟨s31, T⟩ := T
  obtain ⟨s32, T⟩ := T
  refine J_icmp_ge 69 rfl 145 s31 s32 (D_X12_name_0.at 34 rfl) (by decide) (fun c53 => ?_) (fun c53 => ?_)
  · replace T := T.1 c53
    refine J_aload_n 146 rfl 0 0 rfl ⟨by decide, by decide⟩ (D_X12_name_1.at 30 rfl) ?_
    refine J_aload_n 147 rfl 0 0 rfl ⟨by decide, by decide⟩ (D_X12_name_1.at 31 rfl) ?_
    refine J_getI (z := (h 68 2)) 150 rfl fl_12_233 rfl ob_68 (Ob.lt ob_68) (D_X12_name_1.at 32 rfl) rfl ?_
    refine J_putI 153 rfl fl_12_247 rfl rfl ob_68 (Ob.lt ob_68) (D_X12_name_1.at 33 rfl) (fun h33 e34 => ?_)
    replace T := T h33 e34
    refine J_lload_n 154 rfl 1 1 rfl (D_X12_name_1.at 34 rfl) ?_
    exact J_lret rfl (D_X12_name_1.at 35 rfl) T
  replace T := T.2 c53
  refine J_aload_n 70 rfl 0 0 rfl ⟨by decide, by decide⟩ (D_X12_name_0.at 35 rfl) ?_
  refine J_getF (ov := 69) (dd := 1001) 73 rfl fl_12_7 rfl (by decide) rfl ob_68 (Ob.lt ob_68) (D_X12_name_0.at 36 rfl) ?_
  refine J_aload_n 74 rfl 0 0 rfl ⟨by decide, by decide⟩ (D_X12_name_0.at 37 rfl) ?_
  refine J_getI (z := (h 68 2)) 77 rfl fl_12_233 rfl ob_68 (Ob.lt ob_68) (D_X12_name_0.at 38 rfl) rfl ?_
  obtain ⟨s35, T⟩ := T
  refine J_iald 78 rfl ar_69 (Ar.lt ar_69) s35 (D_X12_name_0.at 39 rfl) ?_
  refine J_callS (d' := 1) (K1 := fun z h0 => rok (some .boolean) z → JG w true m_X12_name 4 NT NT 81 [(0, vR 68), (1, vL v1)] [vI z] h0 _) (sr := fun z => [vI z]) (as := [vI (h 69 (h 68 2))]) (st := []) 81 rfl ok_X12_isLetter sm_X12_isLetter ml_12_243 rfl (by decide) ⟨Nat.le_refl _, Nat.le_refl _⟩ (Nat.le_of_ble_eq_true rfl) (D_X12_name_0.at 40 rfl) (fun _ => rfl) (CGm_of2 (by decide) (by decide) trivial (Nat.le_of_ble_eq_true rfl) ?_) (fun _ _ kq hb => kq hb)
  refine J_iload_n 1 rfl 0 0 rfl (D_X12_isLetter_0.at 0 rfl) ?_
  refine J_bipush 3 rfl ⟨by decide, by decide⟩ (D_X12_isLetter_0.at 1 rfl) ?_
  obtain ⟨s36, T⟩ := T
  refine J_icmp_lt 6 rfl 16 s36 ⟨by decide, by decide⟩ (D_X12_isLetter_0.at 2 rfl) (by decide) (fun c52 => ?_) (fun c52 => ?_)
  · replace T := T.1 c52
    refine J_iconst 17 rfl (D_X12_isLetter_0.at 8 rfl) ?_
    refine J_zret rfl (Or.inl rfl) (D_X12_isLetter_0.at 9 rfl) (fun _ => ?_)
    refine J_if_eq 84 rfl 145 ⟨by decide, by decide⟩ (D_X12_name_0.at 41 rfl) (by decide) (fun _ => ?_) (fun c => absurd (by decide) c)
    refine J_aload_n 146 rfl 0 0 rfl ⟨by decide, by decide⟩ (D_X12_name_1.at 30 rfl) ?_
    refine J_aload_n 147 rfl 0 0 rfl ⟨by decide, by decide⟩ (D_X12_name_1.at 31 rfl) ?_
    refine J_getI (z := (h 68 2)) 150 rfl fl_12_233 rfl ob_68 (Ob.lt ob_68) (D_X12_name_1.at 32 rfl) rfl ?_
    refine J_putI 153 rfl fl_12_247 rfl rfl ob_68 (Ob.lt ob_68) (D_X12_name_1.at 33 rfl) (fun h37 e38 => ?_)
    replace T := T h37 e38
    refine J_lload_n 154 rfl 1 1 rfl (D_X12_name_1.at 34 rfl) ?_
    exact J_lret rfl (D_X12_name_1.at 35 rfl) T
  replace T := T.2 c52
  refine J_iload_n 7 rfl 0 0 rfl (D_X12_isLetter_0.at 3 rfl) ?_
  refine J_bipush 9 rfl ⟨by decide, by decide⟩ (D_X12_isLetter_0.at 4 rfl) ?_
  obtain ⟨s39, T⟩ := T
  refine J_icmp_gt 12 rfl 16 s39 ⟨by decide, by decide⟩ (D_X12_isLetter_0.at 5 rfl) (by decide) (fun c51 => ?_) (fun c51 => ?_)
  · replace T := T.1 c51
    refine J_iconst 17 rfl (D_X12_isLetter_0.at 8 rfl) ?_
    refine J_zret rfl (Or.inl rfl) (D_X12_isLetter_0.at 9 rfl) (fun _ => ?_)
    refine J_if_eq 84 rfl 145 ⟨by decide, by decide⟩ (D_X12_name_0.at 41 rfl) (by decide) (fun _ => ?_) (fun c => absurd (by decide) c)
    refine J_aload_n 146 rfl 0 0 rfl ⟨by decide, by decide⟩ (D_X12_name_1.at 30 rfl) ?_
    refine J_aload_n 147 rfl 0 0 rfl ⟨by decide, by decide⟩ (D_X12_name_1.at 31 rfl) ?_
    refine J_getI (z := (h 68 2)) 150 rfl fl_12_233 rfl ob_68 (Ob.lt ob_68) (D_X12_name_1.at 32 rfl) rfl ?_
    refine J_putI 153 rfl fl_12_247 rfl rfl ob_68 (Ob.lt ob_68) (D_X12_name_1.at 33 rfl) (fun h40 e41 => ?_)
    replace T := T h40 e41
    refine J_lload_n 154 rfl 1 1 rfl (D_X12_name_1.at 34 rfl) ?_
    exact J_lret rfl (D_X12_name_1.at 35 rfl) T
  replace T := T.2 c51
  refine J_iconst 13 rfl (D_X12_isLetter_0.at 6 rfl) ?_
  refine J_goto 17 (D_X12_isLetter_0.at 7 rfl) (by decide) ?_
  refine J_zret rfl (Or.inr rfl) (D_X12_isLetter_0.at 9 rfl) (fun _ => ?_)
  refine J_if_eq 84 rfl 145 ⟨by decide, by decide⟩ (D_X12_name_0.at 41 rfl) (by decide) (fun c => absurd c (by decide)) (fun _ => ?_)
  refine J_aload_n 85 rfl 0 0 rfl ⟨by decide, by decide⟩ (D_X12_name_0.at 42 rfl) ?_
  refine J_getI (z := (h 68 2)) 88 rfl fl_12_233 rfl ob_68 (Ob.lt ob_68) (D_X12_name_0.at 43 rfl) rfl ?_
  refine J_aload_n 89 rfl 0 0 rfl ⟨by decide, by decide⟩ (D_X12_name_0.at 44 rfl) ?_
  refine J_getI (z := (h 68 32)) 92 rfl fl_12_275 rfl ob_68 (Ob.lt ob_68) (D_X12_name_0.at 45 rfl) rfl ?_
  refine J_isub 93 rfl (D_X12_name_0.at 46 rfl) ?_
  refine J_bipush 95 rfl ⟨by decide, by decide⟩ (D_X12_name_0.at 47 rfl) ?_
  obtain ⟨s42, T⟩ := T
  refine J_icmp_ne 98 rfl 109 s42 ⟨by decide, by decide⟩ (D_X12_name_1.at 0 rfl) (by decide) (fun c50 => ?_) (fun c50 => ?_)
  · replace T := T.1 c50
    refine J_ldc2 112 rfl ko_12_278 (D_X12_name_1.at 8 rfl) ?_
    refine J_lload_n 113 rfl 1 1 rfl (D_X12_name_1.at 9 rfl) ?_
    refine J_lmul 114 rfl (D_X12_name_1.at 10 rfl) ?_
    refine J_aload_n 115 rfl 0 0 rfl ⟨by decide, by decide⟩ (D_X12_name_1.at 11 rfl) ?_
    refine J_getF (ov := 69) (dd := 1001) 118 rfl fl_12_7 rfl (by decide) rfl ob_68 (Ob.lt ob_68) (D_X12_name_1.at 12 rfl) ?_
    refine J_aload_n 119 rfl 0 0 rfl ⟨by decide, by decide⟩ (D_X12_name_1.at 13 rfl) ?_
    refine J_getI (z := (h 68 2)) 122 rfl fl_12_233 rfl ob_68 (Ob.lt ob_68) (D_X12_name_1.at 14 rfl) rfl ?_
    obtain ⟨s43, T⟩ := T
    refine J_iald 123 rfl ar_69 (Ar.lt ar_69) s43 (D_X12_name_1.at 15 rfl) ?_
    obtain ⟨s44, T⟩ := T
    refine J_i2l 124 rfl s44 (D_X12_name_1.at 16 rfl) ?_
    refine J_ladd 125 rfl (D_X12_name_1.at 17 rfl) ?_
    refine J_ldc2 128 rfl ko_12_280 (D_X12_name_1.at 18 rfl) ?_
    refine J_lsub 129 rfl (D_X12_name_1.at 19 rfl) ?_
    refine J_lconst (z := 1) 130 rfl rfl (D_X12_name_1.at 20 rfl) ?_
    refine J_ladd 131 rfl (D_X12_name_1.at 21 rfl) ?_
    refine J_lstore_n (lv' := [(1, vL ((((27 * v1) + (h 69 (h 68 2))) - 97) + 1)), (0, vR 68)]) 132 rfl 1 (by decide) rfl (D_X12_name_1.at 22 rfl) ?_
    refine J_aload_n 133 rfl 0 1 rfl ⟨by decide, by decide⟩ (D_X12_name_1.at 23 rfl) ?_
    refine J_dup 134 rfl rfl (D_X12_name_1.at 24 rfl) ?_
    refine J_getI (z := (h 68 2)) 137 rfl fl_12_233 rfl ob_68 (Ob.lt ob_68) (D_X12_name_1.at 25 rfl) rfl ?_
    refine J_iconst 138 rfl (D_X12_name_1.at 26 rfl) ?_
    refine J_iadd 139 rfl (D_X12_name_1.at 27 rfl) ?_
    refine J_putI 142 rfl fl_12_233 rfl rfl ob_68 (Ob.lt ob_68) (D_X12_name_1.at 28 rfl) (fun h45 e46 => ?_)
    replace T := T h45 e46
    refine J_goto 58 (D_X12_name_1.at 29 rfl) (by decide) ?_
    exact J_sub (lv' := [(0, vR 68), (1, vL ((((27 * v1) + (h 69 (h 68 2))) - 97) + 1))]) [1, 0] rfl T
  replace T := T.2 c50
  refine J_aload_n 99 rfl 0 0 rfl ⟨by decide, by decide⟩ (D_X12_name_1.at 1 rfl) ?_
  refine J_iconst 100 rfl (D_X12_name_1.at 2 rfl) ?_
  refine J_aload_n 101 rfl 0 0 rfl ⟨by decide, by decide⟩ (D_X12_name_1.at 3 rfl) ?_
  refine J_getI (z := (h 68 2)) 104 rfl fl_12_233 rfl ob_68 (Ob.lt ob_68) (D_X12_name_1.at 4 rfl) rfl ?_
  refine J_callV (d' := 1) (sr := fun z => []) (as := [vI 1, vI (h 68 2)]) (st := []) (o := 68) 107 rfl ok_X12_fail im_X12_fail se_X12_fail ml_12_257 isC_12 ob_68 (Ob.lt ob_68) rfl (by decide) ⟨Nat.le_refl _, Nat.le_refl _⟩ (Nat.le_of_ble_eq_true rfl) (D_X12_name_1.at 5 rfl) (fun _ => rfl) T (fun r47 h48 T b49 => ?_)
  refine J_lconst (z := 0) 108 rfl rfl (D_X12_name_1.at 6 rfl) ?_
  exact J_lret rfl (D_X12_name_1.at 7 rfl) T
theorem c_X12_goesOn {w : Wd} {h : Hp} {K : Int → Hp → Prop} (T : L_X12_goesOn_0 w h K) : C_X12_goesOn w h K := by
  refine CGm_of2 (by decide) (by decide) trivial (Nat.le_of_ble_eq_true rfl) ?_
  exact T
theorem l_X12_goesOn_0 {w : Wd} {h : Hp} {K : Int → Hp → Prop} (T : (inR (h 68 5)) ∧ ((((h 68 5) ≠ 0) → (L_X12_goesOn_118 w h K)) ∧ (¬ ((h 68 5) ≠ 0) → (C_X12_look w h (fun r2 h3 => (inR r2) ∧ (((r2 ≠ 41) → (L_X12_goesOn_118 w h3 K)) ∧ (¬ (r2 ≠ 41) → (C_X12_waitsLast w h3 (fun r6 h7 => (inR r6) ∧ (((r6 = 20) → (L_X12_goesOn_43 w h7 K)) ∧ (¬ (r6 = 20) → (C_X12_waitsLast w h7 (fun r10 h11 => (inR r10) ∧ (((r10 = 23) → (L_X12_goesOn_43 w h11 K)) ∧ (¬ (r10 = 23) → (C_X12_waitsLast w h11 (fun r14 h15 => (inR r14) ∧ (((r14 ≠ 24) → (L_X12_goesOn_118 w h15 K)) ∧ (¬ (r14 ≠ 24) → (L_X12_goesOn_43 w h15 K)))))))))))))))))))) : L_X12_goesOn_0 w h K := by
  unfold L_X12_goesOn_0
  refine J_aload_n 1 rfl 0 0 rfl ⟨by decide, by decide⟩ (D_X12_goesOn_0.at 0 rfl) ?_
  refine J_getI (z := (h 68 5)) 4 rfl fl_12_227 rfl ob_68 (Ob.lt ob_68) (D_X12_goesOn_0.at 1 rfl) rfl ?_
  obtain ⟨s1, T⟩ := T
  refine J_if_ne 7 rfl 118 s1 (D_X12_goesOn_0.at 2 rfl) (by decide) (fun c22 => ?_) (fun c22 => ?_)
  · replace T := T.1 c22
    exact T
  replace T := T.2 c22
  refine J_aload_n 8 rfl 0 0 rfl ⟨by decide, by decide⟩ (D_X12_goesOn_0.at 3 rfl) ?_
  refine J_callV (d' := 1) (sr := fun z => [vI z]) (as := []) (st := []) (o := 68) 11 rfl ok_X12_look im_X12_look se_X12_look ml_12_239 isC_12 ob_68 (Ob.lt ob_68) rfl (by decide) ⟨Nat.le_refl _, Nat.le_refl _⟩ (Nat.le_of_ble_eq_true rfl) (D_X12_goesOn_0.at 4 rfl) (fun _ => rfl) T (fun r2 h3 T b4 => ?_)
  refine J_bipush 13 rfl ⟨by decide, by decide⟩ (D_X12_goesOn_0.at 5 rfl) ?_
  obtain ⟨s5, T⟩ := T
  refine J_icmp_ne 16 rfl 118 s5 ⟨by decide, by decide⟩ (D_X12_goesOn_0.at 6 rfl) (by decide) (fun c21 => ?_) (fun c21 => ?_)
  · replace T := T.1 c21
    exact T
  replace T := T.2 c21
  refine J_aload_n 17 rfl 0 0 rfl ⟨by decide, by decide⟩ (D_X12_goesOn_0.at 7 rfl) ?_
  refine J_callV (d' := 2) (sr := fun z => [vI z]) (as := []) (st := []) (o := 68) 20 rfl ok_X12_waitsLast im_X12_waitsLast se_X12_waitsLast ml_12_378 isC_12 ob_68 (Ob.lt ob_68) rfl (by decide) ⟨Nat.le_refl _, Nat.le_refl _⟩ (Nat.le_of_ble_eq_true rfl) (D_X12_goesOn_0.at 8 rfl) (fun _ => rfl) T (fun r6 h7 T b8 => ?_)
  refine J_bipush 22 rfl ⟨by decide, by decide⟩ (D_X12_goesOn_0.at 9 rfl) ?_
  obtain ⟨s9, T⟩ := T
  refine J_icmp_eq 25 rfl 43 s9 ⟨by decide, by decide⟩ (D_X12_goesOn_0.at 10 rfl) (by decide) (fun c20 => ?_) (fun c20 => ?_)
  · replace T := T.1 c20
    exact T
  replace T := T.2 c20
  refine J_aload_n 26 rfl 0 0 rfl ⟨by decide, by decide⟩ (D_X12_goesOn_0.at 11 rfl) ?_
  refine J_callV (d' := 2) (sr := fun z => [vI z]) (as := []) (st := []) (o := 68) 29 rfl ok_X12_waitsLast im_X12_waitsLast se_X12_waitsLast ml_12_378 isC_12 ob_68 (Ob.lt ob_68) rfl (by decide) ⟨Nat.le_refl _, Nat.le_refl _⟩ (Nat.le_of_ble_eq_true rfl) (D_X12_goesOn_0.at 12 rfl) (fun _ => rfl) T (fun r10 h11 T b12 => ?_)
  refine J_bipush 31 rfl ⟨by decide, by decide⟩ (D_X12_goesOn_0.at 13 rfl) ?_
  obtain ⟨s13, T⟩ := T
  refine J_icmp_eq 34 rfl 43 s13 ⟨by decide, by decide⟩ (D_X12_goesOn_0.at 14 rfl) (by decide) (fun c19 => ?_) (fun c19 => ?_)
  · replace T := T.1 c19
    exact T
  replace T := T.2 c19
  refine J_aload_n 35 rfl 0 0 rfl ⟨by decide, by decide⟩ (D_X12_goesOn_0.at 15 rfl) ?_
  refine J_callV (d' := 2) (sr := fun z => [vI z]) (as := []) (st := []) (o := 68) 38 rfl ok_X12_waitsLast im_X12_waitsLast se_X12_waitsLast ml_12_378 isC_12 ob_68 (Ob.lt ob_68) rfl (by decide) ⟨Nat.le_refl _, Nat.le_refl _⟩ (Nat.le_of_ble_eq_true rfl) (D_X12_goesOn_0.at 16 rfl) (fun _ => rfl) T (fun r14 h15 T b16 => ?_)
  refine J_bipush 40 rfl ⟨by decide, by decide⟩ (D_X12_goesOn_0.at 17 rfl) ?_
  obtain ⟨s17, T⟩ := T
  refine J_icmp_ne 43 rfl 118 s17 ⟨by decide, by decide⟩ (D_X12_goesOn_0.at 18 rfl) (by decide) (fun c18 => ?_) (fun c18 => ?_)
  · replace T := T.1 c18
    exact T
  replace T := T.2 c18
  exact T
theorem l_X12_goesOn_43 {w : Wd} {h : Hp} {K : Int → Hp → Prop} (T : ∀ h23 : Hp, h23 = hu h 68 2 ((h 68 2) + 1) → C_X12_dropsToMark w h23 (fun _ h26 => ∀ h28 : Hp, h28 = hu h26 68 46 ((h26 68 46) - 1) → ∀ h30 : Hp, h30 = hu h28 68 47 ((h28 68 47) - 1) → (0 ≤ (h30 68 46) ∧ (h30 68 46) < 1700) ∧ ((inR (h30 101 (h30 68 46))) ∧ ((((h30 101 (h30 68 46)) = 20) → (L_X12_goesOn_0 w h30 K)) ∧ (¬ ((h30 101 (h30 68 46)) = 20) → ((0 ≤ (h30 68 46) ∧ (h30 68 46) < 1700) ∧ ((inR (h30 101 (h30 68 46))) ∧ ((((h30 101 (h30 68 46)) ≠ 23) → (C_X12_code w 6 h30 (fun _ h37 => L_X12_goesOn_0 w h37 K))) ∧ (¬ ((h30 101 (h30 68 46)) ≠ 23) → (C_X12_code w 5 h30 (fun _ h40 => L_X12_goesOn_0 w h40 K))))))))))) : L_X12_goesOn_43 w h K := by
  unfold L_X12_goesOn_43
  refine J_aload_n 44 rfl 0 0 rfl ⟨by decide, by decide⟩ (D_X12_goesOn_0.at 19 rfl) ?_
  refine J_dup 45 rfl rfl (D_X12_goesOn_0.at 20 rfl) ?_
  refine J_getI (z := (h 68 2)) 48 rfl fl_12_233 rfl ob_68 (Ob.lt ob_68) (D_X12_goesOn_0.at 21 rfl) rfl ?_
  refine J_iconst 49 rfl (D_X12_goesOn_0.at 22 rfl) ?_
  refine J_iadd 50 rfl (D_X12_goesOn_0.at 23 rfl) ?_
  refine J_putI 53 rfl fl_12_233 rfl rfl ob_68 (Ob.lt ob_68) (D_X12_goesOn_0.at 24 rfl) (fun h23 e24 => ?_)
  replace T := T h23 e24
  refine J_aload_n 54 rfl 0 0 rfl ⟨by decide, by decide⟩ (D_X12_goesOn_0.at 25 rfl) ?_
  refine J_callV (d' := 3) (sr := fun z => []) (as := []) (st := []) (o := 68) 57 rfl ok_X12_dropsToMark im_X12_dropsToMark se_X12_dropsToMark ml_12_381 isC_12 ob_68 (Ob.lt ob_68) rfl (by decide) ⟨Nat.le_refl _, Nat.le_refl _⟩ (Nat.le_of_ble_eq_true rfl) (D_X12_goesOn_0.at 26 rfl) (fun _ => rfl) T (fun r25 h26 T b27 => ?_)
  refine J_aload_n 58 rfl 0 0 rfl ⟨by decide, by decide⟩ (D_X12_goesOn_0.at 27 rfl) ?_
  refine J_dup 59 rfl rfl (D_X12_goesOn_0.at 28 rfl) ?_
  refine J_getI (z := (h26 68 46)) 62 rfl fl_12_315 rfl ob_68 (Ob.lt ob_68) (D_X12_goesOn_0.at 29 rfl) rfl ?_
  refine J_iconst 63 rfl (D_X12_goesOn_0.at 30 rfl) ?_
  refine J_isub 64 rfl (D_X12_goesOn_0.at 31 rfl) ?_
  refine J_putI 67 rfl fl_12_315 rfl rfl ob_68 (Ob.lt ob_68) (D_X12_goesOn_0.at 32 rfl) (fun h28 e29 => ?_)
  replace T := T h28 e29
  refine J_aload_n 68 rfl 0 0 rfl ⟨by decide, by decide⟩ (D_X12_goesOn_0.at 33 rfl) ?_
  refine J_dup 69 rfl rfl (D_X12_goesOn_0.at 34 rfl) ?_
  refine J_getI (z := (h28 68 47)) 72 rfl fl_12_318 rfl ob_68 (Ob.lt ob_68) (D_X12_goesOn_0.at 35 rfl) rfl ?_
  refine J_iconst 73 rfl (D_X12_goesOn_0.at 36 rfl) ?_
  refine J_isub 74 rfl (D_X12_goesOn_0.at 37 rfl) ?_
  refine J_putI 77 rfl fl_12_318 rfl rfl ob_68 (Ob.lt ob_68) (D_X12_goesOn_0.at 38 rfl) (fun h30 e31 => ?_)
  replace T := T h30 e31
  refine J_aload_n 78 rfl 0 0 rfl ⟨by decide, by decide⟩ (D_X12_goesOn_0.at 39 rfl) ?_
  refine J_getF (ov := 101) (dd := 1033) 81 rfl fl_12_112 rfl (by decide) rfl ob_68 (Ob.lt ob_68) (D_X12_goesOn_0.at 40 rfl) ?_
  refine J_aload_n 82 rfl 0 0 rfl ⟨by decide, by decide⟩ (D_X12_goesOn_0.at 41 rfl) ?_
  refine J_getI (z := (h30 68 46)) 85 rfl fl_12_315 rfl ob_68 (Ob.lt ob_68) (D_X12_goesOn_0.at 42 rfl) rfl ?_
  obtain ⟨s32, T⟩ := T
  refine J_iald 86 rfl ar_101 (Ar.lt ar_101) s32 (D_X12_goesOn_0.at 43 rfl) ?_
  refine J_bipush 88 rfl ⟨by decide, by decide⟩ (D_X12_goesOn_0.at 44 rfl) ?_
  obtain ⟨s33, T⟩ := T
  refine J_icmp_eq 91 rfl 0 s33 ⟨by decide, by decide⟩ (D_X12_goesOn_0.at 45 rfl) (by decide) (fun c43 => ?_) (fun c43 => ?_)
  · replace T := T.1 c43
    exact T
  replace T := T.2 c43
  refine J_aload_n 92 rfl 0 0 rfl ⟨by decide, by decide⟩ (D_X12_goesOn_0.at 46 rfl) ?_
  refine J_aload_n 93 rfl 0 0 rfl ⟨by decide, by decide⟩ (D_X12_goesOn_0.at 47 rfl) ?_
  refine J_getF (ov := 101) (dd := 1033) 96 rfl fl_12_112 rfl (by decide) rfl ob_68 (Ob.lt ob_68) (D_X12_goesOn_1.at 0 rfl) ?_
  refine J_aload_n 97 rfl 0 0 rfl ⟨by decide, by decide⟩ (D_X12_goesOn_1.at 1 rfl) ?_
  refine J_getI (z := (h30 68 46)) 100 rfl fl_12_315 rfl ob_68 (Ob.lt ob_68) (D_X12_goesOn_1.at 2 rfl) rfl ?_
  obtain ⟨s34, T⟩ := T
  refine J_iald 101 rfl ar_101 (Ar.lt ar_101) s34 (D_X12_goesOn_1.at 3 rfl) ?_
  refine J_bipush 103 rfl ⟨by decide, by decide⟩ (D_X12_goesOn_1.at 4 rfl) ?_
  obtain ⟨s35, T⟩ := T
  refine J_icmp_ne 106 rfl 110 s35 ⟨by decide, by decide⟩ (D_X12_goesOn_1.at 5 rfl) (by decide) (fun c42 => ?_) (fun c42 => ?_)
  · replace T := T.1 c42
    refine J_bipush 112 rfl ⟨by decide, by decide⟩ (D_X12_goesOn_1.at 8 rfl) ?_
    refine J_callV (d' := 1) (sr := fun z => []) (as := [vI 6]) (st := []) (o := 68) 115 rfl ok_X12_code im_X12_code se_X12_code ml_12_366 isC_12 ob_68 (Ob.lt ob_68) rfl (by decide) ⟨Nat.le_refl _, Nat.le_refl _⟩ (Nat.le_of_ble_eq_true rfl) (D_X12_goesOn_1.at 9 rfl) (fun _ => rfl) T (fun r36 h37 T b38 => ?_)
    refine J_goto 0 (D_X12_goesOn_1.at 10 rfl) (by decide) ?_
    exact T
  replace T := T.2 c42
  refine J_iconst 107 rfl (D_X12_goesOn_1.at 6 rfl) ?_
  refine J_goto 112 (D_X12_goesOn_1.at 7 rfl) (by decide) ?_
  refine J_callV (d' := 1) (sr := fun z => []) (as := [vI 5]) (st := []) (o := 68) 115 rfl ok_X12_code im_X12_code se_X12_code ml_12_366 isC_12 ob_68 (Ob.lt ob_68) rfl (by decide) ⟨Nat.le_refl _, Nat.le_refl _⟩ (Nat.le_of_ble_eq_true rfl) (D_X12_goesOn_1.at 9 rfl) (fun _ => rfl) T (fun r39 h40 T b41 => ?_)
  refine J_goto 0 (D_X12_goesOn_1.at 10 rfl) (by decide) ?_
  exact T
theorem l_X12_goesOn_118 {w : Wd} {h : Hp} {K : Int → Hp → Prop} (T : C_X12_takesSign w 42 h (fun r44 h45 => (r44 = 0 ∨ r44 = 1) → ((r44 ≠ 0) → (L_X12_goesOn_136 w h45 K)) ∧ (¬ (r44 ≠ 0) → (C_X12_takesSign w 47 h45 (fun r47 h48 => (r47 = 0 ∨ r47 = 1) → ((r47 = 0) → (C_X12_takesSign w 43 h48 (fun r50 h51 => (r50 = 0 ∨ r50 = 1) → ((r50 ≠ 0) → (L_X12_goesOn_221 w h51 K)) ∧ (¬ (r50 ≠ 0) → (C_X12_takesSign w 45 h51 (fun r53 h54 => (r53 = 0 ∨ r53 = 1) → ((r53 = 0) → (C_X12_waitsLast w h54 (fun r56 h57 => (inR r56) ∧ (((r56 = 21) → (L_X12_goesOn_322 w h57 K)) ∧ (¬ (r56 = 21) → (C_X12_waitsLast w h57 (fun r60 h61 => (inR r60) ∧ (((r60 ≠ 22) → (C_X12_waitsLast w h61 (fun r64 h65 => (inR r64) ∧ (((r64 = (-1)) → (L_X12_goesOn_382 w h65 K)) ∧ (¬ (r64 = (-1)) → ((inR (h65 68 5)) ∧ ((((h65 68 5) ≠ 0) → (L_X12_goesOn_382 w h65 K)) ∧ (¬ ((h65 68 5) ≠ 0) → (C_X12_fail w 1 (h65 68 2) h65 (fun _ h70 => L_X12_goesOn_382 w h70 K)))))))))) ∧ (¬ (r60 ≠ 22) → (L_X12_goesOn_322 w h61 K)))))))))) ∧ (¬ (r53 = 0) → (L_X12_goesOn_221 w h54 K)))))))) ∧ (¬ (r47 = 0) → (L_X12_goesOn_136 w h48 K))))))) : L_X12_goesOn_118 w h K := by
  unfold L_X12_goesOn_118
  refine J_aload_n 119 rfl 0 0 rfl ⟨by decide, by decide⟩ (D_X12_goesOn_1.at 11 rfl) ?_
  refine J_bipush 121 rfl ⟨by decide, by decide⟩ (D_X12_goesOn_1.at 12 rfl) ?_
  refine J_callV (d' := 2) (sr := fun z => [vI z]) (as := [vI 42]) (st := []) (o := 68) 124 rfl ok_X12_takesSign im_X12_takesSign se_X12_takesSign ml_12_261 isC_12 ob_68 (Ob.lt ob_68) rfl (by decide) ⟨Nat.le_refl _, Nat.le_refl _⟩ (Nat.le_of_ble_eq_true rfl) (D_X12_goesOn_1.at 13 rfl) (fun _ => rfl) T (fun r44 h45 T b46 => ?_)
  replace T := T b46
  refine J_if_ne 127 rfl 136 (inR_b b46) (D_X12_goesOn_1.at 14 rfl) (by decide) (fun c79 => ?_) (fun c79 => ?_)
  · replace T := T.1 c79
    exact T
  replace T := T.2 c79
  refine J_aload_n 128 rfl 0 0 rfl ⟨by decide, by decide⟩ (D_X12_goesOn_1.at 15 rfl) ?_
  refine J_bipush 130 rfl ⟨by decide, by decide⟩ (D_X12_goesOn_1.at 16 rfl) ?_
  refine J_callV (d' := 2) (sr := fun z => [vI z]) (as := [vI 47]) (st := []) (o := 68) 133 rfl ok_X12_takesSign im_X12_takesSign se_X12_takesSign ml_12_261 isC_12 ob_68 (Ob.lt ob_68) rfl (by decide) ⟨Nat.le_refl _, Nat.le_refl _⟩ (Nat.le_of_ble_eq_true rfl) (D_X12_goesOn_1.at 17 rfl) (fun _ => rfl) T (fun r47 h48 T b49 => ?_)
  replace T := T b49
  refine J_if_eq 136 rfl 203 (inR_b b49) (D_X12_goesOn_1.at 18 rfl) (by decide) (fun c78 => ?_) (fun c78 => ?_)
  · replace T := T.1 c78
    refine J_aload_n 204 rfl 0 0 rfl ⟨by decide, by decide⟩ (D_X12_goesOn_2.at 9 rfl) ?_
    refine J_bipush 206 rfl ⟨by decide, by decide⟩ (D_X12_goesOn_2.at 10 rfl) ?_
    refine J_callV (d' := 2) (sr := fun z => [vI z]) (as := [vI 43]) (st := []) (o := 68) 209 rfl ok_X12_takesSign im_X12_takesSign se_X12_takesSign ml_12_261 isC_12 ob_68 (Ob.lt ob_68) rfl (by decide) ⟨Nat.le_refl _, Nat.le_refl _⟩ (Nat.le_of_ble_eq_true rfl) (D_X12_goesOn_2.at 11 rfl) (fun _ => rfl) T (fun r50 h51 T b52 => ?_)
    replace T := T b52
    refine J_if_ne 212 rfl 221 (inR_b b52) (D_X12_goesOn_2.at 12 rfl) (by decide) (fun c77 => ?_) (fun c77 => ?_)
    · replace T := T.1 c77
      exact T
    replace T := T.2 c77
    refine J_aload_n 213 rfl 0 0 rfl ⟨by decide, by decide⟩ (D_X12_goesOn_2.at 13 rfl) ?_
    refine J_bipush 215 rfl ⟨by decide, by decide⟩ (D_X12_goesOn_2.at 14 rfl) ?_
    refine J_callV (d' := 2) (sr := fun z => [vI z]) (as := [vI 45]) (st := []) (o := 68) 218 rfl ok_X12_takesSign im_X12_takesSign se_X12_takesSign ml_12_261 isC_12 ob_68 (Ob.lt ob_68) rfl (by decide) ⟨Nat.le_refl _, Nat.le_refl _⟩ (Nat.le_of_ble_eq_true rfl) (D_X12_goesOn_2.at 15 rfl) (fun _ => rfl) T (fun r53 h54 T b55 => ?_)
    replace T := T b55
    refine J_if_eq 221 rfl 304 (inR_b b55) (D_X12_goesOn_2.at 16 rfl) (by decide) (fun c76 => ?_) (fun c76 => ?_)
    · replace T := T.1 c76
      refine J_aload_n 305 rfl 0 0 rfl ⟨by decide, by decide⟩ (D_X12_goesOn_3.at 15 rfl) ?_
      refine J_callV (d' := 2) (sr := fun z => [vI z]) (as := []) (st := []) (o := 68) 308 rfl ok_X12_waitsLast im_X12_waitsLast se_X12_waitsLast ml_12_378 isC_12 ob_68 (Ob.lt ob_68) rfl (by decide) ⟨Nat.le_refl _, Nat.le_refl _⟩ (Nat.le_of_ble_eq_true rfl) (D_X12_goesOn_3.at 16 rfl) (fun _ => rfl) T (fun r56 h57 T b58 => ?_)
      refine J_bipush 310 rfl ⟨by decide, by decide⟩ (D_X12_goesOn_3.at 17 rfl) ?_
      obtain ⟨s59, T⟩ := T
      refine J_icmp_eq 313 rfl 322 s59 ⟨by decide, by decide⟩ (D_X12_goesOn_3.at 18 rfl) (by decide) (fun c75 => ?_) (fun c75 => ?_)
      · replace T := T.1 c75
        exact T
      replace T := T.2 c75
      refine J_aload_n 314 rfl 0 0 rfl ⟨by decide, by decide⟩ (D_X12_goesOn_3.at 19 rfl) ?_
      refine J_callV (d' := 2) (sr := fun z => [vI z]) (as := []) (st := []) (o := 68) 317 rfl ok_X12_waitsLast im_X12_waitsLast se_X12_waitsLast ml_12_378 isC_12 ob_68 (Ob.lt ob_68) rfl (by decide) ⟨Nat.le_refl _, Nat.le_refl _⟩ (Nat.le_of_ble_eq_true rfl) (D_X12_goesOn_3.at 20 rfl) (fun _ => rfl) T (fun r60 h61 T b62 => ?_)
      refine J_bipush 319 rfl ⟨by decide, by decide⟩ (D_X12_goesOn_3.at 21 rfl) ?_
      obtain ⟨s63, T⟩ := T
      refine J_icmp_ne 322 rfl 358 s63 ⟨by decide, by decide⟩ (D_X12_goesOn_3.at 22 rfl) (by decide) (fun c74 => ?_) (fun c74 => ?_)
      · replace T := T.1 c74
        refine J_aload_n 359 rfl 0 0 rfl ⟨by decide, by decide⟩ (D_X12_goesOn_3.at 46 rfl) ?_
        refine J_callV (d' := 2) (sr := fun z => [vI z]) (as := []) (st := []) (o := 68) 362 rfl ok_X12_waitsLast im_X12_waitsLast se_X12_waitsLast ml_12_378 isC_12 ob_68 (Ob.lt ob_68) rfl (by decide) ⟨Nat.le_refl _, Nat.le_refl _⟩ (Nat.le_of_ble_eq_true rfl) (D_X12_goesOn_3.at 47 rfl) (fun _ => rfl) T (fun r64 h65 T b66 => ?_)
        refine J_iconst 363 rfl (D_X12_goesOn_4.at 0 rfl) ?_
        obtain ⟨s67, T⟩ := T
        refine J_icmp_eq 366 rfl 382 s67 ⟨by decide, by decide⟩ (D_X12_goesOn_4.at 1 rfl) (by decide) (fun c73 => ?_) (fun c73 => ?_)
        · replace T := T.1 c73
          exact J_sub (lv' := []) [] rfl T
        replace T := T.2 c73
        refine J_aload_n 367 rfl 0 0 rfl ⟨by decide, by decide⟩ (D_X12_goesOn_4.at 2 rfl) ?_
        refine J_getI (z := (h65 68 5)) 370 rfl fl_12_227 rfl ob_68 (Ob.lt ob_68) (D_X12_goesOn_4.at 3 rfl) rfl ?_
        obtain ⟨s68, T⟩ := T
        refine J_if_ne 373 rfl 382 s68 (D_X12_goesOn_4.at 4 rfl) (by decide) (fun c72 => ?_) (fun c72 => ?_)
        · replace T := T.1 c72
          exact J_sub (lv' := []) [] rfl T
        replace T := T.2 c72
        refine J_aload_n 374 rfl 0 0 rfl ⟨by decide, by decide⟩ (D_X12_goesOn_4.at 5 rfl) ?_
        refine J_iconst 375 rfl (D_X12_goesOn_4.at 6 rfl) ?_
        refine J_aload_n 376 rfl 0 0 rfl ⟨by decide, by decide⟩ (D_X12_goesOn_4.at 7 rfl) ?_
        refine J_getI (z := (h65 68 2)) 379 rfl fl_12_233 rfl ob_68 (Ob.lt ob_68) (D_X12_goesOn_4.at 8 rfl) rfl ?_
        refine J_callV (d' := 1) (sr := fun z => []) (as := [vI 1, vI (h65 68 2)]) (st := []) (o := 68) 382 rfl ok_X12_fail im_X12_fail se_X12_fail ml_12_257 isC_12 ob_68 (Ob.lt ob_68) rfl (by decide) ⟨Nat.le_refl _, Nat.le_refl _⟩ (Nat.le_of_ble_eq_true rfl) (D_X12_goesOn_4.at 9 rfl) (fun _ => rfl) T (fun r69 h70 T b71 => ?_)
        exact J_sub (lv' := []) [] rfl T
      replace T := T.2 c74
      exact T
    replace T := T.2 c76
    exact T
  replace T := T.2 c78
  exact T
theorem l_X12_goesOn_382 {w : Wd} {h : Hp} {K : Int → Hp → Prop} (T : K 0 h) : L_X12_goesOn_382 w h K := by
  unfold L_X12_goesOn_382
  refine J_iconst 383 rfl (D_X12_goesOn_4.at 10 rfl) ?_
  exact J_zret rfl (Or.inl rfl) (D_X12_goesOn_4.at 11 rfl) T
theorem l_X12_goesOn_322 {w : Wd} {h : Hp} {K : Int → Hp → Prop} (T : C_X12_asksSign w 44 h (fun _ h81 => (inR (h81 68 5)) ∧ ((((h81 68 5) = 0) → (C_X12_dropsToMark w h81 (fun _ h85 => (0 ≤ ((h85 68 46) - 1) ∧ ((h85 68 46) - 1) < 1700) ∧ ((0 ≤ ((h85 68 46) - 1) ∧ ((h85 68 46) - 1) < 1700) ∧ (∀ h89 : Hp, h89 = hu h85 101 ((h85 68 46) - 1) ((h85 101 ((h85 68 46) - 1)) + 2) → K 1 h89))))) ∧ (¬ ((h81 68 5) = 0) → (K 0 h81))))) : L_X12_goesOn_322 w h K := by
  unfold L_X12_goesOn_322
  refine J_aload_n 323 rfl 0 0 rfl ⟨by decide, by decide⟩ (D_X12_goesOn_3.at 23 rfl) ?_
  refine J_bipush 325 rfl ⟨by decide, by decide⟩ (D_X12_goesOn_3.at 24 rfl) ?_
  refine J_callV (d' := 3) (sr := fun z => []) (as := [vI 44]) (st := []) (o := 68) 328 rfl ok_X12_asksSign im_X12_asksSign se_X12_asksSign ml_12_344 isC_12 ob_68 (Ob.lt ob_68) rfl (by decide) ⟨Nat.le_refl _, Nat.le_refl _⟩ (Nat.le_of_ble_eq_true rfl) (D_X12_goesOn_3.at 25 rfl) (fun _ => rfl) T (fun r80 h81 T b82 => ?_)
  refine J_aload_n 329 rfl 0 0 rfl ⟨by decide, by decide⟩ (D_X12_goesOn_3.at 26 rfl) ?_
  refine J_getI (z := (h81 68 5)) 332 rfl fl_12_227 rfl ob_68 (Ob.lt ob_68) (D_X12_goesOn_3.at 27 rfl) rfl ?_
  obtain ⟨s83, T⟩ := T
  refine J_if_eq 335 rfl 337 s83 (D_X12_goesOn_3.at 28 rfl) (by decide) (fun c91 => ?_) (fun c91 => ?_)
  · replace T := T.1 c91
    refine J_aload_n 338 rfl 0 0 rfl ⟨by decide, by decide⟩ (D_X12_goesOn_3.at 31 rfl) ?_
    refine J_callV (d' := 3) (sr := fun z => []) (as := []) (st := []) (o := 68) 341 rfl ok_X12_dropsToMark im_X12_dropsToMark se_X12_dropsToMark ml_12_381 isC_12 ob_68 (Ob.lt ob_68) rfl (by decide) ⟨Nat.le_refl _, Nat.le_refl _⟩ (Nat.le_of_ble_eq_true rfl) (D_X12_goesOn_3.at 32 rfl) (fun _ => rfl) T (fun r84 h85 T b86 => ?_)
    refine J_aload_n 342 rfl 0 0 rfl ⟨by decide, by decide⟩ (D_X12_goesOn_3.at 33 rfl) ?_
    refine J_getF (ov := 101) (dd := 1033) 345 rfl fl_12_112 rfl (by decide) rfl ob_68 (Ob.lt ob_68) (D_X12_goesOn_3.at 34 rfl) ?_
    refine J_aload_n 346 rfl 0 0 rfl ⟨by decide, by decide⟩ (D_X12_goesOn_3.at 35 rfl) ?_
    refine J_getI (z := (h85 68 46)) 349 rfl fl_12_315 rfl ob_68 (Ob.lt ob_68) (D_X12_goesOn_3.at 36 rfl) rfl ?_
    refine J_iconst 350 rfl (D_X12_goesOn_3.at 37 rfl) ?_
    refine J_isub 351 rfl (D_X12_goesOn_3.at 38 rfl) ?_
    refine J_dup2 352 rfl rfl rfl (D_X12_goesOn_3.at 39 rfl) ?_
    obtain ⟨s87, T⟩ := T
    refine J_iald 353 rfl ar_101 (Ar.lt ar_101) s87 (D_X12_goesOn_3.at 40 rfl) ?_
    refine J_iconst 354 rfl (D_X12_goesOn_3.at 41 rfl) ?_
    refine J_iadd 355 rfl (D_X12_goesOn_3.at 42 rfl) ?_
    obtain ⟨s88, T⟩ := T
    refine J_iastH 356 rfl ar_101 (Ar.lt ar_101) s88 trivial (D_X12_goesOn_3.at 43 rfl) (fun h89 e90 => ?_)
    replace T := T h89 e90
    refine J_iconst 357 rfl (D_X12_goesOn_3.at 44 rfl) ?_
    exact J_zret rfl (Or.inr rfl) (D_X12_goesOn_3.at 45 rfl) T
  replace T := T.2 c91
  refine J_iconst 336 rfl (D_X12_goesOn_3.at 29 rfl) ?_
  exact J_zret rfl (Or.inl rfl) (D_X12_goesOn_3.at 30 rfl) T
theorem l_X12_goesOn_221 {w : Wd} {h : Hp} {K : Int → Hp → Prop} (T : (0 ≤ ((h 68 2) - 1) ∧ ((h 68 2) - 1) < 1600) ∧ ((inR (h 69 ((h 68 2) - 1))) ∧ ((((h 69 ((h 68 2) - 1)) ≠ 43) → (L_X12_goesOn_243 w 2 h K)) ∧ (¬ ((h 69 ((h 68 2) - 1)) ≠ 43) → (L_X12_goesOn_243 w 1 h K))))) : L_X12_goesOn_221 w h K := by
  unfold L_X12_goesOn_221
  refine J_aload_n 222 rfl 0 0 rfl ⟨by decide, by decide⟩ (D_X12_goesOn_2.at 17 rfl) ?_
  refine J_getF (ov := 69) (dd := 1001) 225 rfl fl_12_7 rfl (by decide) rfl ob_68 (Ob.lt ob_68) (D_X12_goesOn_2.at 18 rfl) ?_
  refine J_aload_n 226 rfl 0 0 rfl ⟨by decide, by decide⟩ (D_X12_goesOn_2.at 19 rfl) ?_
  refine J_getI (z := (h 68 2)) 229 rfl fl_12_233 rfl ob_68 (Ob.lt ob_68) (D_X12_goesOn_2.at 20 rfl) rfl ?_
  refine J_iconst 230 rfl (D_X12_goesOn_2.at 21 rfl) ?_
  refine J_isub 231 rfl (D_X12_goesOn_2.at 22 rfl) ?_
  obtain ⟨s92, T⟩ := T
  refine J_iald 232 rfl ar_69 (Ar.lt ar_69) s92 (D_X12_goesOn_2.at 23 rfl) ?_
  refine J_bipush 234 rfl ⟨by decide, by decide⟩ (D_X12_goesOn_2.at 24 rfl) ?_
  obtain ⟨s93, T⟩ := T
  refine J_icmp_ne 237 rfl 241 s93 ⟨by decide, by decide⟩ (D_X12_goesOn_2.at 25 rfl) (by decide) (fun c94 => ?_) (fun c94 => ?_)
  · replace T := T.1 c94
    refine J_iconst 242 rfl (D_X12_goesOn_2.at 28 rfl) ?_
    refine J_istore_n (lv' := [(1, vI 2), (0, vR 68)]) 243 rfl 1 (by decide) rfl (D_X12_goesOn_2.at 29 rfl) ?_
    exact J_sub (lv' := [(0, vR 68), (1, vI 2)]) [1, 0] rfl T
  replace T := T.2 c94
  refine J_iconst 238 rfl (D_X12_goesOn_2.at 26 rfl) ?_
  refine J_goto 242 (D_X12_goesOn_2.at 27 rfl) (by decide) ?_
  refine J_istore_n (lv' := [(1, vI 1), (0, vR 68)]) 243 rfl 1 (by decide) rfl (D_X12_goesOn_2.at 29 rfl) ?_
  exact J_sub (lv' := [(0, vR 68), (1, vI 1)]) [1, 0] rfl T
theorem l_X12_goesOn_243 {w : Wd} {v1 : Int} {h : Hp} {K : Int → Hp → Prop} (T : C_X12_isOn w 3 h (fun r95 h96 => (r95 = 0 ∨ r95 = 1) → ((r95 ≠ 0) → (L_X12_goesOn_275 w v1 h96 K)) ∧ (¬ (r95 ≠ 0) → (C_X12_isOn w 4 h96 (fun r98 h99 => (r98 = 0 ∨ r98 = 1) → ((r98 ≠ 0) → (L_X12_goesOn_275 w v1 h99 K)) ∧ (¬ (r98 ≠ 0) → (C_X12_isOn w 1 h99 (fun r101 h102 => (r101 = 0 ∨ r101 = 1) → ((r101 ≠ 0) → (L_X12_goesOn_275 w v1 h102 K)) ∧ (¬ (r101 ≠ 0) → (C_X12_isOn w 2 h102 (fun r104 h105 => (r104 = 0 ∨ r104 = 1) → ((r104 = 0) → ((0 ≤ (h105 68 46) ∧ (h105 68 46) < 1700) ∧ (∀ h108 : Hp, h108 = hu h105 101 (h105 68 46) v1 → ∀ h110 : Hp, h110 = hu h108 68 46 ((h108 68 46) + 1) → K 1 h110))) ∧ (¬ (r104 = 0) → (L_X12_goesOn_275 w v1 h105 K))))))))))))) : L_X12_goesOn_243 w v1 h K := by
  unfold L_X12_goesOn_243
  refine J_aload_n 244 rfl 0 0 rfl ⟨by decide, by decide⟩ (D_X12_goesOn_2.at 30 rfl) ?_
  refine J_iconst 245 rfl (D_X12_goesOn_2.at 31 rfl) ?_
  refine J_callV (d' := 1) (sr := fun z => [vI z]) (as := [vI 3]) (st := []) (o := 68) 248 rfl ok_X12_isOn im_X12_isOn se_X12_isOn ml_12_384 isC_12 ob_68 (Ob.lt ob_68) rfl (by decide) ⟨Nat.le_refl _, Nat.le_refl _⟩ (Nat.le_of_ble_eq_true rfl) (D_X12_goesOn_2.at 32 rfl) (fun _ => rfl) T (fun r95 h96 T b97 => ?_)
  replace T := T b97
  refine J_if_ne 251 rfl 275 (inR_b b97) (D_X12_goesOn_2.at 33 rfl) (by decide) (fun c115 => ?_) (fun c115 => ?_)
  · replace T := T.1 c115
    exact T
  replace T := T.2 c115
  refine J_aload_n 252 rfl 0 0 rfl ⟨by decide, by decide⟩ (D_X12_goesOn_2.at 34 rfl) ?_
  refine J_iconst 253 rfl (D_X12_goesOn_2.at 35 rfl) ?_
  refine J_callV (d' := 1) (sr := fun z => [vI z]) (as := [vI 4]) (st := []) (o := 68) 256 rfl ok_X12_isOn im_X12_isOn se_X12_isOn ml_12_384 isC_12 ob_68 (Ob.lt ob_68) rfl (by decide) ⟨Nat.le_refl _, Nat.le_refl _⟩ (Nat.le_of_ble_eq_true rfl) (D_X12_goesOn_2.at 36 rfl) (fun _ => rfl) T (fun r98 h99 T b100 => ?_)
  replace T := T b100
  refine J_if_ne 259 rfl 275 (inR_b b100) (D_X12_goesOn_2.at 37 rfl) (by decide) (fun c114 => ?_) (fun c114 => ?_)
  · replace T := T.1 c114
    exact T
  replace T := T.2 c114
  refine J_aload_n 260 rfl 0 0 rfl ⟨by decide, by decide⟩ (D_X12_goesOn_2.at 38 rfl) ?_
  refine J_iconst 261 rfl (D_X12_goesOn_2.at 39 rfl) ?_
  refine J_callV (d' := 1) (sr := fun z => [vI z]) (as := [vI 1]) (st := []) (o := 68) 264 rfl ok_X12_isOn im_X12_isOn se_X12_isOn ml_12_384 isC_12 ob_68 (Ob.lt ob_68) rfl (by decide) ⟨Nat.le_refl _, Nat.le_refl _⟩ (Nat.le_of_ble_eq_true rfl) (D_X12_goesOn_2.at 40 rfl) (fun _ => rfl) T (fun r101 h102 T b103 => ?_)
  replace T := T b103
  refine J_if_ne 267 rfl 275 (inR_b b103) (D_X12_goesOn_2.at 41 rfl) (by decide) (fun c113 => ?_) (fun c113 => ?_)
  · replace T := T.1 c113
    exact T
  replace T := T.2 c113
  refine J_aload_n 268 rfl 0 0 rfl ⟨by decide, by decide⟩ (D_X12_goesOn_2.at 42 rfl) ?_
  refine J_iconst 269 rfl (D_X12_goesOn_2.at 43 rfl) ?_
  refine J_callV (d' := 1) (sr := fun z => [vI z]) (as := [vI 2]) (st := []) (o := 68) 272 rfl ok_X12_isOn im_X12_isOn se_X12_isOn ml_12_384 isC_12 ob_68 (Ob.lt ob_68) rfl (by decide) ⟨Nat.le_refl _, Nat.le_refl _⟩ (Nat.le_of_ble_eq_true rfl) (D_X12_goesOn_2.at 44 rfl) (fun _ => rfl) T (fun r104 h105 T b106 => ?_)
  replace T := T b106
  refine J_if_eq 275 rfl 282 (inR_b b106) (D_X12_goesOn_2.at 45 rfl) (by decide) (fun c112 => ?_) (fun c112 => ?_)
  · replace T := T.1 c112
    refine J_aload_n 283 rfl 0 0 rfl ⟨by decide, by decide⟩ (D_X12_goesOn_3.at 1 rfl) ?_
    refine J_getF (ov := 101) (dd := 1033) 286 rfl fl_12_112 rfl (by decide) rfl ob_68 (Ob.lt ob_68) (D_X12_goesOn_3.at 2 rfl) ?_
    refine J_aload_n 287 rfl 0 0 rfl ⟨by decide, by decide⟩ (D_X12_goesOn_3.at 3 rfl) ?_
    refine J_getI (z := (h105 68 46)) 290 rfl fl_12_315 rfl ob_68 (Ob.lt ob_68) (D_X12_goesOn_3.at 4 rfl) rfl ?_
    refine J_iload_n 291 rfl 1 1 rfl (D_X12_goesOn_3.at 5 rfl) ?_
    obtain ⟨s107, T⟩ := T
    refine J_iastH 292 rfl ar_101 (Ar.lt ar_101) s107 trivial (D_X12_goesOn_3.at 6 rfl) (fun h108 e109 => ?_)
    replace T := T h108 e109
    refine J_aload_n 293 rfl 0 0 rfl ⟨by decide, by decide⟩ (D_X12_goesOn_3.at 7 rfl) ?_
    refine J_dup 294 rfl rfl (D_X12_goesOn_3.at 8 rfl) ?_
    refine J_getI (z := (h108 68 46)) 297 rfl fl_12_315 rfl ob_68 (Ob.lt ob_68) (D_X12_goesOn_3.at 9 rfl) rfl ?_
    refine J_iconst 298 rfl (D_X12_goesOn_3.at 10 rfl) ?_
    refine J_iadd 299 rfl (D_X12_goesOn_3.at 11 rfl) ?_
    refine J_putI 302 rfl fl_12_315 rfl rfl ob_68 (Ob.lt ob_68) (D_X12_goesOn_3.at 12 rfl) (fun h110 e111 => ?_)
    replace T := T h110 e111
    refine J_iconst 303 rfl (D_X12_goesOn_3.at 13 rfl) ?_
    exact J_zret rfl (Or.inr rfl) (D_X12_goesOn_3.at 14 rfl) T
  replace T := T.2 c112
  exact T
theorem l_X12_goesOn_275 {w : Wd} {v1 : Int} {h : Hp} {K : Int → Hp → Prop} (T : C_X12_drops w h (fun _ h117 => L_X12_goesOn_243 w v1 h117 K)) : L_X12_goesOn_275 w v1 h K := by
  unfold L_X12_goesOn_275
  refine J_aload_n 276 rfl 0 0 rfl ⟨by decide, by decide⟩ (D_X12_goesOn_2.at 46 rfl) ?_
  refine J_callV (d' := 2) (sr := fun z => []) (as := []) (st := []) (o := 68) 279 rfl ok_X12_drops im_X12_drops se_X12_drops ml_12_372 isC_12 ob_68 (Ob.lt ob_68) rfl (by decide) ⟨Nat.le_refl _, Nat.le_refl _⟩ (Nat.le_of_ble_eq_true rfl) (D_X12_goesOn_2.at 47 rfl) (fun _ => rfl) T (fun r116 h117 T b118 => ?_)
  refine J_goto 243 (D_X12_goesOn_3.at 0 rfl) (by decide) ?_
  exact T
theorem l_X12_goesOn_136 {w : Wd} {h : Hp} {K : Int → Hp → Prop} (T : (0 ≤ ((h 68 2) - 1) ∧ ((h 68 2) - 1) < 1600) ∧ ((inR (h 69 ((h 68 2) - 1))) ∧ ((((h 69 ((h 68 2) - 1)) ≠ 42) → (L_X12_goesOn_158 w 4 h K)) ∧ (¬ ((h 69 ((h 68 2) - 1)) ≠ 42) → (L_X12_goesOn_158 w 3 h K))))) : L_X12_goesOn_136 w h K := by
  unfold L_X12_goesOn_136
  refine J_aload_n 137 rfl 0 0 rfl ⟨by decide, by decide⟩ (D_X12_goesOn_1.at 19 rfl) ?_
  refine J_getF (ov := 69) (dd := 1001) 140 rfl fl_12_7 rfl (by decide) rfl ob_68 (Ob.lt ob_68) (D_X12_goesOn_1.at 20 rfl) ?_
  refine J_aload_n 141 rfl 0 0 rfl ⟨by decide, by decide⟩ (D_X12_goesOn_1.at 21 rfl) ?_
  refine J_getI (z := (h 68 2)) 144 rfl fl_12_233 rfl ob_68 (Ob.lt ob_68) (D_X12_goesOn_1.at 22 rfl) rfl ?_
  refine J_iconst 145 rfl (D_X12_goesOn_1.at 23 rfl) ?_
  refine J_isub 146 rfl (D_X12_goesOn_1.at 24 rfl) ?_
  obtain ⟨s119, T⟩ := T
  refine J_iald 147 rfl ar_69 (Ar.lt ar_69) s119 (D_X12_goesOn_1.at 25 rfl) ?_
  refine J_bipush 149 rfl ⟨by decide, by decide⟩ (D_X12_goesOn_1.at 26 rfl) ?_
  obtain ⟨s120, T⟩ := T
  refine J_icmp_ne 152 rfl 156 s120 ⟨by decide, by decide⟩ (D_X12_goesOn_1.at 27 rfl) (by decide) (fun c121 => ?_) (fun c121 => ?_)
  · replace T := T.1 c121
    refine J_iconst 157 rfl (D_X12_goesOn_1.at 30 rfl) ?_
    refine J_istore_n (lv' := [(1, vI 4), (0, vR 68)]) 158 rfl 1 (by decide) rfl (D_X12_goesOn_1.at 31 rfl) ?_
    exact J_sub (lv' := [(0, vR 68), (1, vI 4)]) [1, 0] rfl T
  replace T := T.2 c121
  refine J_iconst 153 rfl (D_X12_goesOn_1.at 28 rfl) ?_
  refine J_goto 157 (D_X12_goesOn_1.at 29 rfl) (by decide) ?_
  refine J_istore_n (lv' := [(1, vI 3), (0, vR 68)]) 158 rfl 1 (by decide) rfl (D_X12_goesOn_1.at 31 rfl) ?_
  exact J_sub (lv' := [(0, vR 68), (1, vI 3)]) [1, 0] rfl T
theorem l_X12_goesOn_158 {w : Wd} {v1 : Int} {h : Hp} {K : Int → Hp → Prop} (T : C_X12_isOn w 3 h (fun r122 h123 => (r122 = 0 ∨ r122 = 1) → ((r122 ≠ 0) → (L_X12_goesOn_174 w v1 h123 K)) ∧ (¬ (r122 ≠ 0) → (C_X12_isOn w 4 h123 (fun r125 h126 => (r125 = 0 ∨ r125 = 1) → ((r125 = 0) → ((0 ≤ (h126 68 46) ∧ (h126 68 46) < 1700) ∧ (∀ h129 : Hp, h129 = hu h126 101 (h126 68 46) v1 → ∀ h131 : Hp, h131 = hu h129 68 46 ((h129 68 46) + 1) → K 1 h131))) ∧ (¬ (r125 = 0) → (L_X12_goesOn_174 w v1 h126 K))))))) : L_X12_goesOn_158 w v1 h K := by
  unfold L_X12_goesOn_158
  refine J_aload_n 159 rfl 0 0 rfl ⟨by decide, by decide⟩ (D_X12_goesOn_1.at 32 rfl) ?_
  refine J_iconst 160 rfl (D_X12_goesOn_1.at 33 rfl) ?_
  refine J_callV (d' := 1) (sr := fun z => [vI z]) (as := [vI 3]) (st := []) (o := 68) 163 rfl ok_X12_isOn im_X12_isOn se_X12_isOn ml_12_384 isC_12 ob_68 (Ob.lt ob_68) rfl (by decide) ⟨Nat.le_refl _, Nat.le_refl _⟩ (Nat.le_of_ble_eq_true rfl) (D_X12_goesOn_1.at 34 rfl) (fun _ => rfl) T (fun r122 h123 T b124 => ?_)
  replace T := T b124
  refine J_if_ne 166 rfl 174 (inR_b b124) (D_X12_goesOn_1.at 35 rfl) (by decide) (fun c134 => ?_) (fun c134 => ?_)
  · replace T := T.1 c134
    exact T
  replace T := T.2 c134
  refine J_aload_n 167 rfl 0 0 rfl ⟨by decide, by decide⟩ (D_X12_goesOn_1.at 36 rfl) ?_
  refine J_iconst 168 rfl (D_X12_goesOn_1.at 37 rfl) ?_
  refine J_callV (d' := 1) (sr := fun z => [vI z]) (as := [vI 4]) (st := []) (o := 68) 171 rfl ok_X12_isOn im_X12_isOn se_X12_isOn ml_12_384 isC_12 ob_68 (Ob.lt ob_68) rfl (by decide) ⟨Nat.le_refl _, Nat.le_refl _⟩ (Nat.le_of_ble_eq_true rfl) (D_X12_goesOn_1.at 38 rfl) (fun _ => rfl) T (fun r125 h126 T b127 => ?_)
  replace T := T b127
  refine J_if_eq 174 rfl 181 (inR_b b127) (D_X12_goesOn_1.at 39 rfl) (by decide) (fun c133 => ?_) (fun c133 => ?_)
  · replace T := T.1 c133
    refine J_aload_n 182 rfl 0 0 rfl ⟨by decide, by decide⟩ (D_X12_goesOn_1.at 43 rfl) ?_
    refine J_getF (ov := 101) (dd := 1033) 185 rfl fl_12_112 rfl (by decide) rfl ob_68 (Ob.lt ob_68) (D_X12_goesOn_1.at 44 rfl) ?_
    refine J_aload_n 186 rfl 0 0 rfl ⟨by decide, by decide⟩ (D_X12_goesOn_1.at 45 rfl) ?_
    refine J_getI (z := (h126 68 46)) 189 rfl fl_12_315 rfl ob_68 (Ob.lt ob_68) (D_X12_goesOn_1.at 46 rfl) rfl ?_
    refine J_iload_n 190 rfl 1 1 rfl (D_X12_goesOn_1.at 47 rfl) ?_
    obtain ⟨s128, T⟩ := T
    refine J_iastH 191 rfl ar_101 (Ar.lt ar_101) s128 trivial (D_X12_goesOn_2.at 0 rfl) (fun h129 e130 => ?_)
    replace T := T h129 e130
    refine J_aload_n 192 rfl 0 0 rfl ⟨by decide, by decide⟩ (D_X12_goesOn_2.at 1 rfl) ?_
    refine J_dup 193 rfl rfl (D_X12_goesOn_2.at 2 rfl) ?_
    refine J_getI (z := (h129 68 46)) 196 rfl fl_12_315 rfl ob_68 (Ob.lt ob_68) (D_X12_goesOn_2.at 3 rfl) rfl ?_
    refine J_iconst 197 rfl (D_X12_goesOn_2.at 4 rfl) ?_
    refine J_iadd 198 rfl (D_X12_goesOn_2.at 5 rfl) ?_
    refine J_putI 201 rfl fl_12_315 rfl rfl ob_68 (Ob.lt ob_68) (D_X12_goesOn_2.at 6 rfl) (fun h131 e132 => ?_)
    replace T := T h131 e132
    refine J_iconst 202 rfl (D_X12_goesOn_2.at 7 rfl) ?_
    exact J_zret rfl (Or.inr rfl) (D_X12_goesOn_2.at 8 rfl) T
  replace T := T.2 c133
  exact T
theorem l_X12_goesOn_174 {w : Wd} {v1 : Int} {h : Hp} {K : Int → Hp → Prop} (T : C_X12_drops w h (fun _ h136 => L_X12_goesOn_158 w v1 h136 K)) : L_X12_goesOn_174 w v1 h K := by
  unfold L_X12_goesOn_174
  refine J_aload_n 175 rfl 0 0 rfl ⟨by decide, by decide⟩ (D_X12_goesOn_1.at 40 rfl) ?_
  refine J_callV (d' := 2) (sr := fun z => []) (as := []) (st := []) (o := 68) 178 rfl ok_X12_drops im_X12_drops se_X12_drops ml_12_372 isC_12 ob_68 (Ob.lt ob_68) rfl (by decide) ⟨Nat.le_refl _, Nat.le_refl _⟩ (Nat.le_of_ble_eq_true rfl) (D_X12_goesOn_1.at 41 rfl) (fun _ => rfl) T (fun r135 h136 T b137 => ?_)
  refine J_goto 158 (D_X12_goesOn_1.at 42 rfl) (by decide) ?_
  exact T
theorem c_X12_areJoined {w : Wd} {a1 : Int} {h : Hp} {K : Int → Hp → Prop} (T : C_X12_isIsland w a1 h (fun r1 h2 => (r1 = 0 ∨ r1 = 1) → ((r1 = 0) → (K 0 h2)) ∧ (¬ (r1 = 0) → (C_X12_isIsland w (a1 + 1) h2 (fun r4 h5 => (r4 = 0 ∨ r4 = 1) → ((r4 = 0) → (K 0 h5)) ∧ (¬ (r4 = 0) → (C_X12_liesAll w a1 h5 (fun r7 h8 => C_X12_liesAll w (a1 + 1) h8 (fun r10 h11 => (inR (r7 + r10)) ∧ ((inR (h11 97 4)) ∧ ((((r7 + r10) < (h11 97 4)) → (K 0 h11)) ∧ (¬ ((r7 + r10) < (h11 97 4)) → (K 1 h11))))))))))))) : C_X12_areJoined w a1 h K := by
  refine CGm_of2 (by decide) (by decide) trivial (Nat.le_of_ble_eq_true rfl) ?_
  refine J_aload_n 1 rfl 0 0 rfl ⟨by decide, by decide⟩ (D_X12_areJoined_0.at 0 rfl) ?_
  refine J_iload_n 2 rfl 1 1 rfl (D_X12_areJoined_0.at 1 rfl) ?_
  refine J_callV (d' := 3) (sr := fun z => [vI z]) (as := [vI a1]) (st := []) (o := 68) 5 rfl ok_X12_isIsland im_X12_isIsland se_X12_isIsland ml_12_490 isC_12 ob_68 (Ob.lt ob_68) rfl (by decide) ⟨Nat.le_refl _, Nat.le_refl _⟩ (Nat.le_of_ble_eq_true rfl) (D_X12_areJoined_0.at 2 rfl) (fun _ => rfl) T (fun r1 h2 T b3 => ?_)
  replace T := T b3
  refine J_if_eq 8 rfl 43 (inR_b b3) (D_X12_areJoined_0.at 3 rfl) (by decide) (fun c17 => ?_) (fun c17 => ?_)
  · replace T := T.1 c17
    refine J_iconst 44 rfl (D_X12_areJoined_0.at 25 rfl) ?_
    exact J_zret rfl (Or.inl rfl) (D_X12_areJoined_0.at 26 rfl) T
  replace T := T.2 c17
  refine J_aload_n 9 rfl 0 0 rfl ⟨by decide, by decide⟩ (D_X12_areJoined_0.at 4 rfl) ?_
  refine J_iload_n 10 rfl 1 1 rfl (D_X12_areJoined_0.at 5 rfl) ?_
  refine J_iconst 11 rfl (D_X12_areJoined_0.at 6 rfl) ?_
  refine J_iadd 12 rfl (D_X12_areJoined_0.at 7 rfl) ?_
  refine J_callV (d' := 3) (sr := fun z => [vI z]) (as := [vI (a1 + 1)]) (st := []) (o := 68) 15 rfl ok_X12_isIsland im_X12_isIsland se_X12_isIsland ml_12_490 isC_12 ob_68 (Ob.lt ob_68) rfl (by decide) ⟨Nat.le_refl _, Nat.le_refl _⟩ (Nat.le_of_ble_eq_true rfl) (D_X12_areJoined_0.at 8 rfl) (fun _ => rfl) T (fun r4 h5 T b6 => ?_)
  replace T := T b6
  refine J_if_eq 18 rfl 43 (inR_b b6) (D_X12_areJoined_0.at 9 rfl) (by decide) (fun c16 => ?_) (fun c16 => ?_)
  · replace T := T.1 c16
    refine J_iconst 44 rfl (D_X12_areJoined_0.at 25 rfl) ?_
    exact J_zret rfl (Or.inl rfl) (D_X12_areJoined_0.at 26 rfl) T
  replace T := T.2 c16
  refine J_aload_n 19 rfl 0 0 rfl ⟨by decide, by decide⟩ (D_X12_areJoined_0.at 10 rfl) ?_
  refine J_iload_n 20 rfl 1 1 rfl (D_X12_areJoined_0.at 11 rfl) ?_
  refine J_callV (d' := 2) (sr := fun z => [vI z]) (as := [vI a1]) (st := []) (o := 68) 23 rfl ok_X12_liesAll im_X12_liesAll se_X12_liesAll ml_12_456 isC_12 ob_68 (Ob.lt ob_68) rfl (by decide) ⟨Nat.le_refl _, Nat.le_refl _⟩ (Nat.le_of_ble_eq_true rfl) (D_X12_areJoined_0.at 12 rfl) (fun _ => rfl) T (fun r7 h8 T b9 => ?_)
  refine J_aload_n 24 rfl 0 0 rfl ⟨by decide, by decide⟩ (D_X12_areJoined_0.at 13 rfl) ?_
  refine J_iload_n 25 rfl 1 1 rfl (D_X12_areJoined_0.at 14 rfl) ?_
  refine J_iconst 26 rfl (D_X12_areJoined_0.at 15 rfl) ?_
  refine J_iadd 27 rfl (D_X12_areJoined_0.at 16 rfl) ?_
  refine J_callV (d' := 2) (sr := fun z => [vI z, vI r7]) (as := [vI (a1 + 1)]) (st := [vI r7]) (o := 68) 30 rfl ok_X12_liesAll im_X12_liesAll se_X12_liesAll ml_12_456 isC_12 ob_68 (Ob.lt ob_68) rfl (by decide) ⟨Nat.le_refl _, Nat.le_refl _⟩ (Nat.le_of_ble_eq_true rfl) (D_X12_areJoined_0.at 17 rfl) (fun _ => rfl) T (fun r10 h11 T b12 => ?_)
  refine J_iadd 31 rfl (D_X12_areJoined_0.at 18 rfl) ?_
  refine J_aload_n 32 rfl 0 0 rfl ⟨by decide, by decide⟩ (D_X12_areJoined_0.at 19 rfl) ?_
  refine J_iconst 33 rfl (D_X12_areJoined_0.at 20 rfl) ?_
  refine J_callV (d' := 1) (K1 := fun z h0 => rok (some .int) z → JG w true m_X12_areJoined 4 NT NT 36 [(0, vR 68), (1, vI a1)] [vI z, vI (r7 + r10)] h0 _) (sr := fun z => [vI z, vI (r7 + r10)]) (as := [vI 1]) (st := [vI (r7 + r10)]) (o := 68) 36 rfl ok_X12_settingOf im_X12_settingOf se_X12_settingOf ml_12_462 isC_12 ob_68 (Ob.lt ob_68) rfl (by decide) ⟨Nat.le_refl _, Nat.le_refl _⟩ (Nat.le_of_ble_eq_true rfl) (D_X12_areJoined_0.at 21 rfl) (fun _ => rfl) (CGm_of2 (by decide) (by decide) trivial (Nat.le_of_ble_eq_true rfl) ?_) (fun _ _ kq hb => kq hb)
  refine J_aload_n 1 rfl 0 0 rfl ⟨by decide, by decide⟩ (D_X12_settingOf_0.at 0 rfl) ?_
  refine J_getF (ov := 97) (dd := 1029) 4 rfl fl_12_100 rfl (by decide) rfl ob_68 (Ob.lt ob_68) (D_X12_settingOf_0.at 1 rfl) ?_
  refine J_iconst 5 rfl (D_X12_settingOf_0.at 2 rfl) ?_
  refine J_iload_n 6 rfl 1 1 rfl (D_X12_settingOf_0.at 3 rfl) ?_
  refine J_iadd 7 rfl (D_X12_settingOf_0.at 4 rfl) ?_
  refine J_iald 8 rfl ar_97 (Ar.lt ar_97) ⟨by decide, by decide⟩ (D_X12_settingOf_0.at 5 rfl) ?_
  refine J_iret rfl (D_X12_settingOf_0.at 6 rfl) (fun _ => ?_)
  obtain ⟨s13, T⟩ := T
  obtain ⟨s14, T⟩ := T
  refine J_icmp_lt 39 rfl 43 s13 s14 (D_X12_areJoined_0.at 22 rfl) (by decide) (fun c15 => ?_) (fun c15 => ?_)
  · replace T := T.1 c15
    refine J_iconst 44 rfl (D_X12_areJoined_0.at 25 rfl) ?_
    exact J_zret rfl (Or.inl rfl) (D_X12_areJoined_0.at 26 rfl) T
  replace T := T.2 c15
  refine J_iconst 40 rfl (D_X12_areJoined_0.at 23 rfl) ?_
  refine J_goto 44 (D_X12_areJoined_0.at 24 rfl) (by decide) ?_
  exact J_zret rfl (Or.inr rfl) (D_X12_areJoined_0.at 26 rfl) T
theorem c_X12_isCut {w : Wd} {a1 a2 a3 : Int} {h : Hp} {K : Int → Hp → Prop} (T : (0 ≤ ((50 + (5 * a1)) + 2) ∧ ((50 + (5 * a1)) + 2) < 100) ∧ ((inR (h 96 ((50 + (5 * a1)) + 2))) ∧ ((inR a2) ∧ ((((h 96 ((50 + (5 * a1)) + 2)) ≠ a2) → (K 0 h)) ∧ (¬ ((h 96 ((50 + (5 * a1)) + 2)) ≠ a2) → ((inR (h 98 2)) ∧ ((((h 98 2) ≠ (-1)) → ((0 ≤ a1 ∧ a1 < 10) ∧ (C_X12_asksOf w a1 a2 a3 (h 106 a1) h (fun _ h7 => (0 ≤ a1 ∧ a1 < 10) ∧ (C_X12_told w 0 (h7 106 a1) h7 (fun r10 h11 => (0 ≤ a1 ∧ a1 < 10) ∧ ((0 ≤ a1 ∧ a1 < 10) ∧ (∀ h15 : Hp, h15 = hu h11 106 a1 ((h11 106 a1) - r10) → (0 ≤ a1 ∧ a1 < 10) ∧ ((0 ≤ a1 ∧ a1 < 10) ∧ (∀ h19 : Hp, h19 = hu h15 107 a1 ((h15 107 a1) + r10) → (0 ≤ a1 ∧ a1 < 10) ∧ ((0 ≤ a1 ∧ a1 < 10) ∧ (∀ h23 : Hp, h23 = hu h19 108 a1 ((h19 108 a1) + r10) → K 0 h23)))))))))))) ∧ (¬ ((h 98 2) ≠ (-1)) → (K 0 h))))))))) : C_X12_isCut w a1 a2 a3 h K := by
  refine CGm_of2 (by decide) (by decide) trivial (Nat.le_of_ble_eq_true rfl) ?_
  refine J_aload_n 1 rfl 0 0 rfl ⟨by decide, by decide⟩ (D_X12_isCut_0.at 0 rfl) ?_
  refine J_iload_n 2 rfl 1 1 rfl (D_X12_isCut_0.at 1 rfl) ?_
  refine J_iconst 3 rfl (D_X12_isCut_0.at 2 rfl) ?_
  refine J_callV (d' := 1) (K1 := fun z h0 => rok (some .int) z → JG w true m_X12_isCut 4 NT NT 6 [(0, vR 68), (1, vI a1), (2, vI a2), (3, vI a3)] [vI z] h0 _) (sr := fun z => [vI z]) (as := [vI a1, vI 2]) (st := []) (o := 68) 6 rfl ok_X12_bankOf im_X12_bankOf se_X12_bankOf ml_12_430 isC_12 ob_68 (Ob.lt ob_68) rfl (by decide) ⟨Nat.le_refl _, Nat.le_refl _⟩ (Nat.le_of_ble_eq_true rfl) (D_X12_isCut_0.at 3 rfl) (fun _ => rfl) (CGm_of2 (by decide) (by decide) trivial (Nat.le_of_ble_eq_true rfl) ?_) (fun _ _ kq hb => kq hb)
  refine J_aload_n 1 rfl 0 0 rfl ⟨by decide, by decide⟩ (D_X12_bankOf_0.at 0 rfl) ?_
  refine J_getF (ov := 96) (dd := 1028) 4 rfl fl_12_97 rfl (by decide) rfl ob_68 (Ob.lt ob_68) (D_X12_bankOf_0.at 1 rfl) ?_
  refine J_bipush 6 rfl ⟨by decide, by decide⟩ (D_X12_bankOf_0.at 2 rfl) ?_
  refine J_iconst 7 rfl (D_X12_bankOf_0.at 3 rfl) ?_
  refine J_iload_n 8 rfl 1 1 rfl (D_X12_bankOf_0.at 4 rfl) ?_
  refine J_imul 9 rfl (D_X12_bankOf_0.at 5 rfl) ?_
  refine J_iadd 10 rfl (D_X12_bankOf_0.at 6 rfl) ?_
  refine J_iload_n 11 rfl 2 2 rfl (D_X12_bankOf_0.at 7 rfl) ?_
  refine J_iadd 12 rfl (D_X12_bankOf_0.at 8 rfl) ?_
  obtain ⟨s1, T⟩ := T
  refine J_iald 13 rfl ar_96 (Ar.lt ar_96) s1 (D_X12_bankOf_0.at 9 rfl) ?_
  refine J_iret rfl (D_X12_bankOf_0.at 10 rfl) (fun _ => ?_)
  refine J_iload_n 7 rfl 2 2 rfl (D_X12_isCut_0.at 4 rfl) ?_
  obtain ⟨s2, T⟩ := T
  obtain ⟨s3, T⟩ := T
  refine J_icmp_ne 10 rfl 20 s2 s3 (D_X12_isCut_0.at 5 rfl) (by decide) (fun c26 => ?_) (fun c26 => ?_)
  · replace T := T.1 c26
    exact J_vret rfl (D_X12_isCut_0.at 12 rfl) T
  replace T := T.2 c26
  refine J_aload_n 11 rfl 0 0 rfl ⟨by decide, by decide⟩ (D_X12_isCut_0.at 6 rfl) ?_
  refine J_getF (ov := 98) (dd := 1030) 14 rfl fl_12_103 rfl (by decide) rfl ob_68 (Ob.lt ob_68) (D_X12_isCut_0.at 7 rfl) ?_
  refine J_iconst 15 rfl (D_X12_isCut_0.at 8 rfl) ?_
  refine J_iald 16 rfl ar_98 (Ar.lt ar_98) ⟨by decide, by decide⟩ (D_X12_isCut_0.at 9 rfl) ?_
  refine J_iconst 17 rfl (D_X12_isCut_0.at 10 rfl) ?_
  obtain ⟨s4, T⟩ := T
  refine J_icmp_ne 20 rfl 21 s4 ⟨by decide, by decide⟩ (D_X12_isCut_0.at 11 rfl) (by decide) (fun c25 => ?_) (fun c25 => ?_)
  · replace T := T.1 c25
    refine J_aload_n 22 rfl 0 0 rfl ⟨by decide, by decide⟩ (D_X12_isCut_0.at 13 rfl) ?_
    refine J_iload_n 23 rfl 1 1 rfl (D_X12_isCut_0.at 14 rfl) ?_
    refine J_iload_n 24 rfl 2 2 rfl (D_X12_isCut_0.at 15 rfl) ?_
    refine J_iload_n 25 rfl 3 3 rfl (D_X12_isCut_0.at 16 rfl) ?_
    refine J_aload_n 26 rfl 0 0 rfl ⟨by decide, by decide⟩ (D_X12_isCut_0.at 17 rfl) ?_
    refine J_getF (ov := 106) (dd := 1038) 29 rfl fl_12_127 rfl (by decide) rfl ob_68 (Ob.lt ob_68) (D_X12_isCut_0.at 18 rfl) ?_
    refine J_iload_n 30 rfl 1 1 rfl (D_X12_isCut_0.at 19 rfl) ?_
    obtain ⟨s5, T⟩ := T
    refine J_iald 31 rfl ar_106 (Ar.lt ar_106) s5 (D_X12_isCut_0.at 20 rfl) ?_
    refine J_callV (d' := 2) (sr := fun z => []) (as := [vI a1, vI a2, vI a3, vI (h 106 a1)]) (st := []) (o := 68) 34 rfl ok_X12_asksOf im_X12_asksOf se_X12_asksOf ml_12_433 isC_12 ob_68 (Ob.lt ob_68) rfl (by decide) ⟨Nat.le_refl _, Nat.le_refl _⟩ (Nat.le_of_ble_eq_true rfl) (D_X12_isCut_0.at 21 rfl) (fun _ => rfl) T (fun r6 h7 T b8 => ?_)
    refine J_aload_n 35 rfl 0 0 rfl ⟨by decide, by decide⟩ (D_X12_isCut_0.at 22 rfl) ?_
    refine J_iconst 36 rfl (D_X12_isCut_0.at 23 rfl) ?_
    refine J_aload_n 37 rfl 0 0 rfl ⟨by decide, by decide⟩ (D_X12_isCut_0.at 24 rfl) ?_
    refine J_getF (ov := 106) (dd := 1038) 40 rfl fl_12_127 rfl (by decide) rfl ob_68 (Ob.lt ob_68) (D_X12_isCut_0.at 25 rfl) ?_
    refine J_iload_n 41 rfl 1 1 rfl (D_X12_isCut_0.at 26 rfl) ?_
    obtain ⟨s9, T⟩ := T
    refine J_iald 42 rfl ar_106 (Ar.lt ar_106) s9 (D_X12_isCut_0.at 27 rfl) ?_
    refine J_callV (d' := 3) (sr := fun z => [vI z]) (as := [vI 0, vI (h7 106 a1)]) (st := []) (o := 68) 45 rfl ok_X12_told im_X12_told se_X12_told ml_12_437 isC_12 ob_68 (Ob.lt ob_68) rfl (by decide) ⟨Nat.le_refl _, Nat.le_refl _⟩ (Nat.le_of_ble_eq_true rfl) (D_X12_isCut_0.at 28 rfl) (fun _ => rfl) T (fun r10 h11 T b12 => ?_)
    refine J_istore (lv' := [(4, vI r10), (0, vR 68), (1, vI a1), (2, vI a2), (3, vI a3)]) 47 rfl 4 (by decide) rfl (D_X12_isCut_0.at 29 rfl) ?_
    refine J_aload_n 48 rfl 0 1 rfl ⟨by decide, by decide⟩ (D_X12_isCut_0.at 30 rfl) ?_
    refine J_getF (ov := 106) (dd := 1038) 51 rfl fl_12_127 rfl (by decide) rfl ob_68 (Ob.lt ob_68) (D_X12_isCut_0.at 31 rfl) ?_
    refine J_iload_n 52 rfl 1 2 rfl (D_X12_isCut_0.at 32 rfl) ?_
    refine J_dup2 53 rfl rfl rfl (D_X12_isCut_0.at 33 rfl) ?_
    obtain ⟨s13, T⟩ := T
    refine J_iald 54 rfl ar_106 (Ar.lt ar_106) s13 (D_X12_isCut_0.at 34 rfl) ?_
    refine J_iload 56 rfl 4 0 rfl (D_X12_isCut_0.at 35 rfl) ?_
    refine J_isub 57 rfl (D_X12_isCut_0.at 36 rfl) ?_
    obtain ⟨s14, T⟩ := T
    refine J_iastH 58 rfl ar_106 (Ar.lt ar_106) s14 trivial (D_X12_isCut_0.at 37 rfl) (fun h15 e16 => ?_)
    replace T := T h15 e16
    refine J_aload_n 59 rfl 0 1 rfl ⟨by decide, by decide⟩ (D_X12_isCut_0.at 38 rfl) ?_
    refine J_getF (ov := 107) (dd := 1039) 62 rfl fl_12_130 rfl (by decide) rfl ob_68 (Ob.lt ob_68) (D_X12_isCut_0.at 39 rfl) ?_
    refine J_iload_n 63 rfl 1 2 rfl (D_X12_isCut_0.at 40 rfl) ?_
    refine J_dup2 64 rfl rfl rfl (D_X12_isCut_0.at 41 rfl) ?_
    obtain ⟨s17, T⟩ := T
    refine J_iald 65 rfl ar_107 (Ar.lt ar_107) s17 (D_X12_isCut_0.at 42 rfl) ?_
    refine J_iload 67 rfl 4 0 rfl (D_X12_isCut_0.at 43 rfl) ?_
    refine J_iadd 68 rfl (D_X12_isCut_0.at 44 rfl) ?_
    obtain ⟨s18, T⟩ := T
    refine J_iastH 69 rfl ar_107 (Ar.lt ar_107) s18 trivial (D_X12_isCut_0.at 45 rfl) (fun h19 e20 => ?_)
    replace T := T h19 e20
    refine J_aload_n 70 rfl 0 1 rfl ⟨by decide, by decide⟩ (D_X12_isCut_0.at 46 rfl) ?_
    refine J_getF (ov := 108) (dd := 1040) 73 rfl fl_12_133 rfl (by decide) rfl ob_68 (Ob.lt ob_68) (D_X12_isCut_0.at 47 rfl) ?_
    refine J_iload_n 74 rfl 1 2 rfl (D_X12_isCut_1.at 0 rfl) ?_
    refine J_dup2 75 rfl rfl rfl (D_X12_isCut_1.at 1 rfl) ?_
    obtain ⟨s21, T⟩ := T
    refine J_iald 76 rfl ar_108 (Ar.lt ar_108) s21 (D_X12_isCut_1.at 2 rfl) ?_
    refine J_iload 78 rfl 4 0 rfl (D_X12_isCut_1.at 3 rfl) ?_
    refine J_iadd 79 rfl (D_X12_isCut_1.at 4 rfl) ?_
    obtain ⟨s22, T⟩ := T
    refine J_iastH 80 rfl ar_108 (Ar.lt ar_108) s22 trivial (D_X12_isCut_1.at 5 rfl) (fun h23 e24 => ?_)
    replace T := T h23 e24
    exact J_vret rfl (D_X12_isCut_1.at 6 rfl) T
  replace T := T.2 c25
  exact J_vret rfl (D_X12_isCut_0.at 12 rfl) T
theorem c_X12_settlesOf {w : Wd} {a1 a2 a3 : Int} {h : Hp} {K : Int → Hp → Prop} (T : (0 ≤ a1 ∧ a1 < 10) ∧ ((inR (h 108 a1)) ∧ ((((h 108 a1) ≠ 0) → ((inR (h 98 3)) ∧ ((((h 98 3) ≠ (-1)) → ((0 ≤ a1 ∧ a1 < 10) ∧ (C_X12_asksOf w a1 a2 a3 (h 108 a1) h (fun _ h6 => (0 ≤ a1 ∧ a1 < 10) ∧ (C_X12_told w 1 (h6 108 a1) h6 (fun r9 h10 => K r9 h10)))))) ∧ (¬ ((h 98 3) ≠ (-1)) → ((0 ≤ ((50 + (5 * a1)) + 4) ∧ ((50 + (5 * a1)) + 4) < 100) ∧ ((0 ≤ (8 + a2) ∧ (8 + a2) < 16) ∧ ((0 ≤ a2 ∧ a2 < 8) ∧ ((inR ((a3 + (h 95 (8 + a2))) - (3 * (h 105 a2)))) ∧ (((((a3 + (h 95 (8 + a2))) - (3 * (h 105 a2))) ≥ 0) → ((inR (h 96 ((50 + (5 * a1)) + 4))) ∧ ((inR ((a3 + (h 95 (8 + a2))) - (3 * (h 105 a2)))) ∧ ((((h 96 ((50 + (5 * a1)) + 4)) ≤ ((a3 + (h 95 (8 + a2))) - (3 * (h 105 a2)))) → (K 0 h)) ∧ (¬ ((h 96 ((50 + (5 * a1)) + 4)) ≤ ((a3 + (h 95 (8 + a2))) - (3 * (h 105 a2)))) → ((0 ≤ a1 ∧ a1 < 10) ∧ (K (h 108 a1) h))))))) ∧ (¬ (((a3 + (h 95 (8 + a2))) - (3 * (h 105 a2))) ≥ 0) → ((inR (h 96 ((50 + (5 * a1)) + 4))) ∧ ((((h 96 ((50 + (5 * a1)) + 4)) ≤ 0) → (K 0 h)) ∧ (¬ ((h 96 ((50 + (5 * a1)) + 4)) ≤ 0) → ((0 ≤ a1 ∧ a1 < 10) ∧ (K (h 108 a1) h))))))))))))))) ∧ (¬ ((h 108 a1) ≠ 0) → (K 0 h))))) : C_X12_settlesOf w a1 a2 a3 h K := by
  refine CGm_of2 (by decide) (by decide) trivial (Nat.le_of_ble_eq_true rfl) ?_
  refine J_aload_n 1 rfl 0 0 rfl ⟨by decide, by decide⟩ (D_X12_settlesOf_0.at 0 rfl) ?_
  refine J_getF (ov := 108) (dd := 1040) 4 rfl fl_12_133 rfl (by decide) rfl ob_68 (Ob.lt ob_68) (D_X12_settlesOf_0.at 1 rfl) ?_
  refine J_iload_n 5 rfl 1 1 rfl (D_X12_settlesOf_0.at 2 rfl) ?_
  obtain ⟨s1, T⟩ := T
  refine J_iald 6 rfl ar_108 (Ar.lt ar_108) s1 (D_X12_settlesOf_0.at 3 rfl) ?_
  obtain ⟨s2, T⟩ := T
  refine J_if_ne 9 rfl 11 s2 (D_X12_settlesOf_0.at 4 rfl) (by decide) (fun c25 => ?_) (fun c25 => ?_)
  · replace T := T.1 c25
    refine J_aload_n 12 rfl 0 0 rfl ⟨by decide, by decide⟩ (D_X12_settlesOf_0.at 7 rfl) ?_
    refine J_getF (ov := 98) (dd := 1030) 15 rfl fl_12_103 rfl (by decide) rfl ob_68 (Ob.lt ob_68) (D_X12_settlesOf_0.at 8 rfl) ?_
    refine J_iconst 16 rfl (D_X12_settlesOf_0.at 9 rfl) ?_
    refine J_iald 17 rfl ar_98 (Ar.lt ar_98) ⟨by decide, by decide⟩ (D_X12_settlesOf_0.at 10 rfl) ?_
    refine J_iconst 18 rfl (D_X12_settlesOf_0.at 11 rfl) ?_
    obtain ⟨s3, T⟩ := T
    refine J_icmp_ne 21 rfl 47 s3 ⟨by decide, by decide⟩ (D_X12_settlesOf_0.at 12 rfl) (by decide) (fun c24 => ?_) (fun c24 => ?_)
    · replace T := T.1 c24
      refine J_aload_n 48 rfl 0 0 rfl ⟨by decide, by decide⟩ (D_X12_settlesOf_0.at 29 rfl) ?_
      refine J_iload_n 49 rfl 1 1 rfl (D_X12_settlesOf_0.at 30 rfl) ?_
      refine J_iload_n 50 rfl 2 2 rfl (D_X12_settlesOf_0.at 31 rfl) ?_
      refine J_iload_n 51 rfl 3 3 rfl (D_X12_settlesOf_0.at 32 rfl) ?_
      refine J_aload_n 52 rfl 0 0 rfl ⟨by decide, by decide⟩ (D_X12_settlesOf_0.at 33 rfl) ?_
      refine J_getF (ov := 108) (dd := 1040) 55 rfl fl_12_133 rfl (by decide) rfl ob_68 (Ob.lt ob_68) (D_X12_settlesOf_0.at 34 rfl) ?_
      refine J_iload_n 56 rfl 1 1 rfl (D_X12_settlesOf_0.at 35 rfl) ?_
      obtain ⟨s4, T⟩ := T
      refine J_iald 57 rfl ar_108 (Ar.lt ar_108) s4 (D_X12_settlesOf_0.at 36 rfl) ?_
      refine J_callV (d' := 2) (sr := fun z => []) (as := [vI a1, vI a2, vI a3, vI (h 108 a1)]) (st := []) (o := 68) 60 rfl ok_X12_asksOf im_X12_asksOf se_X12_asksOf ml_12_433 isC_12 ob_68 (Ob.lt ob_68) rfl (by decide) ⟨Nat.le_refl _, Nat.le_refl _⟩ (Nat.le_of_ble_eq_true rfl) (D_X12_settlesOf_0.at 37 rfl) (fun _ => rfl) T (fun r5 h6 T b7 => ?_)
      refine J_aload_n 61 rfl 0 0 rfl ⟨by decide, by decide⟩ (D_X12_settlesOf_0.at 38 rfl) ?_
      refine J_iconst 62 rfl (D_X12_settlesOf_0.at 39 rfl) ?_
      refine J_aload_n 63 rfl 0 0 rfl ⟨by decide, by decide⟩ (D_X12_settlesOf_0.at 40 rfl) ?_
      refine J_getF (ov := 108) (dd := 1040) 66 rfl fl_12_133 rfl (by decide) rfl ob_68 (Ob.lt ob_68) (D_X12_settlesOf_0.at 41 rfl) ?_
      refine J_iload_n 67 rfl 1 1 rfl (D_X12_settlesOf_0.at 42 rfl) ?_
      obtain ⟨s8, T⟩ := T
      refine J_iald 68 rfl ar_108 (Ar.lt ar_108) s8 (D_X12_settlesOf_0.at 43 rfl) ?_
      refine J_callV (d' := 3) (sr := fun z => [vI z]) (as := [vI 1, vI (h6 108 a1)]) (st := []) (o := 68) 71 rfl ok_X12_told im_X12_told se_X12_told ml_12_437 isC_12 ob_68 (Ob.lt ob_68) rfl (by decide) ⟨Nat.le_refl _, Nat.le_refl _⟩ (Nat.le_of_ble_eq_true rfl) (D_X12_settlesOf_0.at 44 rfl) (fun _ => rfl) T (fun r9 h10 T b11 => ?_)
      exact J_iret rfl (D_X12_settlesOf_0.at 45 rfl) T
    replace T := T.2 c24
    refine J_aload_n 22 rfl 0 0 rfl ⟨by decide, by decide⟩ (D_X12_settlesOf_0.at 13 rfl) ?_
    refine J_iload_n 23 rfl 1 1 rfl (D_X12_settlesOf_0.at 14 rfl) ?_
    refine J_iconst 24 rfl (D_X12_settlesOf_0.at 15 rfl) ?_
    refine J_callV (d' := 1) (K1 := fun z h0 => rok (some .int) z → JG w true m_X12_settlesOf 4 NT NT 27 [(0, vR 68), (1, vI a1), (2, vI a2), (3, vI a3)] [vI z] h0 _) (sr := fun z => [vI z]) (as := [vI a1, vI 4]) (st := []) (o := 68) 27 rfl ok_X12_bankOf im_X12_bankOf se_X12_bankOf ml_12_430 isC_12 ob_68 (Ob.lt ob_68) rfl (by decide) ⟨Nat.le_refl _, Nat.le_refl _⟩ (Nat.le_of_ble_eq_true rfl) (D_X12_settlesOf_0.at 16 rfl) (fun _ => rfl) (CGm_of2 (by decide) (by decide) trivial (Nat.le_of_ble_eq_true rfl) ?_) (fun _ _ kq hb => kq hb)
    refine J_aload_n 1 rfl 0 0 rfl ⟨by decide, by decide⟩ (D_X12_bankOf_0.at 0 rfl) ?_
    refine J_getF (ov := 96) (dd := 1028) 4 rfl fl_12_97 rfl (by decide) rfl ob_68 (Ob.lt ob_68) (D_X12_bankOf_0.at 1 rfl) ?_
    refine J_bipush 6 rfl ⟨by decide, by decide⟩ (D_X12_bankOf_0.at 2 rfl) ?_
    refine J_iconst 7 rfl (D_X12_bankOf_0.at 3 rfl) ?_
    refine J_iload_n 8 rfl 1 1 rfl (D_X12_bankOf_0.at 4 rfl) ?_
    refine J_imul 9 rfl (D_X12_bankOf_0.at 5 rfl) ?_
    refine J_iadd 10 rfl (D_X12_bankOf_0.at 6 rfl) ?_
    refine J_iload_n 11 rfl 2 2 rfl (D_X12_bankOf_0.at 7 rfl) ?_
    refine J_iadd 12 rfl (D_X12_bankOf_0.at 8 rfl) ?_
    obtain ⟨s12, T⟩ := T
    refine J_iald 13 rfl ar_96 (Ar.lt ar_96) s12 (D_X12_bankOf_0.at 9 rfl) ?_
    refine J_iret rfl (D_X12_bankOf_0.at 10 rfl) (fun _ => ?_)
    refine J_aload_n 28 rfl 0 0 rfl ⟨by decide, by decide⟩ (D_X12_settlesOf_0.at 17 rfl) ?_
    refine J_iload_n 29 rfl 2 2 rfl (D_X12_settlesOf_0.at 18 rfl) ?_
    refine J_iload_n 30 rfl 3 3 rfl (D_X12_settlesOf_0.at 19 rfl) ?_
    refine J_callV (d' := 1) (K1 := fun z h0 => rok (some .int) z → JG w true m_X12_settlesOf 4 NT NT 33 [(0, vR 68), (1, vI a1), (2, vI a2), (3, vI a3)] [vI z, vI (h 96 ((50 + (5 * a1)) + 4))] h0 _) (sr := fun z => [vI z, vI (h 96 ((50 + (5 * a1)) + 4))]) (as := [vI a2, vI a3]) (st := [vI (h 96 ((50 + (5 * a1)) + 4))]) (o := 68) 33 rfl ok_X12_flowOf im_X12_flowOf se_X12_flowOf ml_12_427 isC_12 ob_68 (Ob.lt ob_68) rfl (by decide) ⟨Nat.le_refl _, Nat.le_refl _⟩ (Nat.le_of_ble_eq_true rfl) (D_X12_settlesOf_0.at 20 rfl) (fun _ => rfl) (CGm_of2 (by decide) (by decide) trivial (Nat.le_of_ble_eq_true rfl) ?_) (fun _ _ kq hb => kq hb)
    refine J_iload_n 1 rfl 2 2 rfl (D_X12_flowOf_0.at 0 rfl) ?_
    refine J_aload_n 2 rfl 0 0 rfl ⟨by decide, by decide⟩ (D_X12_flowOf_0.at 1 rfl) ?_
    refine J_getF (ov := 95) (dd := 1027) 5 rfl fl_12_94 rfl (by decide) rfl ob_68 (Ob.lt ob_68) (D_X12_flowOf_0.at 2 rfl) ?_
    refine J_bipush 7 rfl ⟨by decide, by decide⟩ (D_X12_flowOf_0.at 3 rfl) ?_
    refine J_iload_n 8 rfl 1 1 rfl (D_X12_flowOf_0.at 4 rfl) ?_
    refine J_iadd 9 rfl (D_X12_flowOf_0.at 5 rfl) ?_
    obtain ⟨s13, T⟩ := T
    refine J_iald 10 rfl ar_95 (Ar.lt ar_95) s13 (D_X12_flowOf_0.at 6 rfl) ?_
    refine J_iadd 11 rfl (D_X12_flowOf_0.at 7 rfl) ?_
    refine J_iconst 12 rfl (D_X12_flowOf_0.at 8 rfl) ?_
    refine J_aload_n 13 rfl 0 0 rfl ⟨by decide, by decide⟩ (D_X12_flowOf_0.at 9 rfl) ?_
    refine J_getF (ov := 105) (dd := 1037) 16 rfl fl_12_124 rfl (by decide) rfl ob_68 (Ob.lt ob_68) (D_X12_flowOf_0.at 10 rfl) ?_
    refine J_iload_n 17 rfl 1 1 rfl (D_X12_flowOf_0.at 11 rfl) ?_
    obtain ⟨s14, T⟩ := T
    refine J_iald 18 rfl ar_105 (Ar.lt ar_105) s14 (D_X12_flowOf_0.at 12 rfl) ?_
    refine J_imul 19 rfl (D_X12_flowOf_0.at 13 rfl) ?_
    refine J_isub 20 rfl (D_X12_flowOf_0.at 14 rfl) ?_
    refine J_istore_n (lv' := [(3, vI ((a3 + (h 95 (8 + a2))) - (3 * (h 105 a2)))), (0, vR 68), (1, vI a2), (2, vI a3)]) 21 rfl 3 (by decide) rfl (D_X12_flowOf_0.at 15 rfl) ?_
    refine J_iload_n 22 rfl 3 0 rfl (D_X12_flowOf_0.at 16 rfl) ?_
    obtain ⟨s15, T⟩ := T
    refine J_if_ge 25 rfl 29 s15 (D_X12_flowOf_0.at 17 rfl) (by decide) (fun c23 => ?_) (fun c23 => ?_)
    · replace T := T.1 c23
      refine J_iload_n 30 rfl 3 0 rfl (D_X12_flowOf_0.at 20 rfl) ?_
      refine J_iret rfl (D_X12_flowOf_0.at 21 rfl) (fun _ => ?_)
      obtain ⟨s16, T⟩ := T
      obtain ⟨s17, T⟩ := T
      refine J_icmp_le 36 rfl 45 s16 s17 (D_X12_settlesOf_0.at 21 rfl) (by decide) (fun c19 => ?_) (fun c19 => ?_)
      · replace T := T.1 c19
        refine J_iconst 46 rfl (D_X12_settlesOf_0.at 27 rfl) ?_
        exact J_iret rfl (D_X12_settlesOf_0.at 28 rfl) T
      replace T := T.2 c19
      refine J_aload_n 37 rfl 0 0 rfl ⟨by decide, by decide⟩ (D_X12_settlesOf_0.at 22 rfl) ?_
      refine J_getF (ov := 108) (dd := 1040) 40 rfl fl_12_133 rfl (by decide) rfl ob_68 (Ob.lt ob_68) (D_X12_settlesOf_0.at 23 rfl) ?_
      refine J_iload_n 41 rfl 1 1 rfl (D_X12_settlesOf_0.at 24 rfl) ?_
      obtain ⟨s18, T⟩ := T
      refine J_iald 42 rfl ar_108 (Ar.lt ar_108) s18 (D_X12_settlesOf_0.at 25 rfl) ?_
      refine J_goto 46 (D_X12_settlesOf_0.at 26 rfl) (by decide) ?_
      exact J_iret rfl (D_X12_settlesOf_0.at 28 rfl) T
    replace T := T.2 c23
    refine J_iconst 26 rfl (D_X12_flowOf_0.at 18 rfl) ?_
    refine J_goto 30 (D_X12_flowOf_0.at 19 rfl) (by decide) ?_
    refine J_iret rfl (D_X12_flowOf_0.at 21 rfl) (fun _ => ?_)
    obtain ⟨s20, T⟩ := T
    refine J_icmp_le 36 rfl 45 s20 ⟨by decide, by decide⟩ (D_X12_settlesOf_0.at 21 rfl) (by decide) (fun c22 => ?_) (fun c22 => ?_)
    · replace T := T.1 c22
      refine J_iconst 46 rfl (D_X12_settlesOf_0.at 27 rfl) ?_
      exact J_iret rfl (D_X12_settlesOf_0.at 28 rfl) T
    replace T := T.2 c22
    refine J_aload_n 37 rfl 0 0 rfl ⟨by decide, by decide⟩ (D_X12_settlesOf_0.at 22 rfl) ?_
    refine J_getF (ov := 108) (dd := 1040) 40 rfl fl_12_133 rfl (by decide) rfl ob_68 (Ob.lt ob_68) (D_X12_settlesOf_0.at 23 rfl) ?_
    refine J_iload_n 41 rfl 1 1 rfl (D_X12_settlesOf_0.at 24 rfl) ?_
    obtain ⟨s21, T⟩ := T
    refine J_iald 42 rfl ar_108 (Ar.lt ar_108) s21 (D_X12_settlesOf_0.at 25 rfl) ?_
    refine J_goto 46 (D_X12_settlesOf_0.at 26 rfl) (by decide) ?_
    exact J_iret rfl (D_X12_settlesOf_0.at 28 rfl) T
  replace T := T.2 c25
  refine J_iconst 10 rfl (D_X12_settlesOf_0.at 5 rfl) ?_
  exact J_iret rfl (D_X12_settlesOf_0.at 6 rfl) T
theorem c_X12_shareThen {w : Wd} {a1 a2 : Int} {h : Hp} {K : Int → Hp → Prop} (T : L_X12_shareThen_5 w a1 a2 0 0 h K) : C_X12_shareThen w a1 a2 h K := by
  refine CGm_of2 (by decide) (by decide) trivial (Nat.le_of_ble_eq_true rfl) ?_
  refine J_iconst 1 rfl (D_X12_shareThen_0.at 0 rfl) ?_
  refine J_istore_n (lv' := [(3, vI 0), (0, vR 68), (1, vI a1), (2, vI a2)]) 2 rfl 3 (by decide) rfl (D_X12_shareThen_0.at 1 rfl) ?_
  refine J_iconst 3 rfl (D_X12_shareThen_0.at 2 rfl) ?_
  refine J_istore (lv' := [(4, vI 0), (3, vI 0), (0, vR 68), (1, vI a1), (2, vI a2)]) 5 rfl 4 (by decide) rfl (D_X12_shareThen_0.at 3 rfl) ?_
  exact J_sub (lv' := [(0, vR 68), (1, vI a1), (2, vI a2), (3, vI 0), (4, vI 0)]) [2, 3, 4, 1, 0] rfl T
theorem l_X12_shareThen_5 {w : Wd} {v1 v2 v3 v4 : Int} {h : Hp} {K : Int → Hp → Prop} (T : (inR v4) ∧ ((inR (h 93 5)) ∧ (((v4 ≥ (h 93 5)) → (C_X12_wouldLie w v2 h (fun r3 h4 => (inR r3) ∧ (((r3 ≠ 0) → ((0 ≤ (1000 * v3) ∧ (1000 * v3) < 2147483648) ∧ ((0 < r3 ∧ r3 < 2147483648) ∧ (K ((1000 * v3) / r3) h4)))) ∧ (¬ (r3 ≠ 0) → (K 0 h4)))))) ∧ (¬ (v4 ≥ (h 93 5)) → ((0 ≤ ((50 + (5 * v4)) + 0) ∧ ((50 + (5 * v4)) + 0) < 100) ∧ ((inR (h 96 ((50 + (5 * v4)) + 0))) ∧ ((inR v1) ∧ ((((h 96 ((50 + (5 * v4)) + 0)) ≠ v1) → (L_X12_shareThen_5 w v1 v2 v3 (v4 + 1) h K)) ∧ (¬ ((h 96 ((50 + (5 * v4)) + 0)) ≠ v1) → ((0 ≤ ((29 + (10 * v2)) + v4) ∧ ((29 + (10 * v2)) + v4) < 109) ∧ ((0 ≤ ((10 * v2) + v4) ∧ ((10 * v2) + v4) < 80) ∧ (L_X12_shareThen_5 w v1 v2 (v3 + ((h 104 ((29 + (10 * v2)) + v4)) + (h 110 ((10 * v2) + v4)))) (v4 + 1) h K)))))))))))) : L_X12_shareThen_5 w v1 v2 v3 v4 h K := by
  unfold L_X12_shareThen_5
  refine J_iload 7 rfl 4 4 rfl (D_X12_shareThen_0.at 4 rfl) ?_
  refine J_aload_n 8 rfl 0 0 rfl ⟨by decide, by decide⟩ (D_X12_shareThen_0.at 5 rfl) ?_
  refine J_callV (d' := 1) (K1 := fun z h0 => rok (some .int) z → JG w true m_X12_shareThen 4 NT NT 11 [(0, vR 68), (1, vI v1), (2, vI v2), (3, vI v3), (4, vI v4)] [vI z, vI v4] h0 _) (sr := fun z => [vI z, vI v4]) (as := []) (st := [vI v4]) (o := 68) 11 rfl ok_X12_bankMany im_X12_bankMany se_X12_bankMany ml_12_419 isC_12 ob_68 (Ob.lt ob_68) rfl (by decide) ⟨Nat.le_refl _, Nat.le_refl _⟩ (Nat.le_of_ble_eq_true rfl) (D_X12_shareThen_0.at 6 rfl) (fun _ => rfl) (CGm_of2 (by decide) (by decide) trivial (Nat.le_of_ble_eq_true rfl) ?_) (fun _ _ kq hb => kq hb)
  refine J_aload_n 1 rfl 0 0 rfl ⟨by decide, by decide⟩ (D_X12_bankMany_0.at 0 rfl) ?_
  refine J_getF (ov := 93) (dd := 1025) 4 rfl fl_12_87 rfl (by decide) rfl ob_68 (Ob.lt ob_68) (D_X12_bankMany_0.at 1 rfl) ?_
  refine J_iconst 5 rfl (D_X12_bankMany_0.at 2 rfl) ?_
  refine J_iald 6 rfl ar_93 (Ar.lt ar_93) ⟨by decide, by decide⟩ (D_X12_bankMany_0.at 3 rfl) ?_
  refine J_iret rfl (D_X12_bankMany_0.at 4 rfl) (fun _ => ?_)
  obtain ⟨s1, T⟩ := T
  obtain ⟨s2, T⟩ := T
  refine J_icmp_ge 14 rfl 54 s1 s2 (D_X12_shareThen_0.at 7 rfl) (by decide) (fun c16 => ?_) (fun c16 => ?_)
  · replace T := T.1 c16
    refine J_aload_n 55 rfl 0 0 rfl ⟨by decide, by decide⟩ (D_X12_shareThen_0.at 32 rfl) ?_
    refine J_iload_n 56 rfl 2 2 rfl (D_X12_shareThen_0.at 33 rfl) ?_
    refine J_callV (d' := 3) (sr := fun z => [vI z]) (as := [vI v2]) (st := []) (o := 68) 59 rfl ok_X12_wouldLie im_X12_wouldLie se_X12_wouldLie ml_12_548 isC_12 ob_68 (Ob.lt ob_68) rfl (by decide) ⟨Nat.le_refl _, Nat.le_refl _⟩ (Nat.le_of_ble_eq_true rfl) (D_X12_shareThen_0.at 34 rfl) (fun _ => rfl) T (fun r3 h4 T b5 => ?_)
    refine J_istore (lv' := [(4, vI r3), (0, vR 68), (1, vI v1), (2, vI v2), (3, vI v3)]) 61 rfl 4 (by decide) rfl (D_X12_shareThen_0.at 35 rfl) ?_
    refine J_iload 63 rfl 4 0 rfl (D_X12_shareThen_0.at 36 rfl) ?_
    obtain ⟨s6, T⟩ := T
    refine J_if_ne 66 rfl 70 s6 (D_X12_shareThen_0.at 37 rfl) (by decide) (fun c9 => ?_) (fun c9 => ?_)
    · replace T := T.1 c9
      refine J_sipush 73 rfl ⟨by decide, by decide⟩ (D_X12_shareThen_0.at 40 rfl) ?_
      refine J_iload_n 74 rfl 3 4 rfl (D_X12_shareThen_0.at 41 rfl) ?_
      refine J_imul 75 rfl (D_X12_shareThen_0.at 42 rfl) ?_
      refine J_iload 77 rfl 4 0 rfl (D_X12_shareThen_0.at 43 rfl) ?_
      obtain ⟨s7, T⟩ := T
      obtain ⟨s8, T⟩ := T
      refine J_idiv 78 rfl s7 s8 (D_X12_shareThen_0.at 44 rfl) ?_
      exact J_iret rfl (D_X12_shareThen_0.at 45 rfl) T
    replace T := T.2 c9
    refine J_iconst 67 rfl (D_X12_shareThen_0.at 38 rfl) ?_
    refine J_goto 78 (D_X12_shareThen_0.at 39 rfl) (by decide) ?_
    exact J_iret rfl (D_X12_shareThen_0.at 45 rfl) T
  replace T := T.2 c16
  refine J_aload_n 15 rfl 0 0 rfl ⟨by decide, by decide⟩ (D_X12_shareThen_0.at 8 rfl) ?_
  refine J_iload 17 rfl 4 4 rfl (D_X12_shareThen_0.at 9 rfl) ?_
  refine J_iconst 18 rfl (D_X12_shareThen_0.at 10 rfl) ?_
  refine J_callV (d' := 1) (K1 := fun z h0 => rok (some .int) z → JG w true m_X12_shareThen 4 NT NT 21 [(0, vR 68), (1, vI v1), (2, vI v2), (3, vI v3), (4, vI v4)] [vI z] h0 _) (sr := fun z => [vI z]) (as := [vI v4, vI 0]) (st := []) (o := 68) 21 rfl ok_X12_bankOf im_X12_bankOf se_X12_bankOf ml_12_430 isC_12 ob_68 (Ob.lt ob_68) rfl (by decide) ⟨Nat.le_refl _, Nat.le_refl _⟩ (Nat.le_of_ble_eq_true rfl) (D_X12_shareThen_0.at 11 rfl) (fun _ => rfl) (CGm_of2 (by decide) (by decide) trivial (Nat.le_of_ble_eq_true rfl) ?_) (fun _ _ kq hb => kq hb)
  refine J_aload_n 1 rfl 0 0 rfl ⟨by decide, by decide⟩ (D_X12_bankOf_0.at 0 rfl) ?_
  refine J_getF (ov := 96) (dd := 1028) 4 rfl fl_12_97 rfl (by decide) rfl ob_68 (Ob.lt ob_68) (D_X12_bankOf_0.at 1 rfl) ?_
  refine J_bipush 6 rfl ⟨by decide, by decide⟩ (D_X12_bankOf_0.at 2 rfl) ?_
  refine J_iconst 7 rfl (D_X12_bankOf_0.at 3 rfl) ?_
  refine J_iload_n 8 rfl 1 1 rfl (D_X12_bankOf_0.at 4 rfl) ?_
  refine J_imul 9 rfl (D_X12_bankOf_0.at 5 rfl) ?_
  refine J_iadd 10 rfl (D_X12_bankOf_0.at 6 rfl) ?_
  refine J_iload_n 11 rfl 2 2 rfl (D_X12_bankOf_0.at 7 rfl) ?_
  refine J_iadd 12 rfl (D_X12_bankOf_0.at 8 rfl) ?_
  obtain ⟨s10, T⟩ := T
  refine J_iald 13 rfl ar_96 (Ar.lt ar_96) s10 (D_X12_bankOf_0.at 9 rfl) ?_
  refine J_iret rfl (D_X12_bankOf_0.at 10 rfl) (fun _ => ?_)
  refine J_iload_n 22 rfl 1 1 rfl (D_X12_shareThen_0.at 12 rfl) ?_
  obtain ⟨s11, T⟩ := T
  obtain ⟨s12, T⟩ := T
  refine J_icmp_ne 25 rfl 48 s11 s12 (D_X12_shareThen_0.at 13 rfl) (by decide) (fun c15 => ?_) (fun c15 => ?_)
  · replace T := T.1 c15
    refine J_iinc (v := (v4 + 1)) (lv' := [(4, vI (v4 + 1)), (0, vR 68), (1, vI v1), (2, vI v2), (3, vI v3)]) 51 rfl 4 4 1 rfl rfl (by decide) rfl (D_X12_shareThen_0.at 30 rfl) ?_
    refine J_goto 5 (D_X12_shareThen_0.at 31 rfl) (by decide) ?_
    exact J_sub (lv' := [(0, vR 68), (1, vI v1), (2, vI v2), (3, vI v3), (4, vI (v4 + 1))]) [1, 2, 3, 4, 0] rfl T
  replace T := T.2 c15
  refine J_iload_n 26 rfl 3 3 rfl (D_X12_shareThen_0.at 14 rfl) ?_
  refine J_aload_n 27 rfl 0 0 rfl ⟨by decide, by decide⟩ (D_X12_shareThen_0.at 15 rfl) ?_
  refine J_iload_n 28 rfl 2 2 rfl (D_X12_shareThen_0.at 16 rfl) ?_
  refine J_iload 30 rfl 4 4 rfl (D_X12_shareThen_0.at 17 rfl) ?_
  refine J_callV (d' := 1) (K1 := fun z h0 => rok (some .int) z → JG w true m_X12_shareThen 4 NT NT 33 [(0, vR 68), (1, vI v1), (2, vI v2), (3, vI v3), (4, vI v4)] [vI z, vI v3] h0 _) (sr := fun z => [vI z, vI v3]) (as := [vI v2, vI v4]) (st := [vI v3]) (o := 68) 33 rfl ok_X12_liesIn im_X12_liesIn se_X12_liesIn ml_12_468 isC_12 ob_68 (Ob.lt ob_68) rfl (by decide) ⟨Nat.le_refl _, Nat.le_refl _⟩ (Nat.le_of_ble_eq_true rfl) (D_X12_shareThen_0.at 18 rfl) (fun _ => rfl) (CGm_of2 (by decide) (by decide) trivial (Nat.le_of_ble_eq_true rfl) ?_) (fun _ _ kq hb => kq hb)
  refine J_aload_n 1 rfl 0 0 rfl ⟨by decide, by decide⟩ (D_X12_liesIn_0.at 0 rfl) ?_
  refine J_getF (ov := 104) (dd := 1036) 4 rfl fl_12_121 rfl (by decide) rfl ob_68 (Ob.lt ob_68) (D_X12_liesIn_0.at 1 rfl) ?_
  refine J_bipush 6 rfl ⟨by decide, by decide⟩ (D_X12_liesIn_0.at 2 rfl) ?_
  refine J_bipush 8 rfl ⟨by decide, by decide⟩ (D_X12_liesIn_0.at 3 rfl) ?_
  refine J_iload_n 9 rfl 1 1 rfl (D_X12_liesIn_0.at 4 rfl) ?_
  refine J_imul 10 rfl (D_X12_liesIn_0.at 5 rfl) ?_
  refine J_iadd 11 rfl (D_X12_liesIn_0.at 6 rfl) ?_
  refine J_iload_n 12 rfl 2 2 rfl (D_X12_liesIn_0.at 7 rfl) ?_
  refine J_iadd 13 rfl (D_X12_liesIn_0.at 8 rfl) ?_
  obtain ⟨s13, T⟩ := T
  refine J_iald 14 rfl ar_104 (Ar.lt ar_104) s13 (D_X12_liesIn_0.at 9 rfl) ?_
  refine J_iret rfl (D_X12_liesIn_0.at 10 rfl) (fun _ => ?_)
  refine J_aload_n 34 rfl 0 0 rfl ⟨by decide, by decide⟩ (D_X12_shareThen_0.at 19 rfl) ?_
  refine J_getF (ov := 110) (dd := 1042) 37 rfl fl_12_139 rfl (by decide) rfl ob_68 (Ob.lt ob_68) (D_X12_shareThen_0.at 20 rfl) ?_
  refine J_bipush 39 rfl ⟨by decide, by decide⟩ (D_X12_shareThen_0.at 21 rfl) ?_
  refine J_iload_n 40 rfl 2 2 rfl (D_X12_shareThen_0.at 22 rfl) ?_
  refine J_imul 41 rfl (D_X12_shareThen_0.at 23 rfl) ?_
  refine J_iload 43 rfl 4 4 rfl (D_X12_shareThen_0.at 24 rfl) ?_
  refine J_iadd 44 rfl (D_X12_shareThen_0.at 25 rfl) ?_
  obtain ⟨s14, T⟩ := T
  refine J_iald 45 rfl ar_110 (Ar.lt ar_110) s14 (D_X12_shareThen_0.at 26 rfl) ?_
  refine J_iadd 46 rfl (D_X12_shareThen_0.at 27 rfl) ?_
  refine J_iadd 47 rfl (D_X12_shareThen_0.at 28 rfl) ?_
  refine J_istore_n (lv' := [(3, vI (v3 + ((h 104 ((29 + (10 * v2)) + v4)) + (h 110 ((10 * v2) + v4))))), (0, vR 68), (1, vI v1), (2, vI v2), (4, vI v4)]) 48 rfl 3 (by decide) rfl (D_X12_shareThen_0.at 29 rfl) ?_
  refine J_iinc (v := (v4 + 1)) (lv' := [(4, vI (v4 + 1)), (3, vI (v3 + ((h 104 ((29 + (10 * v2)) + v4)) + (h 110 ((10 * v2) + v4))))), (0, vR 68), (1, vI v1), (2, vI v2)]) 51 rfl 4 4 1 rfl rfl (by decide) rfl (D_X12_shareThen_0.at 30 rfl) ?_
  refine J_goto 5 (D_X12_shareThen_0.at 31 rfl) (by decide) ?_
  exact J_sub (lv' := [(0, vR 68), (1, vI v1), (2, vI v2), (3, vI (v3 + ((h 104 ((29 + (10 * v2)) + v4)) + (h 110 ((10 * v2) + v4))))), (4, vI (v4 + 1))]) [2, 3, 4, 1, 0] rfl T
theorem c_X12_isAsFound {w : Wd} {h : Hp} {K : Int → Hp → Prop} (T : L_X12_isAsFound_2 w 0 h K) : C_X12_isAsFound w h K := by
  refine CGm_of2 (by decide) (by decide) trivial (Nat.le_of_ble_eq_true rfl) ?_
  refine J_iconst 1 rfl (D_X12_isAsFound_0.at 0 rfl) ?_
  refine J_istore_n (lv' := [(1, vI 0), (0, vR 68)]) 2 rfl 1 (by decide) rfl (D_X12_isAsFound_0.at 1 rfl) ?_
  exact J_sub (lv' := [(0, vR 68), (1, vI 0)]) [1, 0] rfl T
theorem l_X12_isAsFound_2 {w : Wd} {v1 : Int} {h : Hp} {K : Int → Hp → Prop} (T : (inR v1) ∧ ((inR (h 68 36)) ∧ (((v1 ≥ (h 68 36)) → (K 1 h)) ∧ (¬ (v1 ≥ (h 68 36)) → (C_X12_wouldLie w v1 h (fun r3 h4 => (0 ≤ v1 ∧ v1 < 8) ∧ ((inR r3) ∧ ((inR (h4 115 v1)) ∧ (((r3 = (h4 115 v1)) → (L_X12_isAsFound_2 w (v1 + 1) h4 K)) ∧ (¬ (r3 = (h4 115 v1)) → (K 0 h4))))))))))) : L_X12_isAsFound_2 w v1 h K := by
  unfold L_X12_isAsFound_2
  refine J_iload_n 3 rfl 1 1 rfl (D_X12_isAsFound_0.at 2 rfl) ?_
  refine J_aload_n 4 rfl 0 0 rfl ⟨by decide, by decide⟩ (D_X12_isAsFound_0.at 3 rfl) ?_
  refine J_getI (z := (h 68 36)) 7 rfl fl_12_356 rfl ob_68 (Ob.lt ob_68) (D_X12_isAsFound_0.at 4 rfl) rfl ?_
  obtain ⟨s1, T⟩ := T
  obtain ⟨s2, T⟩ := T
  refine J_icmp_ge 10 rfl 32 s1 s2 (D_X12_isAsFound_0.at 5 rfl) (by decide) (fun c10 => ?_) (fun c10 => ?_)
  · replace T := T.1 c10
    refine J_iconst 33 rfl (D_X12_isAsFound_0.at 18 rfl) ?_
    exact J_zret rfl (Or.inr rfl) (D_X12_isAsFound_0.at 19 rfl) T
  replace T := T.2 c10
  refine J_aload_n 11 rfl 0 0 rfl ⟨by decide, by decide⟩ (D_X12_isAsFound_0.at 6 rfl) ?_
  refine J_iload_n 12 rfl 1 1 rfl (D_X12_isAsFound_0.at 7 rfl) ?_
  refine J_callV (d' := 3) (sr := fun z => [vI z]) (as := [vI v1]) (st := []) (o := 68) 15 rfl ok_X12_wouldLie im_X12_wouldLie se_X12_wouldLie ml_12_548 isC_12 ob_68 (Ob.lt ob_68) rfl (by decide) ⟨Nat.le_refl _, Nat.le_refl _⟩ (Nat.le_of_ble_eq_true rfl) (D_X12_isAsFound_0.at 8 rfl) (fun _ => rfl) T (fun r3 h4 T b5 => ?_)
  refine J_aload_n 16 rfl 0 0 rfl ⟨by decide, by decide⟩ (D_X12_isAsFound_0.at 9 rfl) ?_
  refine J_getF (ov := 115) (dd := 1047) 19 rfl fl_12_158 rfl (by decide) rfl ob_68 (Ob.lt ob_68) (D_X12_isAsFound_0.at 10 rfl) ?_
  refine J_iload_n 20 rfl 1 1 rfl (D_X12_isAsFound_0.at 11 rfl) ?_
  obtain ⟨s6, T⟩ := T
  refine J_iald 21 rfl ar_115 (Ar.lt ar_115) s6 (D_X12_isAsFound_0.at 12 rfl) ?_
  obtain ⟨s7, T⟩ := T
  obtain ⟨s8, T⟩ := T
  refine J_icmp_eq 24 rfl 26 s7 s8 (D_X12_isAsFound_0.at 13 rfl) (by decide) (fun c9 => ?_) (fun c9 => ?_)
  · replace T := T.1 c9
    refine J_iinc (v := (v1 + 1)) (lv' := [(1, vI (v1 + 1)), (0, vR 68)]) 29 rfl 1 1 1 rfl rfl (by decide) rfl (D_X12_isAsFound_0.at 16 rfl) ?_
    refine J_goto 2 (D_X12_isAsFound_0.at 17 rfl) (by decide) ?_
    exact J_sub (lv' := [(0, vR 68), (1, vI (v1 + 1))]) [1, 0] rfl T
  replace T := T.2 c9
  refine J_iconst 25 rfl (D_X12_isAsFound_0.at 14 rfl) ?_
  exact J_zret rfl (Or.inl rfl) (D_X12_isAsFound_0.at 15 rfl) T
theorem c_X12_slopeTold {w : Wd} {h : Hp} {K : Int → Hp → Prop} (T : C_X12_number w 0 9 h (fun r1 h2 => C_X12_asks w 73 h2 (fun _ h5 => C_X12_number w 0 ((h5 68 35) - 1) h5 (fun r7 h8 => (inR (h8 68 5)) ∧ ((((h8 68 5) ≠ 0) → (K 0 h8)) ∧ (¬ ((h8 68 5) ≠ 0) → ((0 ≤ r7 ∧ r7 < 16) ∧ (∀ h12 : Hp, h12 = hu h8 95 r7 r1 → K 0 h12)))))))) : C_X12_slopeTold w h K := by
  refine CGm_of2 (by decide) (by decide) trivial (Nat.le_of_ble_eq_true rfl) ?_
  refine J_aload_n 1 rfl 0 0 rfl ⟨by decide, by decide⟩ (D_X12_slopeTold_0.at 0 rfl) ?_
  refine J_iconst 2 rfl (D_X12_slopeTold_0.at 1 rfl) ?_
  refine J_bipush 4 rfl ⟨by decide, by decide⟩ (D_X12_slopeTold_0.at 2 rfl) ?_
  refine J_callV (d' := 2) (sr := fun z => [vI z]) (as := [vI 0, vI 9]) (st := []) (o := 68) 7 rfl ok_X12_number im_X12_number se_X12_number ml_12_297 isC_12 ob_68 (Ob.lt ob_68) rfl (by decide) ⟨Nat.le_refl _, Nat.le_refl _⟩ (Nat.le_of_ble_eq_true rfl) (D_X12_slopeTold_0.at 3 rfl) (fun _ => rfl) T (fun r1 h2 T b3 => ?_)
  refine J_istore_n (lv' := [(1, vI r1), (0, vR 68)]) 8 rfl 1 (by decide) rfl (D_X12_slopeTold_0.at 4 rfl) ?_
  refine J_aload_n 9 rfl 0 1 rfl ⟨by decide, by decide⟩ (D_X12_slopeTold_0.at 5 rfl) ?_
  refine J_aload_n 10 rfl 0 1 rfl ⟨by decide, by decide⟩ (D_X12_slopeTold_0.at 6 rfl) ?_
  refine J_getF (ov := 73) (dd := 1005) 13 rfl fl_12_27 rfl (by decide) rfl ob_68 (Ob.lt ob_68) (D_X12_slopeTold_0.at 7 rfl) ?_
  refine J_callV (d' := 4) (sr := fun z => []) (as := [vR 73]) (st := []) (o := 68) 16 rfl ok_X12_asks im_X12_asks se_X12_asks ml_12_301 isC_12 ob_68 (Ob.lt ob_68) rfl (by decide) ⟨Nat.le_refl _, Nat.le_refl _⟩ (Nat.le_of_ble_eq_true rfl) (D_X12_slopeTold_0.at 8 rfl) (fun _ => rfl) T (fun r4 h5 T b6 => ?_)
  refine J_aload_n 17 rfl 0 1 rfl ⟨by decide, by decide⟩ (D_X12_slopeTold_0.at 9 rfl) ?_
  refine J_iconst 18 rfl (D_X12_slopeTold_0.at 10 rfl) ?_
  refine J_aload_n 19 rfl 0 1 rfl ⟨by decide, by decide⟩ (D_X12_slopeTold_0.at 11 rfl) ?_
  refine J_getI (z := (h5 68 35)) 22 rfl fl_12_305 rfl ob_68 (Ob.lt ob_68) (D_X12_slopeTold_0.at 12 rfl) rfl ?_
  refine J_iconst 23 rfl (D_X12_slopeTold_0.at 13 rfl) ?_
  refine J_isub 24 rfl (D_X12_slopeTold_0.at 14 rfl) ?_
  refine J_callV (d' := 2) (sr := fun z => [vI z]) (as := [vI 0, vI ((h5 68 35) - 1)]) (st := []) (o := 68) 27 rfl ok_X12_number im_X12_number se_X12_number ml_12_297 isC_12 ob_68 (Ob.lt ob_68) rfl (by decide) ⟨Nat.le_refl _, Nat.le_refl _⟩ (Nat.le_of_ble_eq_true rfl) (D_X12_slopeTold_0.at 15 rfl) (fun _ => rfl) T (fun r7 h8 T b9 => ?_)
  refine J_istore_n (lv' := [(2, vI r7), (1, vI r1), (0, vR 68)]) 28 rfl 2 (by decide) rfl (D_X12_slopeTold_0.at 16 rfl) ?_
  refine J_aload_n 29 rfl 0 2 rfl ⟨by decide, by decide⟩ (D_X12_slopeTold_0.at 17 rfl) ?_
  refine J_getI (z := (h8 68 5)) 32 rfl fl_12_227 rfl ob_68 (Ob.lt ob_68) (D_X12_slopeTold_0.at 18 rfl) rfl ?_
  obtain ⟨s10, T⟩ := T
  refine J_if_ne 35 rfl 42 s10 (D_X12_slopeTold_0.at 19 rfl) (by decide) (fun c14 => ?_) (fun c14 => ?_)
  · replace T := T.1 c14
    exact J_vret rfl (D_X12_slopeTold_0.at 25 rfl) T
  replace T := T.2 c14
  refine J_aload_n 36 rfl 0 2 rfl ⟨by decide, by decide⟩ (D_X12_slopeTold_0.at 20 rfl) ?_
  refine J_getF (ov := 95) (dd := 1027) 39 rfl fl_12_94 rfl (by decide) rfl ob_68 (Ob.lt ob_68) (D_X12_slopeTold_0.at 21 rfl) ?_
  refine J_iload_n 40 rfl 2 0 rfl (D_X12_slopeTold_0.at 22 rfl) ?_
  refine J_iload_n 41 rfl 1 1 rfl (D_X12_slopeTold_0.at 23 rfl) ?_
  obtain ⟨s11, T⟩ := T
  refine J_iastH 42 rfl ar_95 (Ar.lt ar_95) s11 trivial (D_X12_slopeTold_0.at 24 rfl) (fun h12 e13 => ?_)
  replace T := T h12 e13
  exact J_vret rfl (D_X12_slopeTold_0.at 25 rfl) T
theorem c_X12_newName {w : Wd} {h : Hp} {K : Int → Hp → Prop} (T : C_X12_name w h (fun r1 h2 => L_X12_newName_7 w r1 0 h2 K)) : C_X12_newName w h K := by
  refine CGm_of2 (by decide) (by decide) trivial (Nat.le_of_ble_eq_true rfl) ?_
  refine J_aload_n 1 rfl 0 0 rfl ⟨by decide, by decide⟩ (D_X12_newName_0.at 0 rfl) ?_
  refine J_callV (d' := 4) (sr := fun z => [vL z]) (as := []) (st := []) (o := 68) 4 rfl ok_X12_name im_X12_name se_X12_name ml_12_282 isC_12 ob_68 (Ob.lt ob_68) rfl (by decide) ⟨Nat.le_refl _, Nat.le_refl _⟩ (Nat.le_of_ble_eq_true rfl) (D_X12_newName_0.at 1 rfl) (fun _ => rfl) T (fun r1 h2 T b3 => ?_)
  refine J_lstore_n (lv' := [(1, vL r1), (0, vR 68)]) 5 rfl 1 (by decide) rfl (D_X12_newName_0.at 2 rfl) ?_
  refine J_iconst 6 rfl (D_X12_newName_0.at 3 rfl) ?_
  refine J_istore_n (lv' := [(3, vI 0), (1, vL r1), (0, vR 68)]) 7 rfl 3 (by decide) rfl (D_X12_newName_0.at 4 rfl) ?_
  exact J_sub (lv' := [(0, vR 68), (1, vL r1), (3, vI 0)]) [2, 1, 0] rfl T
theorem l_X12_newName_7 {w : Wd} {v1 v3 : Int} {h : Hp} {K : Int → Hp → Prop} (T : (inR v3) ∧ (((v3 ≥ 3) → (K v1 h)) ∧ (¬ (v3 ≥ 3) → ((inR (h 68 5)) ∧ ((((h 68 5) ≠ 0) → (L_X12_newName_7 w v1 (v3 + 1) h K)) ∧ (¬ ((h 68 5) ≠ 0) → (C_X12_nameOf w v3 v1 h (fun r6 h7 => (inR r6) ∧ (((r6 = (-1)) → (L_X12_newName_7 w v1 (v3 + 1) h7 K)) ∧ (¬ (r6 = (-1)) → (C_X12_fail w 3 (h7 68 32) h7 (fun _ h11 => L_X12_newName_7 w v1 (v3 + 1) h11 K)))))))))))) : L_X12_newName_7 w v1 v3 h K := by
  unfold L_X12_newName_7
  refine J_iload_n 8 rfl 3 2 rfl (D_X12_newName_0.at 5 rfl) ?_
  refine J_iconst 9 rfl (D_X12_newName_0.at 6 rfl) ?_
  obtain ⟨s4, T⟩ := T
  refine J_icmp_ge 12 rfl 44 s4 ⟨by decide, by decide⟩ (D_X12_newName_0.at 7 rfl) (by decide) (fun c15 => ?_) (fun c15 => ?_)
  · replace T := T.1 c15
    refine J_lload_n 45 rfl 1 1 rfl (D_X12_newName_0.at 24 rfl) ?_
    exact J_lret rfl (D_X12_newName_0.at 25 rfl) T
  replace T := T.2 c15
  refine J_aload_n 13 rfl 0 0 rfl ⟨by decide, by decide⟩ (D_X12_newName_0.at 8 rfl) ?_
  refine J_getI (z := (h 68 5)) 16 rfl fl_12_227 rfl ob_68 (Ob.lt ob_68) (D_X12_newName_0.at 9 rfl) rfl ?_
  obtain ⟨s5, T⟩ := T
  refine J_if_ne 19 rfl 38 s5 (D_X12_newName_0.at 10 rfl) (by decide) (fun c14 => ?_) (fun c14 => ?_)
  · replace T := T.1 c14
    refine J_iinc (v := (v3 + 1)) (lv' := [(3, vI (v3 + 1)), (0, vR 68), (1, vL v1)]) 41 rfl 3 2 1 rfl rfl (by decide) rfl (D_X12_newName_0.at 22 rfl) ?_
    refine J_goto 7 (D_X12_newName_0.at 23 rfl) (by decide) ?_
    exact J_sub (lv' := [(0, vR 68), (1, vL v1), (3, vI (v3 + 1))]) [1, 2, 0] rfl T
  replace T := T.2 c14
  refine J_aload_n 20 rfl 0 0 rfl ⟨by decide, by decide⟩ (D_X12_newName_0.at 11 rfl) ?_
  refine J_iload_n 21 rfl 3 2 rfl (D_X12_newName_0.at 12 rfl) ?_
  refine J_lload_n 22 rfl 1 1 rfl (D_X12_newName_0.at 13 rfl) ?_
  refine J_callV (d' := 1) (sr := fun z => [vI z]) (as := [vI v3, vL v1]) (st := []) (o := 68) 25 rfl ok_X12_nameOf im_X12_nameOf se_X12_nameOf ml_12_286 isC_12 ob_68 (Ob.lt ob_68) rfl (by decide) ⟨Nat.le_refl _, Nat.le_refl _⟩ (Nat.le_of_ble_eq_true rfl) (D_X12_newName_0.at 14 rfl) (fun _ => rfl) T (fun r6 h7 T b8 => ?_)
  refine J_iconst 26 rfl (D_X12_newName_0.at 15 rfl) ?_
  obtain ⟨s9, T⟩ := T
  refine J_icmp_eq 29 rfl 38 s9 ⟨by decide, by decide⟩ (D_X12_newName_0.at 16 rfl) (by decide) (fun c13 => ?_) (fun c13 => ?_)
  · replace T := T.1 c13
    refine J_iinc (v := (v3 + 1)) (lv' := [(3, vI (v3 + 1)), (0, vR 68), (1, vL v1)]) 41 rfl 3 2 1 rfl rfl (by decide) rfl (D_X12_newName_0.at 22 rfl) ?_
    refine J_goto 7 (D_X12_newName_0.at 23 rfl) (by decide) ?_
    exact J_sub (lv' := [(0, vR 68), (1, vL v1), (3, vI (v3 + 1))]) [1, 2, 0] rfl T
  replace T := T.2 c13
  refine J_aload_n 30 rfl 0 0 rfl ⟨by decide, by decide⟩ (D_X12_newName_0.at 17 rfl) ?_
  refine J_iconst 31 rfl (D_X12_newName_0.at 18 rfl) ?_
  refine J_aload_n 32 rfl 0 0 rfl ⟨by decide, by decide⟩ (D_X12_newName_0.at 19 rfl) ?_
  refine J_getI (z := (h7 68 32)) 35 rfl fl_12_275 rfl ob_68 (Ob.lt ob_68) (D_X12_newName_0.at 20 rfl) rfl ?_
  refine J_callV (d' := 1) (sr := fun z => []) (as := [vI 3, vI (h7 68 32)]) (st := []) (o := 68) 38 rfl ok_X12_fail im_X12_fail se_X12_fail ml_12_257 isC_12 ob_68 (Ob.lt ob_68) rfl (by decide) ⟨Nat.le_refl _, Nat.le_refl _⟩ (Nat.le_of_ble_eq_true rfl) (D_X12_newName_0.at 21 rfl) (fun _ => rfl) T (fun r10 h11 T b12 => ?_)
  refine J_iinc (v := (v3 + 1)) (lv' := [(3, vI (v3 + 1)), (0, vR 68), (1, vL v1)]) 41 rfl 3 2 1 rfl rfl (by decide) rfl (D_X12_newName_0.at 22 rfl) ?_
  refine J_goto 7 (D_X12_newName_0.at 23 rfl) (by decide) ?_
  exact J_sub (lv' := [(0, vR 68), (1, vL v1), (3, vI (v3 + 1))]) [1, 2, 0] rfl T
theorem c_X12_oneOf {w : Wd} {a1 : Int} {h : Hp} {K : Int → Hp → Prop} (T : C_X12_name w h (fun r1 h2 => C_X12_nameOf w a1 r1 h2 (fun r4 h5 => (inR (h5 68 5)) ∧ ((((h5 68 5) ≠ 0) → ((inR (h5 68 5)) ∧ ((((h5 68 5) ≠ 0) → (K 0 h5)) ∧ (¬ ((h5 68 5) ≠ 0) → (K r4 h5))))) ∧ (¬ ((h5 68 5) ≠ 0) → ((inR r4) ∧ (((r4 ≠ (-1)) → ((inR (h5 68 5)) ∧ ((((h5 68 5) ≠ 0) → (K 0 h5)) ∧ (¬ ((h5 68 5) ≠ 0) → (K r4 h5))))) ∧ (¬ (r4 ≠ (-1)) → (C_X12_fail w 3 (h5 68 32) h5 (fun _ h14 => (inR (h14 68 5)) ∧ ((((h14 68 5) ≠ 0) → (K 0 h14)) ∧ (¬ ((h14 68 5) ≠ 0) → (K r4 h14))))))))))))) : C_X12_oneOf w a1 h K := by
  refine CGm_of2 (by decide) (by decide) trivial (Nat.le_of_ble_eq_true rfl) ?_
  refine J_aload_n 1 rfl 0 0 rfl ⟨by decide, by decide⟩ (D_X12_oneOf_0.at 0 rfl) ?_
  refine J_callV (d' := 4) (sr := fun z => [vL z]) (as := []) (st := []) (o := 68) 4 rfl ok_X12_name im_X12_name se_X12_name ml_12_282 isC_12 ob_68 (Ob.lt ob_68) rfl (by decide) ⟨Nat.le_refl _, Nat.le_refl _⟩ (Nat.le_of_ble_eq_true rfl) (D_X12_oneOf_0.at 1 rfl) (fun _ => rfl) T (fun r1 h2 T b3 => ?_)
  refine J_lstore_n (lv' := [(2, vL r1), (0, vR 68), (1, vI a1)]) 5 rfl 2 (by decide) rfl (D_X12_oneOf_0.at 2 rfl) ?_
  refine J_aload_n 6 rfl 0 1 rfl ⟨by decide, by decide⟩ (D_X12_oneOf_0.at 3 rfl) ?_
  refine J_iload_n 7 rfl 1 2 rfl (D_X12_oneOf_0.at 4 rfl) ?_
  refine J_lload_n 8 rfl 2 0 rfl (D_X12_oneOf_0.at 5 rfl) ?_
  refine J_callV (d' := 1) (sr := fun z => [vI z]) (as := [vI a1, vL r1]) (st := []) (o := 68) 11 rfl ok_X12_nameOf im_X12_nameOf se_X12_nameOf ml_12_286 isC_12 ob_68 (Ob.lt ob_68) rfl (by decide) ⟨Nat.le_refl _, Nat.le_refl _⟩ (Nat.le_of_ble_eq_true rfl) (D_X12_oneOf_0.at 6 rfl) (fun _ => rfl) T (fun r4 h5 T b6 => ?_)
  refine J_istore (lv' := [(4, vI r4), (2, vL r1), (0, vR 68), (1, vI a1)]) 13 rfl 4 (by decide) rfl (D_X12_oneOf_0.at 7 rfl) ?_
  refine J_aload_n 14 rfl 0 2 rfl ⟨by decide, by decide⟩ (D_X12_oneOf_0.at 8 rfl) ?_
  refine J_getI (z := (h5 68 5)) 17 rfl fl_12_227 rfl ob_68 (Ob.lt ob_68) (D_X12_oneOf_0.at 9 rfl) rfl ?_
  obtain ⟨s7, T⟩ := T
  refine J_if_ne 20 rfl 35 s7 (D_X12_oneOf_0.at 10 rfl) (by decide) (fun c19 => ?_) (fun c19 => ?_)
  · replace T := T.1 c19
    refine J_aload_n 36 rfl 0 2 rfl ⟨by decide, by decide⟩ (D_X12_oneOf_0.at 19 rfl) ?_
    refine J_getI (z := (h5 68 5)) 39 rfl fl_12_227 rfl ob_68 (Ob.lt ob_68) (D_X12_oneOf_0.at 20 rfl) rfl ?_
    obtain ⟨s8, T⟩ := T
    refine J_if_ne 42 rfl 47 s8 (D_X12_oneOf_0.at 21 rfl) (by decide) (fun c9 => ?_) (fun c9 => ?_)
    · replace T := T.1 c9
      refine J_iconst 48 rfl (D_X12_oneOf_0.at 24 rfl) ?_
      exact J_iret rfl (D_X12_oneOf_0.at 25 rfl) T
    replace T := T.2 c9
    refine J_iload 44 rfl 4 0 rfl (D_X12_oneOf_0.at 22 rfl) ?_
    refine J_goto 48 (D_X12_oneOf_0.at 23 rfl) (by decide) ?_
    exact J_iret rfl (D_X12_oneOf_0.at 25 rfl) T
  replace T := T.2 c19
  refine J_iload 22 rfl 4 0 rfl (D_X12_oneOf_0.at 11 rfl) ?_
  refine J_iconst 23 rfl (D_X12_oneOf_0.at 12 rfl) ?_
  obtain ⟨s10, T⟩ := T
  refine J_icmp_ne 26 rfl 35 s10 ⟨by decide, by decide⟩ (D_X12_oneOf_0.at 13 rfl) (by decide) (fun c18 => ?_) (fun c18 => ?_)
  · replace T := T.1 c18
    refine J_aload_n 36 rfl 0 2 rfl ⟨by decide, by decide⟩ (D_X12_oneOf_0.at 19 rfl) ?_
    refine J_getI (z := (h5 68 5)) 39 rfl fl_12_227 rfl ob_68 (Ob.lt ob_68) (D_X12_oneOf_0.at 20 rfl) rfl ?_
    obtain ⟨s11, T⟩ := T
    refine J_if_ne 42 rfl 47 s11 (D_X12_oneOf_0.at 21 rfl) (by decide) (fun c12 => ?_) (fun c12 => ?_)
    · replace T := T.1 c12
      refine J_iconst 48 rfl (D_X12_oneOf_0.at 24 rfl) ?_
      exact J_iret rfl (D_X12_oneOf_0.at 25 rfl) T
    replace T := T.2 c12
    refine J_iload 44 rfl 4 0 rfl (D_X12_oneOf_0.at 22 rfl) ?_
    refine J_goto 48 (D_X12_oneOf_0.at 23 rfl) (by decide) ?_
    exact J_iret rfl (D_X12_oneOf_0.at 25 rfl) T
  replace T := T.2 c18
  refine J_aload_n 27 rfl 0 2 rfl ⟨by decide, by decide⟩ (D_X12_oneOf_0.at 14 rfl) ?_
  refine J_iconst 28 rfl (D_X12_oneOf_0.at 15 rfl) ?_
  refine J_aload_n 29 rfl 0 2 rfl ⟨by decide, by decide⟩ (D_X12_oneOf_0.at 16 rfl) ?_
  refine J_getI (z := (h5 68 32)) 32 rfl fl_12_275 rfl ob_68 (Ob.lt ob_68) (D_X12_oneOf_0.at 17 rfl) rfl ?_
  refine J_callV (d' := 1) (sr := fun z => []) (as := [vI 3, vI (h5 68 32)]) (st := []) (o := 68) 35 rfl ok_X12_fail im_X12_fail se_X12_fail ml_12_257 isC_12 ob_68 (Ob.lt ob_68) rfl (by decide) ⟨Nat.le_refl _, Nat.le_refl _⟩ (Nat.le_of_ble_eq_true rfl) (D_X12_oneOf_0.at 18 rfl) (fun _ => rfl) T (fun r13 h14 T b15 => ?_)
  refine J_aload_n 36 rfl 0 2 rfl ⟨by decide, by decide⟩ (D_X12_oneOf_0.at 19 rfl) ?_
  refine J_getI (z := (h14 68 5)) 39 rfl fl_12_227 rfl ob_68 (Ob.lt ob_68) (D_X12_oneOf_0.at 20 rfl) rfl ?_
  obtain ⟨s16, T⟩ := T
  refine J_if_ne 42 rfl 47 s16 (D_X12_oneOf_0.at 21 rfl) (by decide) (fun c17 => ?_) (fun c17 => ?_)
  · replace T := T.1 c17
    refine J_iconst 48 rfl (D_X12_oneOf_0.at 24 rfl) ?_
    exact J_iret rfl (D_X12_oneOf_0.at 25 rfl) T
  replace T := T.2 c17
  refine J_iload 44 rfl 4 0 rfl (D_X12_oneOf_0.at 22 rfl) ?_
  refine J_goto 48 (D_X12_oneOf_0.at 23 rfl) (by decide) ?_
  exact J_iret rfl (D_X12_oneOf_0.at 25 rfl) T
theorem c_X12_onePart {w : Wd} {h : Hp} {K : Int → Hp → Prop} (T : L_X12_onePart_2 w 1 h K) : C_X12_onePart w h K := by
  refine CGm_of2 (by decide) (by decide) trivial (Nat.le_of_ble_eq_true rfl) ?_
  refine J_iconst 1 rfl (D_X12_onePart_0.at 0 rfl) ?_
  refine J_istore_n (lv' := [(1, vI 1), (0, vR 68)]) 2 rfl 1 (by decide) rfl (D_X12_onePart_0.at 1 rfl) ?_
  exact J_sub (lv' := [(0, vR 68), (1, vI 1)]) [1, 0] rfl T
theorem l_X12_onePart_2 {w : Wd} {v1 : Int} {h : Hp} {K : Int → Hp → Prop} (T : (inR v1) ∧ (((v1 = 0) → (L_X12_onePart_146 w h K)) ∧ (¬ (v1 = 0) → ((inR (h 68 5)) ∧ ((((h 68 5) ≠ 0) → (L_X12_onePart_146 w h K)) ∧ (¬ ((h 68 5) ≠ 0) → (C_X12_look w h (fun r3 h4 => (inR r3) ∧ (((r3 ≠ 40) → (C_X12_isHere w 91 h4 (fun r7 h8 => (r7 = 0 ∨ r7 = 1) → ((r7 ≠ 0) → (L_X12_onePart_69 w v1 h8 K)) ∧ (¬ (r7 ≠ 0) → (C_X12_isHere w 92 h8 (fun r10 h11 => (r10 = 0 ∨ r10 = 1) → ((r10 = 0) → (L_X12_onePart_143 w 0 h11 K)) ∧ (¬ (r10 = 0) → (L_X12_onePart_69 w v1 h11 K)))))))) ∧ (¬ (r3 ≠ 40) → (C_X12_opens w 20 (h4 68 2) h4 (fun _ h16 => ∀ h18 : Hp, h18 = hu h16 68 2 ((h16 68 2) + 1) → L_X12_onePart_143 w v1 h18 K)))))))))))) : L_X12_onePart_2 w v1 h K := by
  unfold L_X12_onePart_2
  refine J_iload_n 3 rfl 1 1 rfl (D_X12_onePart_0.at 2 rfl) ?_
  obtain ⟨s1, T⟩ := T
  refine J_if_eq 6 rfl 146 s1 (D_X12_onePart_0.at 3 rfl) (by decide) (fun c22 => ?_) (fun c22 => ?_)
  · replace T := T.1 c22
    exact J_sub (lv' := [(0, vR 68)]) [0] rfl T
  replace T := T.2 c22
  refine J_aload_n 7 rfl 0 0 rfl ⟨by decide, by decide⟩ (D_X12_onePart_0.at 4 rfl) ?_
  refine J_getI (z := (h 68 5)) 10 rfl fl_12_227 rfl ob_68 (Ob.lt ob_68) (D_X12_onePart_0.at 5 rfl) rfl ?_
  obtain ⟨s2, T⟩ := T
  refine J_if_ne 13 rfl 146 s2 (D_X12_onePart_0.at 6 rfl) (by decide) (fun c21 => ?_) (fun c21 => ?_)
  · replace T := T.1 c21
    exact J_sub (lv' := [(0, vR 68)]) [0] rfl T
  replace T := T.2 c21
  refine J_aload_n 14 rfl 0 0 rfl ⟨by decide, by decide⟩ (D_X12_onePart_0.at 7 rfl) ?_
  refine J_callV (d' := 1) (sr := fun z => [vI z]) (as := []) (st := []) (o := 68) 17 rfl ok_X12_look im_X12_look se_X12_look ml_12_239 isC_12 ob_68 (Ob.lt ob_68) rfl (by decide) ⟨Nat.le_refl _, Nat.le_refl _⟩ (Nat.le_of_ble_eq_true rfl) (D_X12_onePart_0.at 8 rfl) (fun _ => rfl) T (fun r3 h4 T b5 => ?_)
  refine J_istore_n (lv' := [(2, vI r3), (0, vR 68), (1, vI v1)]) 18 rfl 2 (by decide) rfl (D_X12_onePart_0.at 9 rfl) ?_
  refine J_iload_n 19 rfl 2 0 rfl (D_X12_onePart_0.at 10 rfl) ?_
  refine J_bipush 21 rfl ⟨by decide, by decide⟩ (D_X12_onePart_0.at 11 rfl) ?_
  obtain ⟨s6, T⟩ := T
  refine J_icmp_ne 24 rfl 47 s6 ⟨by decide, by decide⟩ (D_X12_onePart_0.at 12 rfl) (by decide) (fun c20 => ?_) (fun c20 => ?_)
  · replace T := T.1 c20
    refine J_aload_n 48 rfl 0 1 rfl ⟨by decide, by decide⟩ (D_X12_onePart_0.at 25 rfl) ?_
    refine J_aload_n 49 rfl 0 1 rfl ⟨by decide, by decide⟩ (D_X12_onePart_0.at 26 rfl) ?_
    refine J_getF (ov := 91) (dd := 1023) 52 rfl fl_12_81 rfl (by decide) rfl ob_68 (Ob.lt ob_68) (D_X12_onePart_0.at 27 rfl) ?_
    refine J_callV (d' := 2) (sr := fun z => [vI z]) (as := [vR 91]) (st := []) (o := 68) 55 rfl ok_X12_isHere im_X12_isHere se_X12_isHere ml_12_250 isC_12 ob_68 (Ob.lt ob_68) rfl (by decide) ⟨Nat.le_refl _, Nat.le_refl _⟩ (Nat.le_of_ble_eq_true rfl) (D_X12_onePart_0.at 28 rfl) (fun _ => rfl) T (fun r7 h8 T b9 => ?_)
    replace T := T b9
    refine J_if_ne 58 rfl 69 (inR_b b9) (D_X12_onePart_0.at 29 rfl) (by decide) (fun c14 => ?_) (fun c14 => ?_)
    · replace T := T.1 c14
      exact J_sub (lv' := [(0, vR 68), (1, vI v1)]) [1, 2] rfl T
    replace T := T.2 c14
    refine J_aload_n 59 rfl 0 1 rfl ⟨by decide, by decide⟩ (D_X12_onePart_0.at 30 rfl) ?_
    refine J_aload_n 60 rfl 0 1 rfl ⟨by decide, by decide⟩ (D_X12_onePart_0.at 31 rfl) ?_
    refine J_getF (ov := 92) (dd := 1024) 63 rfl fl_12_84 rfl (by decide) rfl ob_68 (Ob.lt ob_68) (D_X12_onePart_0.at 32 rfl) ?_
    refine J_callV (d' := 2) (sr := fun z => [vI z]) (as := [vR 92]) (st := []) (o := 68) 66 rfl ok_X12_isHere im_X12_isHere se_X12_isHere ml_12_250 isC_12 ob_68 (Ob.lt ob_68) rfl (by decide) ⟨Nat.le_refl _, Nat.le_refl _⟩ (Nat.le_of_ble_eq_true rfl) (D_X12_onePart_0.at 33 rfl) (fun _ => rfl) T (fun r10 h11 T b12 => ?_)
    replace T := T b12
    refine J_if_eq 69 rfl 141 (inR_b b12) (D_X12_onePart_0.at 34 rfl) (by decide) (fun c13 => ?_) (fun c13 => ?_)
    · replace T := T.1 c13
      refine J_iconst 142 rfl (D_X12_onePart_1.at 22 rfl) ?_
      refine J_istore_n (lv' := [(1, vI 0), (2, vI r3), (0, vR 68)]) 143 rfl 1 (by decide) rfl (D_X12_onePart_1.at 23 rfl) ?_
      exact J_sub (lv' := [(0, vR 68), (1, vI 0)]) [2, 0] rfl T
    replace T := T.2 c13
    exact J_sub (lv' := [(0, vR 68), (1, vI v1)]) [1, 2] rfl T
  replace T := T.2 c20
  refine J_aload_n 25 rfl 0 1 rfl ⟨by decide, by decide⟩ (D_X12_onePart_0.at 13 rfl) ?_
  refine J_bipush 27 rfl ⟨by decide, by decide⟩ (D_X12_onePart_0.at 14 rfl) ?_
  refine J_aload_n 28 rfl 0 1 rfl ⟨by decide, by decide⟩ (D_X12_onePart_0.at 15 rfl) ?_
  refine J_getI (z := (h4 68 2)) 31 rfl fl_12_233 rfl ob_68 (Ob.lt ob_68) (D_X12_onePart_0.at 16 rfl) rfl ?_
  refine J_callV (d' := 2) (sr := fun z => []) (as := [vI 20, vI (h4 68 2)]) (st := []) (o := 68) 34 rfl ok_X12_opens im_X12_opens se_X12_opens ml_12_375 isC_12 ob_68 (Ob.lt ob_68) rfl (by decide) ⟨Nat.le_refl _, Nat.le_refl _⟩ (Nat.le_of_ble_eq_true rfl) (D_X12_onePart_0.at 17 rfl) (fun _ => rfl) T (fun r15 h16 T b17 => ?_)
  refine J_aload_n 35 rfl 0 1 rfl ⟨by decide, by decide⟩ (D_X12_onePart_0.at 18 rfl) ?_
  refine J_dup 36 rfl rfl (D_X12_onePart_0.at 19 rfl) ?_
  refine J_getI (z := (h16 68 2)) 39 rfl fl_12_233 rfl ob_68 (Ob.lt ob_68) (D_X12_onePart_0.at 20 rfl) rfl ?_
  refine J_iconst 40 rfl (D_X12_onePart_0.at 21 rfl) ?_
  refine J_iadd 41 rfl (D_X12_onePart_0.at 22 rfl) ?_
  refine J_putI 44 rfl fl_12_233 rfl rfl ob_68 (Ob.lt ob_68) (D_X12_onePart_0.at 23 rfl) (fun h18 e19 => ?_)
  replace T := T h18 e19
  refine J_goto 143 (D_X12_onePart_0.at 24 rfl) (by decide) ?_
  exact J_sub (lv' := [(0, vR 68), (1, vI v1)]) [1, 2] rfl T
theorem l_X12_onePart_143 {w : Wd} {v1 : Int} {h : Hp} {K : Int → Hp → Prop} (T : L_X12_onePart_2 w v1 h K) : L_X12_onePart_143 w v1 h K := by
  unfold L_X12_onePart_143
  refine J_goto 2 (D_X12_onePart_1.at 24 rfl) (by decide) ?_
  exact T
theorem l_X12_onePart_69 {w : Wd} {v1 : Int} {h : Hp} {K : Int → Hp → Prop} (T : C_X12_takes w 91 h (fun r23 h24 => (r23 = 0 ∨ r23 = 1) → ((r23 ≠ 0) → (L_X12_onePart_90 w v1 r23 h24 K)) ∧ (¬ (r23 ≠ 0) → (C_X12_asks w 92 h24 (fun _ h27 => L_X12_onePart_90 w v1 r23 h27 K))))) : L_X12_onePart_69 w v1 h K := by
  unfold L_X12_onePart_69
  refine J_aload_n 70 rfl 0 0 rfl ⟨by decide, by decide⟩ (D_X12_onePart_0.at 35 rfl) ?_
  refine J_aload_n 71 rfl 0 0 rfl ⟨by decide, by decide⟩ (D_X12_onePart_0.at 36 rfl) ?_
  refine J_getF (ov := 91) (dd := 1023) 74 rfl fl_12_81 rfl (by decide) rfl ob_68 (Ob.lt ob_68) (D_X12_onePart_0.at 37 rfl) ?_
  refine J_callV (d' := 3) (sr := fun z => [vI z]) (as := [vR 91]) (st := []) (o := 68) 77 rfl ok_X12_takes im_X12_takes se_X12_takes ml_12_254 isC_12 ob_68 (Ob.lt ob_68) rfl (by decide) ⟨Nat.le_refl _, Nat.le_refl _⟩ (Nat.le_of_ble_eq_true rfl) (D_X12_onePart_0.at 38 rfl) (fun _ => rfl) T (fun r23 h24 T b25 => ?_)
  replace T := T b25
  refine J_istore_n (lv' := [(3, vI r23), (0, vR 68), (1, vI v1)]) 78 rfl 3 (by decide) rfl (D_X12_onePart_0.at 39 rfl) ?_
  refine J_iload_n 79 rfl 3 0 rfl (D_X12_onePart_0.at 40 rfl) ?_
  refine J_if_ne 82 rfl 90 (inR_b b25) (D_X12_onePart_0.at 41 rfl) (by decide) (fun c29 => ?_) (fun c29 => ?_)
  · replace T := T.1 c29
    exact J_sub (lv' := [(0, vR 68), (1, vI v1), (3, vI r23)]) [1, 2, 0] rfl T
  replace T := T.2 c29
  refine J_aload_n 83 rfl 0 1 rfl ⟨by decide, by decide⟩ (D_X12_onePart_0.at 42 rfl) ?_
  refine J_aload_n 84 rfl 0 1 rfl ⟨by decide, by decide⟩ (D_X12_onePart_0.at 43 rfl) ?_
  refine J_getF (ov := 92) (dd := 1024) 87 rfl fl_12_84 rfl (by decide) rfl ob_68 (Ob.lt ob_68) (D_X12_onePart_0.at 44 rfl) ?_
  refine J_callV (d' := 4) (sr := fun z => []) (as := [vR 92]) (st := []) (o := 68) 90 rfl ok_X12_asks im_X12_asks se_X12_asks ml_12_301 isC_12 ob_68 (Ob.lt ob_68) rfl (by decide) ⟨Nat.le_refl _, Nat.le_refl _⟩ (Nat.le_of_ble_eq_true rfl) (D_X12_onePart_0.at 45 rfl) (fun _ => rfl) T (fun r26 h27 T b28 => ?_)
  exact J_sub (lv' := [(0, vR 68), (1, vI v1), (3, vI r23)]) [1, 2, 0] rfl T
theorem l_X12_onePart_90 {w : Wd} {v1 v3 : Int} {h : Hp} {K : Int → Hp → Prop} (T : C_X12_look w h (fun r30 h31 => (inR r30) ∧ (((r30 ≠ 40) → (L_X12_onePart_132 w v1 h31 K)) ∧ (¬ (r30 ≠ 40) → ((inR (h31 68 2)) ∧ ((((h31 68 2) = (-1)) → (L_X12_onePart_132 w v1 h31 K)) ∧ (¬ ((h31 68 2) = (-1)) → ((inR v3) ∧ (((v3 = 0) → (C_X12_opens w 22 (h31 68 2) h31 (fun _ h37 => L_X12_onePart_132 w v1 h37 K))) ∧ (¬ (v3 = 0) → (C_X12_opens w 21 (h31 68 2) h31 (fun _ h40 => L_X12_onePart_132 w v1 h40 K)))))))))))) : L_X12_onePart_90 w v1 v3 h K := by
  unfold L_X12_onePart_90
  refine J_aload_n 91 rfl 0 0 rfl ⟨by decide, by decide⟩ (D_X12_onePart_0.at 46 rfl) ?_
  refine J_callV (d' := 1) (sr := fun z => [vI z]) (as := []) (st := []) (o := 68) 94 rfl ok_X12_look im_X12_look se_X12_look ml_12_239 isC_12 ob_68 (Ob.lt ob_68) rfl (by decide) ⟨Nat.le_refl _, Nat.le_refl _⟩ (Nat.le_of_ble_eq_true rfl) (D_X12_onePart_0.at 47 rfl) (fun _ => rfl) T (fun r30 h31 T b32 => ?_)
  refine J_bipush 96 rfl ⟨by decide, by decide⟩ (D_X12_onePart_1.at 0 rfl) ?_
  obtain ⟨s33, T⟩ := T
  refine J_icmp_ne 99 rfl 106 s33 ⟨by decide, by decide⟩ (D_X12_onePart_1.at 1 rfl) (by decide) (fun c44 => ?_) (fun c44 => ?_)
  · replace T := T.1 c44
    refine J_iconst 107 rfl (D_X12_onePart_1.at 5 rfl) ?_
    refine J_istore (lv' := [(4, vI (-1)), (0, vR 68), (1, vI v1), (3, vI v3)]) 109 rfl 4 (by decide) rfl (D_X12_onePart_1.at 6 rfl) ?_
    refine J_iload 111 rfl 4 0 rfl (D_X12_onePart_1.at 7 rfl) ?_
    refine J_iconst 112 rfl (D_X12_onePart_1.at 8 rfl) ?_
    refine J_icmp_eq 115 rfl 132 ⟨by decide, by decide⟩ ⟨by decide, by decide⟩ (D_X12_onePart_1.at 9 rfl) (by decide) (fun _ => ?_) (fun c => absurd (by decide) c)
    exact J_sub (lv' := [(0, vR 68), (1, vI v1)]) [1, 2] rfl T
  replace T := T.2 c44
  refine J_aload_n 100 rfl 0 0 rfl ⟨by decide, by decide⟩ (D_X12_onePart_1.at 2 rfl) ?_
  refine J_getI (z := (h31 68 2)) 103 rfl fl_12_233 rfl ob_68 (Ob.lt ob_68) (D_X12_onePart_1.at 3 rfl) rfl ?_
  refine J_goto 107 (D_X12_onePart_1.at 4 rfl) (by decide) ?_
  refine J_istore (lv' := [(4, vI (h31 68 2)), (0, vR 68), (1, vI v1), (3, vI v3)]) 109 rfl 4 (by decide) rfl (D_X12_onePart_1.at 6 rfl) ?_
  refine J_iload 111 rfl 4 0 rfl (D_X12_onePart_1.at 7 rfl) ?_
  refine J_iconst 112 rfl (D_X12_onePart_1.at 8 rfl) ?_
  obtain ⟨s34, T⟩ := T
  refine J_icmp_eq 115 rfl 132 s34 ⟨by decide, by decide⟩ (D_X12_onePart_1.at 9 rfl) (by decide) (fun c43 => ?_) (fun c43 => ?_)
  · replace T := T.1 c43
    exact J_sub (lv' := [(0, vR 68), (1, vI v1)]) [1, 2] rfl T
  replace T := T.2 c43
  refine J_aload_n 116 rfl 0 1 rfl ⟨by decide, by decide⟩ (D_X12_onePart_1.at 10 rfl) ?_
  refine J_iload_n 117 rfl 3 3 rfl (D_X12_onePart_1.at 11 rfl) ?_
  obtain ⟨s35, T⟩ := T
  refine J_if_eq 120 rfl 125 s35 (D_X12_onePart_1.at 12 rfl) (by decide) (fun c42 => ?_) (fun c42 => ?_)
  · replace T := T.1 c42
    refine J_bipush 127 rfl ⟨by decide, by decide⟩ (D_X12_onePart_1.at 15 rfl) ?_
    refine J_iload 129 rfl 4 0 rfl (D_X12_onePart_1.at 16 rfl) ?_
    refine J_callV (d' := 2) (sr := fun z => []) (as := [vI 22, vI (h31 68 2)]) (st := []) (o := 68) 132 rfl ok_X12_opens im_X12_opens se_X12_opens ml_12_375 isC_12 ob_68 (Ob.lt ob_68) rfl (by decide) ⟨Nat.le_refl _, Nat.le_refl _⟩ (Nat.le_of_ble_eq_true rfl) (D_X12_onePart_1.at 17 rfl) (fun _ => rfl) T (fun r36 h37 T b38 => ?_)
    exact J_sub (lv' := [(0, vR 68), (1, vI v1)]) [1, 2] rfl T
  replace T := T.2 c42
  refine J_bipush 122 rfl ⟨by decide, by decide⟩ (D_X12_onePart_1.at 13 rfl) ?_
  refine J_goto 127 (D_X12_onePart_1.at 14 rfl) (by decide) ?_
  refine J_iload 129 rfl 4 0 rfl (D_X12_onePart_1.at 16 rfl) ?_
  refine J_callV (d' := 2) (sr := fun z => []) (as := [vI 21, vI (h31 68 2)]) (st := []) (o := 68) 132 rfl ok_X12_opens im_X12_opens se_X12_opens ml_12_375 isC_12 ob_68 (Ob.lt ob_68) rfl (by decide) ⟨Nat.le_refl _, Nat.le_refl _⟩ (Nat.le_of_ble_eq_true rfl) (D_X12_onePart_1.at 17 rfl) (fun _ => rfl) T (fun r39 h40 T b41 => ?_)
  exact J_sub (lv' := [(0, vR 68), (1, vI v1)]) [1, 2] rfl T
theorem l_X12_onePart_132 {w : Wd} {v1 : Int} {h : Hp} {K : Int → Hp → Prop} (T : C_X12_asksSign w 40 h (fun _ h46 => L_X12_onePart_143 w v1 h46 K)) : L_X12_onePart_132 w v1 h K := by
  unfold L_X12_onePart_132
  refine J_aload_n 133 rfl 0 0 rfl ⟨by decide, by decide⟩ (D_X12_onePart_1.at 18 rfl) ?_
  refine J_bipush 135 rfl ⟨by decide, by decide⟩ (D_X12_onePart_1.at 19 rfl) ?_
  refine J_callV (d' := 3) (sr := fun z => []) (as := [vI 40]) (st := []) (o := 68) 138 rfl ok_X12_asksSign im_X12_asksSign se_X12_asksSign ml_12_344 isC_12 ob_68 (Ob.lt ob_68) rfl (by decide) ⟨Nat.le_refl _, Nat.le_refl _⟩ (Nat.le_of_ble_eq_true rfl) (D_X12_onePart_1.at 20 rfl) (fun _ => rfl) T (fun r45 h46 T b47 => ?_)
  refine J_goto 143 (D_X12_onePart_1.at 21 rfl) (by decide) ?_
  exact T
theorem l_X12_onePart_146 {w : Wd} {h : Hp} {K : Int → Hp → Prop} (T : (inR (h 68 5)) ∧ ((((h 68 5) = 0) → (C_X12_takes w 85 h (fun r49 h50 => (r49 = 0 ∨ r49 = 1) → ((r49 = 0) → (C_X12_takes w 86 h50 (fun r52 h53 => (r52 = 0 ∨ r52 = 1) → ((r52 = 0) → (C_X12_takes w 79 h53 (fun r55 h56 => (r55 = 0 ∨ r55 = 1) → ((r55 = 0) → (C_X12_takes w 87 h56 (fun r58 h59 => (r58 = 0 ∨ r58 = 1) → ((r58 = 0) → (C_X12_takes w 88 h59 (fun r61 h62 => (r61 = 0 ∨ r61 = 1) → ((r61 = 0) → (C_X12_takes w 89 h62 (fun r64 h65 => (r64 = 0 ∨ r64 = 1) → ((r64 = 0) → (C_X12_takes w 90 h65 (fun r67 h68 => (r67 = 0 ∨ r67 = 1) → ((r67 = 0) → (C_X12_number w 0 9999 h68 (fun r70 h71 => C_X12_code w (1000 + r70) h71 (fun _ h74 => K 0 h74)))) ∧ (¬ (r67 = 0) → (C_X12_code w 13 h68 (fun _ h77 => K 0 h77)))))) ∧ (¬ (r64 = 0) → (C_X12_code w 12 h65 (fun _ h81 => K 0 h81)))))) ∧ (¬ (r61 = 0) → (C_X12_code w 11 h62 (fun _ h85 => K 0 h85)))))) ∧ (¬ (r58 = 0) → (C_X12_code w 10 h59 (fun _ h89 => K 0 h89)))))) ∧ (¬ (r55 = 0) → (C_X12_code w 9 h56 (fun _ h93 => K 0 h93)))))) ∧ (¬ (r52 = 0) → (C_X12_code w 8 h53 (fun _ h97 => K 0 h97)))))) ∧ (¬ (r49 = 0) → (C_X12_code w 7 h50 (fun _ h101 => K 0 h101)))))) ∧ (¬ ((h 68 5) = 0) → (K 0 h)))) : L_X12_onePart_146 w h K := by
  unfold L_X12_onePart_146
  refine J_aload_n 147 rfl 0 0 rfl ⟨by decide, by decide⟩ (D_X12_onePart_1.at 25 rfl) ?_
  refine J_getI (z := (h 68 5)) 150 rfl fl_12_227 rfl ob_68 (Ob.lt ob_68) (D_X12_onePart_1.at 26 rfl) rfl ?_
  obtain ⟨s48, T⟩ := T
  refine J_if_eq 153 rfl 154 s48 (D_X12_onePart_1.at 27 rfl) (by decide) (fun c104 => ?_) (fun c104 => ?_)
  · replace T := T.1 c104
    refine J_aload_n 155 rfl 0 0 rfl ⟨by decide, by decide⟩ (D_X12_onePart_1.at 29 rfl) ?_
    refine J_aload_n 156 rfl 0 0 rfl ⟨by decide, by decide⟩ (D_X12_onePart_1.at 30 rfl) ?_
    refine J_getF (ov := 85) (dd := 1017) 159 rfl fl_12_63 rfl (by decide) rfl ob_68 (Ob.lt ob_68) (D_X12_onePart_1.at 31 rfl) ?_
    refine J_callV (d' := 3) (sr := fun z => [vI z]) (as := [vR 85]) (st := []) (o := 68) 162 rfl ok_X12_takes im_X12_takes se_X12_takes ml_12_254 isC_12 ob_68 (Ob.lt ob_68) rfl (by decide) ⟨Nat.le_refl _, Nat.le_refl _⟩ (Nat.le_of_ble_eq_true rfl) (D_X12_onePart_1.at 32 rfl) (fun _ => rfl) T (fun r49 h50 T b51 => ?_)
    replace T := T b51
    refine J_if_eq 165 rfl 170 (inR_b b51) (D_X12_onePart_1.at 33 rfl) (by decide) (fun c103 => ?_) (fun c103 => ?_)
    · replace T := T.1 c103
      refine J_aload_n 171 rfl 0 0 rfl ⟨by decide, by decide⟩ (D_X12_onePart_1.at 36 rfl) ?_
      refine J_aload_n 172 rfl 0 0 rfl ⟨by decide, by decide⟩ (D_X12_onePart_1.at 37 rfl) ?_
      refine J_getF (ov := 86) (dd := 1018) 175 rfl fl_12_66 rfl (by decide) rfl ob_68 (Ob.lt ob_68) (D_X12_onePart_1.at 38 rfl) ?_
      refine J_callV (d' := 3) (sr := fun z => [vI z]) (as := [vR 86]) (st := []) (o := 68) 178 rfl ok_X12_takes im_X12_takes se_X12_takes ml_12_254 isC_12 ob_68 (Ob.lt ob_68) rfl (by decide) ⟨Nat.le_refl _, Nat.le_refl _⟩ (Nat.le_of_ble_eq_true rfl) (D_X12_onePart_1.at 39 rfl) (fun _ => rfl) T (fun r52 h53 T b54 => ?_)
      replace T := T b54
      refine J_if_eq 181 rfl 186 (inR_b b54) (D_X12_onePart_1.at 40 rfl) (by decide) (fun c99 => ?_) (fun c99 => ?_)
      · replace T := T.1 c99
        refine J_aload_n 187 rfl 0 0 rfl ⟨by decide, by decide⟩ (D_X12_onePart_1.at 43 rfl) ?_
        refine J_aload_n 188 rfl 0 0 rfl ⟨by decide, by decide⟩ (D_X12_onePart_1.at 44 rfl) ?_
        refine J_getF (ov := 79) (dd := 1011) 191 rfl fl_12_45 rfl (by decide) rfl ob_68 (Ob.lt ob_68) (D_X12_onePart_1.at 45 rfl) ?_
        refine J_callV (d' := 3) (sr := fun z => [vI z]) (as := [vR 79]) (st := []) (o := 68) 194 rfl ok_X12_takes im_X12_takes se_X12_takes ml_12_254 isC_12 ob_68 (Ob.lt ob_68) rfl (by decide) ⟨Nat.le_refl _, Nat.le_refl _⟩ (Nat.le_of_ble_eq_true rfl) (D_X12_onePart_1.at 46 rfl) (fun _ => rfl) T (fun r55 h56 T b57 => ?_)
        replace T := T b57
        refine J_if_eq 197 rfl 202 (inR_b b57) (D_X12_onePart_1.at 47 rfl) (by decide) (fun c95 => ?_) (fun c95 => ?_)
        · replace T := T.1 c95
          refine J_aload_n 203 rfl 0 0 rfl ⟨by decide, by decide⟩ (D_X12_onePart_2.at 2 rfl) ?_
          refine J_aload_n 204 rfl 0 0 rfl ⟨by decide, by decide⟩ (D_X12_onePart_2.at 3 rfl) ?_
          refine J_getF (ov := 87) (dd := 1019) 207 rfl fl_12_69 rfl (by decide) rfl ob_68 (Ob.lt ob_68) (D_X12_onePart_2.at 4 rfl) ?_
          refine J_callV (d' := 3) (sr := fun z => [vI z]) (as := [vR 87]) (st := []) (o := 68) 210 rfl ok_X12_takes im_X12_takes se_X12_takes ml_12_254 isC_12 ob_68 (Ob.lt ob_68) rfl (by decide) ⟨Nat.le_refl _, Nat.le_refl _⟩ (Nat.le_of_ble_eq_true rfl) (D_X12_onePart_2.at 5 rfl) (fun _ => rfl) T (fun r58 h59 T b60 => ?_)
          replace T := T b60
          refine J_if_eq 213 rfl 218 (inR_b b60) (D_X12_onePart_2.at 6 rfl) (by decide) (fun c91 => ?_) (fun c91 => ?_)
          · replace T := T.1 c91
            refine J_aload_n 219 rfl 0 0 rfl ⟨by decide, by decide⟩ (D_X12_onePart_2.at 9 rfl) ?_
            refine J_aload_n 220 rfl 0 0 rfl ⟨by decide, by decide⟩ (D_X12_onePart_2.at 10 rfl) ?_
            refine J_getF (ov := 88) (dd := 1020) 223 rfl fl_12_72 rfl (by decide) rfl ob_68 (Ob.lt ob_68) (D_X12_onePart_2.at 11 rfl) ?_
            refine J_callV (d' := 3) (sr := fun z => [vI z]) (as := [vR 88]) (st := []) (o := 68) 226 rfl ok_X12_takes im_X12_takes se_X12_takes ml_12_254 isC_12 ob_68 (Ob.lt ob_68) rfl (by decide) ⟨Nat.le_refl _, Nat.le_refl _⟩ (Nat.le_of_ble_eq_true rfl) (D_X12_onePart_2.at 12 rfl) (fun _ => rfl) T (fun r61 h62 T b63 => ?_)
            replace T := T b63
            refine J_if_eq 229 rfl 234 (inR_b b63) (D_X12_onePart_2.at 13 rfl) (by decide) (fun c87 => ?_) (fun c87 => ?_)
            · replace T := T.1 c87
              refine J_aload_n 235 rfl 0 0 rfl ⟨by decide, by decide⟩ (D_X12_onePart_2.at 16 rfl) ?_
              refine J_aload_n 236 rfl 0 0 rfl ⟨by decide, by decide⟩ (D_X12_onePart_2.at 17 rfl) ?_
              refine J_getF (ov := 89) (dd := 1021) 239 rfl fl_12_75 rfl (by decide) rfl ob_68 (Ob.lt ob_68) (D_X12_onePart_2.at 18 rfl) ?_
              refine J_callV (d' := 3) (sr := fun z => [vI z]) (as := [vR 89]) (st := []) (o := 68) 242 rfl ok_X12_takes im_X12_takes se_X12_takes ml_12_254 isC_12 ob_68 (Ob.lt ob_68) rfl (by decide) ⟨Nat.le_refl _, Nat.le_refl _⟩ (Nat.le_of_ble_eq_true rfl) (D_X12_onePart_2.at 19 rfl) (fun _ => rfl) T (fun r64 h65 T b66 => ?_)
              replace T := T b66
              refine J_if_eq 245 rfl 250 (inR_b b66) (D_X12_onePart_2.at 20 rfl) (by decide) (fun c83 => ?_) (fun c83 => ?_)
              · replace T := T.1 c83
                refine J_aload_n 251 rfl 0 0 rfl ⟨by decide, by decide⟩ (D_X12_onePart_2.at 23 rfl) ?_
                refine J_aload_n 252 rfl 0 0 rfl ⟨by decide, by decide⟩ (D_X12_onePart_2.at 24 rfl) ?_
                refine J_getF (ov := 90) (dd := 1022) 255 rfl fl_12_78 rfl (by decide) rfl ob_68 (Ob.lt ob_68) (D_X12_onePart_2.at 25 rfl) ?_
                refine J_callV (d' := 3) (sr := fun z => [vI z]) (as := [vR 90]) (st := []) (o := 68) 258 rfl ok_X12_takes im_X12_takes se_X12_takes ml_12_254 isC_12 ob_68 (Ob.lt ob_68) rfl (by decide) ⟨Nat.le_refl _, Nat.le_refl _⟩ (Nat.le_of_ble_eq_true rfl) (D_X12_onePart_2.at 26 rfl) (fun _ => rfl) T (fun r67 h68 T b69 => ?_)
                replace T := T b69
                refine J_if_eq 261 rfl 266 (inR_b b69) (D_X12_onePart_2.at 27 rfl) (by decide) (fun c79 => ?_) (fun c79 => ?_)
                · replace T := T.1 c79
                  refine J_iconst 267 rfl (D_X12_onePart_2.at 30 rfl) ?_
                  refine J_istore_n (lv' := [(2, vI (-1)), (0, vR 68)]) 268 rfl 2 (by decide) rfl (D_X12_onePart_2.at 31 rfl) ?_
                  refine J_aload_n 269 rfl 0 1 rfl ⟨by decide, by decide⟩ (D_X12_onePart_2.at 32 rfl) ?_
                  refine J_iload_n 270 rfl 2 0 rfl (D_X12_onePart_2.at 33 rfl) ?_
                  refine J_iconst 271 rfl (D_X12_onePart_2.at 34 rfl) ?_
                  refine J_icmp_eq 274 rfl 278 ⟨by decide, by decide⟩ ⟨by decide, by decide⟩ (D_X12_onePart_2.at 35 rfl) (by decide) (fun _ => ?_) (fun c => absurd (by decide) c)
                  refine J_sipush 281 rfl ⟨by decide, by decide⟩ (D_X12_onePart_2.at 38 rfl) ?_
                  refine J_aload_n 282 rfl 0 1 rfl ⟨by decide, by decide⟩ (D_X12_onePart_2.at 39 rfl) ?_
                  refine J_iconst 283 rfl (D_X12_onePart_2.at 40 rfl) ?_
                  refine J_sipush 286 rfl ⟨by decide, by decide⟩ (D_X12_onePart_2.at 41 rfl) ?_
                  refine J_callV (d' := 2) (sr := fun z => [vI z, vI 1000, vR 68]) (as := [vI 0, vI 9999]) (st := [vI 1000, vR 68]) (o := 68) 289 rfl ok_X12_number im_X12_number se_X12_number ml_12_297 isC_12 ob_68 (Ob.lt ob_68) rfl (by decide) ⟨Nat.le_refl _, Nat.le_refl _⟩ (Nat.le_of_ble_eq_true rfl) (D_X12_onePart_2.at 42 rfl) (fun _ => rfl) T (fun r70 h71 T b72 => ?_)
                  refine J_iadd 290 rfl (D_X12_onePart_2.at 43 rfl) ?_
                  refine J_callV (d' := 1) (sr := fun z => []) (as := [vI (1000 + r70)]) (st := []) (o := 68) 293 rfl ok_X12_code im_X12_code se_X12_code ml_12_366 isC_12 ob_68 (Ob.lt ob_68) rfl (by decide) ⟨Nat.le_refl _, Nat.le_refl _⟩ (Nat.le_of_ble_eq_true rfl) (D_X12_onePart_2.at 44 rfl) (fun _ => rfl) T (fun r73 h74 T b75 => ?_)
                  exact J_vret rfl (D_X12_onePart_2.at 45 rfl) T
                replace T := T.2 c79
                refine J_bipush 263 rfl ⟨by decide, by decide⟩ (D_X12_onePart_2.at 28 rfl) ?_
                refine J_goto 267 (D_X12_onePart_2.at 29 rfl) (by decide) ?_
                refine J_istore_n (lv' := [(2, vI 13), (0, vR 68)]) 268 rfl 2 (by decide) rfl (D_X12_onePart_2.at 31 rfl) ?_
                refine J_aload_n 269 rfl 0 1 rfl ⟨by decide, by decide⟩ (D_X12_onePart_2.at 32 rfl) ?_
                refine J_iload_n 270 rfl 2 0 rfl (D_X12_onePart_2.at 33 rfl) ?_
                refine J_iconst 271 rfl (D_X12_onePart_2.at 34 rfl) ?_
                refine J_icmp_eq 274 rfl 278 ⟨by decide, by decide⟩ ⟨by decide, by decide⟩ (D_X12_onePart_2.at 35 rfl) (by decide) (fun c => absurd c (by decide)) (fun _ => ?_)
                refine J_iload_n 275 rfl 2 0 rfl (D_X12_onePart_2.at 36 rfl) ?_
                refine J_goto 290 (D_X12_onePart_2.at 37 rfl) (by decide) ?_
                refine J_callV (d' := 1) (sr := fun z => []) (as := [vI 13]) (st := []) (o := 68) 293 rfl ok_X12_code im_X12_code se_X12_code ml_12_366 isC_12 ob_68 (Ob.lt ob_68) rfl (by decide) ⟨Nat.le_refl _, Nat.le_refl _⟩ (Nat.le_of_ble_eq_true rfl) (D_X12_onePart_2.at 44 rfl) (fun _ => rfl) T (fun r76 h77 T b78 => ?_)
                exact J_vret rfl (D_X12_onePart_2.at 45 rfl) T
              replace T := T.2 c83
              refine J_bipush 247 rfl ⟨by decide, by decide⟩ (D_X12_onePart_2.at 21 rfl) ?_
              refine J_goto 267 (D_X12_onePart_2.at 22 rfl) (by decide) ?_
              refine J_istore_n (lv' := [(2, vI 12), (0, vR 68)]) 268 rfl 2 (by decide) rfl (D_X12_onePart_2.at 31 rfl) ?_
              refine J_aload_n 269 rfl 0 1 rfl ⟨by decide, by decide⟩ (D_X12_onePart_2.at 32 rfl) ?_
              refine J_iload_n 270 rfl 2 0 rfl (D_X12_onePart_2.at 33 rfl) ?_
              refine J_iconst 271 rfl (D_X12_onePart_2.at 34 rfl) ?_
              refine J_icmp_eq 274 rfl 278 ⟨by decide, by decide⟩ ⟨by decide, by decide⟩ (D_X12_onePart_2.at 35 rfl) (by decide) (fun c => absurd c (by decide)) (fun _ => ?_)
              refine J_iload_n 275 rfl 2 0 rfl (D_X12_onePart_2.at 36 rfl) ?_
              refine J_goto 290 (D_X12_onePart_2.at 37 rfl) (by decide) ?_
              refine J_callV (d' := 1) (sr := fun z => []) (as := [vI 12]) (st := []) (o := 68) 293 rfl ok_X12_code im_X12_code se_X12_code ml_12_366 isC_12 ob_68 (Ob.lt ob_68) rfl (by decide) ⟨Nat.le_refl _, Nat.le_refl _⟩ (Nat.le_of_ble_eq_true rfl) (D_X12_onePart_2.at 44 rfl) (fun _ => rfl) T (fun r80 h81 T b82 => ?_)
              exact J_vret rfl (D_X12_onePart_2.at 45 rfl) T
            replace T := T.2 c87
            refine J_bipush 231 rfl ⟨by decide, by decide⟩ (D_X12_onePart_2.at 14 rfl) ?_
            refine J_goto 267 (D_X12_onePart_2.at 15 rfl) (by decide) ?_
            refine J_istore_n (lv' := [(2, vI 11), (0, vR 68)]) 268 rfl 2 (by decide) rfl (D_X12_onePart_2.at 31 rfl) ?_
            refine J_aload_n 269 rfl 0 1 rfl ⟨by decide, by decide⟩ (D_X12_onePart_2.at 32 rfl) ?_
            refine J_iload_n 270 rfl 2 0 rfl (D_X12_onePart_2.at 33 rfl) ?_
            refine J_iconst 271 rfl (D_X12_onePart_2.at 34 rfl) ?_
            refine J_icmp_eq 274 rfl 278 ⟨by decide, by decide⟩ ⟨by decide, by decide⟩ (D_X12_onePart_2.at 35 rfl) (by decide) (fun c => absurd c (by decide)) (fun _ => ?_)
            refine J_iload_n 275 rfl 2 0 rfl (D_X12_onePart_2.at 36 rfl) ?_
            refine J_goto 290 (D_X12_onePart_2.at 37 rfl) (by decide) ?_
            refine J_callV (d' := 1) (sr := fun z => []) (as := [vI 11]) (st := []) (o := 68) 293 rfl ok_X12_code im_X12_code se_X12_code ml_12_366 isC_12 ob_68 (Ob.lt ob_68) rfl (by decide) ⟨Nat.le_refl _, Nat.le_refl _⟩ (Nat.le_of_ble_eq_true rfl) (D_X12_onePart_2.at 44 rfl) (fun _ => rfl) T (fun r84 h85 T b86 => ?_)
            exact J_vret rfl (D_X12_onePart_2.at 45 rfl) T
          replace T := T.2 c91
          refine J_bipush 215 rfl ⟨by decide, by decide⟩ (D_X12_onePart_2.at 7 rfl) ?_
          refine J_goto 267 (D_X12_onePart_2.at 8 rfl) (by decide) ?_
          refine J_istore_n (lv' := [(2, vI 10), (0, vR 68)]) 268 rfl 2 (by decide) rfl (D_X12_onePart_2.at 31 rfl) ?_
          refine J_aload_n 269 rfl 0 1 rfl ⟨by decide, by decide⟩ (D_X12_onePart_2.at 32 rfl) ?_
          refine J_iload_n 270 rfl 2 0 rfl (D_X12_onePart_2.at 33 rfl) ?_
          refine J_iconst 271 rfl (D_X12_onePart_2.at 34 rfl) ?_
          refine J_icmp_eq 274 rfl 278 ⟨by decide, by decide⟩ ⟨by decide, by decide⟩ (D_X12_onePart_2.at 35 rfl) (by decide) (fun c => absurd c (by decide)) (fun _ => ?_)
          refine J_iload_n 275 rfl 2 0 rfl (D_X12_onePart_2.at 36 rfl) ?_
          refine J_goto 290 (D_X12_onePart_2.at 37 rfl) (by decide) ?_
          refine J_callV (d' := 1) (sr := fun z => []) (as := [vI 10]) (st := []) (o := 68) 293 rfl ok_X12_code im_X12_code se_X12_code ml_12_366 isC_12 ob_68 (Ob.lt ob_68) rfl (by decide) ⟨Nat.le_refl _, Nat.le_refl _⟩ (Nat.le_of_ble_eq_true rfl) (D_X12_onePart_2.at 44 rfl) (fun _ => rfl) T (fun r88 h89 T b90 => ?_)
          exact J_vret rfl (D_X12_onePart_2.at 45 rfl) T
        replace T := T.2 c95
        refine J_bipush 199 rfl ⟨by decide, by decide⟩ (D_X12_onePart_2.at 0 rfl) ?_
        refine J_goto 267 (D_X12_onePart_2.at 1 rfl) (by decide) ?_
        refine J_istore_n (lv' := [(2, vI 9), (0, vR 68)]) 268 rfl 2 (by decide) rfl (D_X12_onePart_2.at 31 rfl) ?_
        refine J_aload_n 269 rfl 0 1 rfl ⟨by decide, by decide⟩ (D_X12_onePart_2.at 32 rfl) ?_
        refine J_iload_n 270 rfl 2 0 rfl (D_X12_onePart_2.at 33 rfl) ?_
        refine J_iconst 271 rfl (D_X12_onePart_2.at 34 rfl) ?_
        refine J_icmp_eq 274 rfl 278 ⟨by decide, by decide⟩ ⟨by decide, by decide⟩ (D_X12_onePart_2.at 35 rfl) (by decide) (fun c => absurd c (by decide)) (fun _ => ?_)
        refine J_iload_n 275 rfl 2 0 rfl (D_X12_onePart_2.at 36 rfl) ?_
        refine J_goto 290 (D_X12_onePart_2.at 37 rfl) (by decide) ?_
        refine J_callV (d' := 1) (sr := fun z => []) (as := [vI 9]) (st := []) (o := 68) 293 rfl ok_X12_code im_X12_code se_X12_code ml_12_366 isC_12 ob_68 (Ob.lt ob_68) rfl (by decide) ⟨Nat.le_refl _, Nat.le_refl _⟩ (Nat.le_of_ble_eq_true rfl) (D_X12_onePart_2.at 44 rfl) (fun _ => rfl) T (fun r92 h93 T b94 => ?_)
        exact J_vret rfl (D_X12_onePart_2.at 45 rfl) T
      replace T := T.2 c99
      refine J_bipush 183 rfl ⟨by decide, by decide⟩ (D_X12_onePart_1.at 41 rfl) ?_
      refine J_goto 267 (D_X12_onePart_1.at 42 rfl) (by decide) ?_
      refine J_istore_n (lv' := [(2, vI 8), (0, vR 68)]) 268 rfl 2 (by decide) rfl (D_X12_onePart_2.at 31 rfl) ?_
      refine J_aload_n 269 rfl 0 1 rfl ⟨by decide, by decide⟩ (D_X12_onePart_2.at 32 rfl) ?_
      refine J_iload_n 270 rfl 2 0 rfl (D_X12_onePart_2.at 33 rfl) ?_
      refine J_iconst 271 rfl (D_X12_onePart_2.at 34 rfl) ?_
      refine J_icmp_eq 274 rfl 278 ⟨by decide, by decide⟩ ⟨by decide, by decide⟩ (D_X12_onePart_2.at 35 rfl) (by decide) (fun c => absurd c (by decide)) (fun _ => ?_)
      refine J_iload_n 275 rfl 2 0 rfl (D_X12_onePart_2.at 36 rfl) ?_
      refine J_goto 290 (D_X12_onePart_2.at 37 rfl) (by decide) ?_
      refine J_callV (d' := 1) (sr := fun z => []) (as := [vI 8]) (st := []) (o := 68) 293 rfl ok_X12_code im_X12_code se_X12_code ml_12_366 isC_12 ob_68 (Ob.lt ob_68) rfl (by decide) ⟨Nat.le_refl _, Nat.le_refl _⟩ (Nat.le_of_ble_eq_true rfl) (D_X12_onePart_2.at 44 rfl) (fun _ => rfl) T (fun r96 h97 T b98 => ?_)
      exact J_vret rfl (D_X12_onePart_2.at 45 rfl) T
    replace T := T.2 c103
    refine J_bipush 167 rfl ⟨by decide, by decide⟩ (D_X12_onePart_1.at 34 rfl) ?_
    refine J_goto 267 (D_X12_onePart_1.at 35 rfl) (by decide) ?_
    refine J_istore_n (lv' := [(2, vI 7), (0, vR 68)]) 268 rfl 2 (by decide) rfl (D_X12_onePart_2.at 31 rfl) ?_
    refine J_aload_n 269 rfl 0 1 rfl ⟨by decide, by decide⟩ (D_X12_onePart_2.at 32 rfl) ?_
    refine J_iload_n 270 rfl 2 0 rfl (D_X12_onePart_2.at 33 rfl) ?_
    refine J_iconst 271 rfl (D_X12_onePart_2.at 34 rfl) ?_
    refine J_icmp_eq 274 rfl 278 ⟨by decide, by decide⟩ ⟨by decide, by decide⟩ (D_X12_onePart_2.at 35 rfl) (by decide) (fun c => absurd c (by decide)) (fun _ => ?_)
    refine J_iload_n 275 rfl 2 0 rfl (D_X12_onePart_2.at 36 rfl) ?_
    refine J_goto 290 (D_X12_onePart_2.at 37 rfl) (by decide) ?_
    refine J_callV (d' := 1) (sr := fun z => []) (as := [vI 7]) (st := []) (o := 68) 293 rfl ok_X12_code im_X12_code se_X12_code ml_12_366 isC_12 ob_68 (Ob.lt ob_68) rfl (by decide) ⟨Nat.le_refl _, Nat.le_refl _⟩ (Nat.le_of_ble_eq_true rfl) (D_X12_onePart_2.at 44 rfl) (fun _ => rfl) T (fun r100 h101 T b102 => ?_)
    exact J_vret rfl (D_X12_onePart_2.at 45 rfl) T
  replace T := T.2 c104
  exact J_vret rfl (D_X12_onePart_1.at 28 rfl) T
theorem c_X12_endOf {w : Wd} {a1 a2 : Int} {h : Hp} {K : Int → Hp → Prop} (T : C_X12_isIsland w a1 h (fun r1 h2 => (r1 = 0 ∨ r1 = 1) → ((r1 ≠ 0) → (L_X12_endOf_12 w a2 a1 h2 K)) ∧ (¬ (r1 ≠ 0) → (K (-1) h2)))) : C_X12_endOf w a1 a2 h K := by
  refine CGm_of2 (by decide) (by decide) trivial (Nat.le_of_ble_eq_true rfl) ?_
  refine J_aload_n 1 rfl 0 0 rfl ⟨by decide, by decide⟩ (D_X12_endOf_0.at 0 rfl) ?_
  refine J_iload_n 2 rfl 1 1 rfl (D_X12_endOf_0.at 1 rfl) ?_
  refine J_callV (d' := 3) (sr := fun z => [vI z]) (as := [vI a1]) (st := []) (o := 68) 5 rfl ok_X12_isIsland im_X12_isIsland se_X12_isIsland ml_12_490 isC_12 ob_68 (Ob.lt ob_68) rfl (by decide) ⟨Nat.le_refl _, Nat.le_refl _⟩ (Nat.le_of_ble_eq_true rfl) (D_X12_endOf_0.at 2 rfl) (fun _ => rfl) T (fun r1 h2 T b3 => ?_)
  replace T := T b3
  refine J_if_ne 8 rfl 10 (inR_b b3) (D_X12_endOf_0.at 3 rfl) (by decide) (fun c4 => ?_) (fun c4 => ?_)
  · replace T := T.1 c4
    refine J_iload_n 11 rfl 1 1 rfl (D_X12_endOf_0.at 6 rfl) ?_
    refine J_istore_n (lv' := [(3, vI a1), (0, vR 68), (1, vI a1), (2, vI a2)]) 12 rfl 3 (by decide) rfl (D_X12_endOf_0.at 7 rfl) ?_
    exact J_sub (lv' := [(0, vR 68), (2, vI a2), (3, vI a1)]) [1, 3, 0] rfl T
  replace T := T.2 c4
  refine J_iconst 9 rfl (D_X12_endOf_0.at 4 rfl) ?_
  exact J_iret rfl (D_X12_endOf_0.at 5 rfl) T
theorem l_X12_endOf_12 {w : Wd} {v2 v3 : Int} {h : Hp} {K : Int → Hp → Prop} (T : (inR v2) ∧ (((v2 ≥ 0) → ((inR v3) ∧ ((inR ((h 68 36) - 1)) ∧ (((v3 ≥ ((h 68 36) - 1)) → (K v3 h)) ∧ (¬ (v3 ≥ ((h 68 36) - 1)) → (C_X12_areJoined w v3 h (fun r8 h9 => (r8 = 0 ∨ r8 = 1) → ((r8 = 0) → (K v3 h9)) ∧ (¬ (r8 = 0) → (L_X12_endOf_12 w v2 (v3 + v2) h9 K))))))))) ∧ (¬ (v2 ≥ 0) → ((inR v3) ∧ (((v3 ≤ 0) → (K v3 h)) ∧ (¬ (v3 ≤ 0) → (C_X12_areJoined w (v3 - 1) h (fun r14 h15 => (r14 = 0 ∨ r14 = 1) → ((r14 = 0) → (K v3 h15)) ∧ (¬ (r14 = 0) → (L_X12_endOf_12 w v2 (v3 + v2) h15 K)))))))))) : L_X12_endOf_12 w v2 v3 h K := by
  unfold L_X12_endOf_12
  refine J_iload_n 13 rfl 2 1 rfl (D_X12_endOf_0.at 8 rfl) ?_
  obtain ⟨s5, T⟩ := T
  refine J_if_ge 16 rfl 33 s5 (D_X12_endOf_0.at 9 rfl) (by decide) (fun c19 => ?_) (fun c19 => ?_)
  · replace T := T.1 c19
    refine J_iload_n 34 rfl 3 2 rfl (D_X12_endOf_0.at 19 rfl) ?_
    refine J_aload_n 35 rfl 0 0 rfl ⟨by decide, by decide⟩ (D_X12_endOf_0.at 20 rfl) ?_
    refine J_getI (z := (h 68 36)) 38 rfl fl_12_356 rfl ob_68 (Ob.lt ob_68) (D_X12_endOf_0.at 21 rfl) rfl ?_
    refine J_iconst 39 rfl (D_X12_endOf_0.at 22 rfl) ?_
    refine J_isub 40 rfl (D_X12_endOf_0.at 23 rfl) ?_
    obtain ⟨s6, T⟩ := T
    obtain ⟨s7, T⟩ := T
    refine J_icmp_ge 43 rfl 58 s6 s7 (D_X12_endOf_0.at 24 rfl) (by decide) (fun c12 => ?_) (fun c12 => ?_)
    · replace T := T.1 c12
      refine J_iload_n 59 rfl 3 2 rfl (D_X12_endOf_0.at 34 rfl) ?_
      exact J_iret rfl (D_X12_endOf_0.at 35 rfl) T
    replace T := T.2 c12
    refine J_aload_n 44 rfl 0 0 rfl ⟨by decide, by decide⟩ (D_X12_endOf_0.at 25 rfl) ?_
    refine J_iload_n 45 rfl 3 2 rfl (D_X12_endOf_0.at 26 rfl) ?_
    refine J_callV (d' := 4) (sr := fun z => [vI z]) (as := [vI v3]) (st := []) (o := 68) 48 rfl ok_X12_areJoined im_X12_areJoined se_X12_areJoined ml_12_493 isC_12 ob_68 (Ob.lt ob_68) rfl (by decide) ⟨Nat.le_refl _, Nat.le_refl _⟩ (Nat.le_of_ble_eq_true rfl) (D_X12_endOf_0.at 27 rfl) (fun _ => rfl) T (fun r8 h9 T b10 => ?_)
    replace T := T b10
    refine J_if_eq 51 rfl 58 (inR_b b10) (D_X12_endOf_0.at 28 rfl) (by decide) (fun c11 => ?_) (fun c11 => ?_)
    · replace T := T.1 c11
      refine J_iload_n 59 rfl 3 2 rfl (D_X12_endOf_0.at 34 rfl) ?_
      exact J_iret rfl (D_X12_endOf_0.at 35 rfl) T
    replace T := T.2 c11
    refine J_iload_n 52 rfl 3 2 rfl (D_X12_endOf_0.at 29 rfl) ?_
    refine J_iload_n 53 rfl 2 1 rfl (D_X12_endOf_0.at 30 rfl) ?_
    refine J_iadd 54 rfl (D_X12_endOf_0.at 31 rfl) ?_
    refine J_istore_n (lv' := [(3, vI (v3 + v2)), (0, vR 68), (2, vI v2)]) 55 rfl 3 (by decide) rfl (D_X12_endOf_0.at 32 rfl) ?_
    refine J_goto 12 (D_X12_endOf_0.at 33 rfl) (by decide) ?_
    exact J_sub (lv' := [(0, vR 68), (2, vI v2), (3, vI (v3 + v2))]) [1, 2, 0] rfl T
  replace T := T.2 c19
  refine J_iload_n 17 rfl 3 2 rfl (D_X12_endOf_0.at 10 rfl) ?_
  obtain ⟨s13, T⟩ := T
  refine J_if_le 20 rfl 58 s13 (D_X12_endOf_0.at 11 rfl) (by decide) (fun c18 => ?_) (fun c18 => ?_)
  · replace T := T.1 c18
    refine J_iload_n 59 rfl 3 2 rfl (D_X12_endOf_0.at 34 rfl) ?_
    exact J_iret rfl (D_X12_endOf_0.at 35 rfl) T
  replace T := T.2 c18
  refine J_aload_n 21 rfl 0 0 rfl ⟨by decide, by decide⟩ (D_X12_endOf_0.at 12 rfl) ?_
  refine J_iload_n 22 rfl 3 2 rfl (D_X12_endOf_0.at 13 rfl) ?_
  refine J_iconst 23 rfl (D_X12_endOf_0.at 14 rfl) ?_
  refine J_isub 24 rfl (D_X12_endOf_0.at 15 rfl) ?_
  refine J_callV (d' := 4) (sr := fun z => [vI z]) (as := [vI (v3 - 1)]) (st := []) (o := 68) 27 rfl ok_X12_areJoined im_X12_areJoined se_X12_areJoined ml_12_493 isC_12 ob_68 (Ob.lt ob_68) rfl (by decide) ⟨Nat.le_refl _, Nat.le_refl _⟩ (Nat.le_of_ble_eq_true rfl) (D_X12_endOf_0.at 16 rfl) (fun _ => rfl) T (fun r14 h15 T b16 => ?_)
  replace T := T b16
  refine J_if_eq 30 rfl 58 (inR_b b16) (D_X12_endOf_0.at 17 rfl) (by decide) (fun c17 => ?_) (fun c17 => ?_)
  · replace T := T.1 c17
    refine J_iload_n 59 rfl 3 2 rfl (D_X12_endOf_0.at 34 rfl) ?_
    exact J_iret rfl (D_X12_endOf_0.at 35 rfl) T
  replace T := T.2 c17
  refine J_goto 51 (D_X12_endOf_0.at 18 rfl) (by decide) ?_
  refine J_iload_n 52 rfl 3 2 rfl (D_X12_endOf_0.at 29 rfl) ?_
  refine J_iload_n 53 rfl 2 1 rfl (D_X12_endOf_0.at 30 rfl) ?_
  refine J_iadd 54 rfl (D_X12_endOf_0.at 31 rfl) ?_
  refine J_istore_n (lv' := [(3, vI (v3 + v2)), (0, vR 68), (2, vI v2)]) 55 rfl 3 (by decide) rfl (D_X12_endOf_0.at 32 rfl) ?_
  refine J_goto 12 (D_X12_endOf_0.at 33 rfl) (by decide) ?_
  exact J_sub (lv' := [(0, vR 68), (2, vI v2), (3, vI (v3 + v2))]) [1, 2, 0] rfl T
theorem c_X12_floods {w : Wd} {a1 : Int} {h : Hp} {K : Int → Hp → Prop} (T : L_X12_floods_2 w a1 0 h K) : C_X12_floods w a1 h K := by
  refine CGm_of2 (by decide) (by decide) trivial (Nat.le_of_ble_eq_true rfl) ?_
  refine J_iconst 1 rfl (D_X12_floods_0.at 0 rfl) ?_
  refine J_istore_n (lv' := [(2, vI 0), (0, vR 68), (1, vI a1)]) 2 rfl 2 (by decide) rfl (D_X12_floods_0.at 1 rfl) ?_
  exact J_sub (lv' := [(0, vR 68), (1, vI a1), (2, vI 0)]) [1, 2, 0] rfl T
theorem l_X12_floods_2 {w : Wd} {v1 v2 : Int} {h : Hp} {K : Int → Hp → Prop} (T : (inR v2) ∧ (((v2 ≥ 10) → (L_X12_floods_52 w v1 0 h K)) ∧ (¬ (v2 ≥ 10) → ((0 ≤ (9 + v2) ∧ (9 + v2) < 109) ∧ ((0 ≤ v2 ∧ v2 < 10) ∧ (∀ h4 : Hp, h4 = hu h 106 v2 (h 104 (9 + v2)) → (0 ≤ v2 ∧ v2 < 10) ∧ (∀ h7 : Hp, h7 = hu h4 107 v2 0 → (0 ≤ v2 ∧ v2 < 10) ∧ (∀ h10 : Hp, h10 = hu h7 108 v2 0 → (0 ≤ v2 ∧ v2 < 10) ∧ (∀ h13 : Hp, h13 = hu h10 111 v2 0 → L_X12_floods_2 w v1 (v2 + 1) h13 K))))))))) : L_X12_floods_2 w v1 v2 h K := by
  unfold L_X12_floods_2
  refine J_iload_n 3 rfl 2 2 rfl (D_X12_floods_0.at 2 rfl) ?_
  refine J_bipush 5 rfl ⟨by decide, by decide⟩ (D_X12_floods_0.at 3 rfl) ?_
  obtain ⟨s1, T⟩ := T
  refine J_icmp_ge 8 rfl 50 s1 ⟨by decide, by decide⟩ (D_X12_floods_0.at 4 rfl) (by decide) (fun c15 => ?_) (fun c15 => ?_)
  · replace T := T.1 c15
    refine J_iconst 51 rfl (D_X12_floods_0.at 32 rfl) ?_
    refine J_istore_n (lv' := [(2, vI 0), (0, vR 68), (1, vI v1)]) 52 rfl 2 (by decide) rfl (D_X12_floods_0.at 33 rfl) ?_
    exact J_sub (lv' := [(0, vR 68), (1, vI v1), (2, vI 0)]) [1, 2, 0] rfl T
  replace T := T.2 c15
  refine J_aload_n 9 rfl 0 0 rfl ⟨by decide, by decide⟩ (D_X12_floods_0.at 5 rfl) ?_
  refine J_getF (ov := 106) (dd := 1038) 12 rfl fl_12_127 rfl (by decide) rfl ob_68 (Ob.lt ob_68) (D_X12_floods_0.at 6 rfl) ?_
  refine J_iload_n 13 rfl 2 2 rfl (D_X12_floods_0.at 7 rfl) ?_
  refine J_aload_n 14 rfl 0 0 rfl ⟨by decide, by decide⟩ (D_X12_floods_0.at 8 rfl) ?_
  refine J_getF (ov := 104) (dd := 1036) 17 rfl fl_12_121 rfl (by decide) rfl ob_68 (Ob.lt ob_68) (D_X12_floods_0.at 9 rfl) ?_
  refine J_bipush 19 rfl ⟨by decide, by decide⟩ (D_X12_floods_0.at 10 rfl) ?_
  refine J_iload_n 20 rfl 2 2 rfl (D_X12_floods_0.at 11 rfl) ?_
  refine J_iadd 21 rfl (D_X12_floods_0.at 12 rfl) ?_
  obtain ⟨s2, T⟩ := T
  refine J_iald 22 rfl ar_104 (Ar.lt ar_104) s2 (D_X12_floods_0.at 13 rfl) ?_
  obtain ⟨s3, T⟩ := T
  refine J_iastH 23 rfl ar_106 (Ar.lt ar_106) s3 trivial (D_X12_floods_0.at 14 rfl) (fun h4 e5 => ?_)
  replace T := T h4 e5
  refine J_aload_n 24 rfl 0 0 rfl ⟨by decide, by decide⟩ (D_X12_floods_0.at 15 rfl) ?_
  refine J_getF (ov := 107) (dd := 1039) 27 rfl fl_12_130 rfl (by decide) rfl ob_68 (Ob.lt ob_68) (D_X12_floods_0.at 16 rfl) ?_
  refine J_iload_n 28 rfl 2 2 rfl (D_X12_floods_0.at 17 rfl) ?_
  refine J_iconst 29 rfl (D_X12_floods_0.at 18 rfl) ?_
  obtain ⟨s6, T⟩ := T
  refine J_iastH 30 rfl ar_107 (Ar.lt ar_107) s6 trivial (D_X12_floods_0.at 19 rfl) (fun h7 e8 => ?_)
  replace T := T h7 e8
  refine J_aload_n 31 rfl 0 0 rfl ⟨by decide, by decide⟩ (D_X12_floods_0.at 20 rfl) ?_
  refine J_getF (ov := 108) (dd := 1040) 34 rfl fl_12_133 rfl (by decide) rfl ob_68 (Ob.lt ob_68) (D_X12_floods_0.at 21 rfl) ?_
  refine J_iload_n 35 rfl 2 2 rfl (D_X12_floods_0.at 22 rfl) ?_
  refine J_iconst 36 rfl (D_X12_floods_0.at 23 rfl) ?_
  obtain ⟨s9, T⟩ := T
  refine J_iastH 37 rfl ar_108 (Ar.lt ar_108) s9 trivial (D_X12_floods_0.at 24 rfl) (fun h10 e11 => ?_)
  replace T := T h10 e11
  refine J_aload_n 38 rfl 0 0 rfl ⟨by decide, by decide⟩ (D_X12_floods_0.at 25 rfl) ?_
  refine J_getF (ov := 111) (dd := 1043) 41 rfl fl_12_142 rfl (by decide) rfl ob_68 (Ob.lt ob_68) (D_X12_floods_0.at 26 rfl) ?_
  refine J_iload_n 42 rfl 2 2 rfl (D_X12_floods_0.at 27 rfl) ?_
  refine J_iconst 43 rfl (D_X12_floods_0.at 28 rfl) ?_
  obtain ⟨s12, T⟩ := T
  refine J_iastH 44 rfl ar_111 (Ar.lt ar_111) s12 trivial (D_X12_floods_0.at 29 rfl) (fun h13 e14 => ?_)
  replace T := T h13 e14
  refine J_iinc (v := (v2 + 1)) (lv' := [(2, vI (v2 + 1)), (0, vR 68), (1, vI v1)]) 47 rfl 2 2 1 rfl rfl (by decide) rfl (D_X12_floods_0.at 30 rfl) ?_
  refine J_goto 2 (D_X12_floods_0.at 31 rfl) (by decide) ?_
  exact J_sub (lv' := [(0, vR 68), (1, vI v1), (2, vI (v2 + 1))]) [1, 2, 0] rfl T
theorem l_X12_floods_52 {w : Wd} {v1 v2 : Int} {h : Hp} {K : Int → Hp → Prop} (T : (inR v2) ∧ (((v2 ≥ 80) → (L_X12_floods_80 w v1 0 h K)) ∧ (¬ (v2 ≥ 80) → ((0 ≤ v2 ∧ v2 < 80) ∧ (∀ h18 : Hp, h18 = hu h 109 v2 0 → (0 ≤ v2 ∧ v2 < 80) ∧ (∀ h21 : Hp, h21 = hu h18 110 v2 0 → L_X12_floods_52 w v1 (v2 + 1) h21 K)))))) : L_X12_floods_52 w v1 v2 h K := by
  unfold L_X12_floods_52
  refine J_iload_n 53 rfl 2 2 rfl (D_X12_floods_0.at 34 rfl) ?_
  refine J_bipush 55 rfl ⟨by decide, by decide⟩ (D_X12_floods_0.at 35 rfl) ?_
  obtain ⟨s16, T⟩ := T
  refine J_icmp_ge 58 rfl 78 s16 ⟨by decide, by decide⟩ (D_X12_floods_0.at 36 rfl) (by decide) (fun c23 => ?_) (fun c23 => ?_)
  · replace T := T.1 c23
    refine J_iconst 79 rfl (D_X12_floods_1.at 1 rfl) ?_
    refine J_istore_n (lv' := [(2, vI 0), (0, vR 68), (1, vI v1)]) 80 rfl 2 (by decide) rfl (D_X12_floods_1.at 2 rfl) ?_
    exact J_sub (lv' := [(0, vR 68), (1, vI v1), (2, vI 0)]) [1, 2, 0] rfl T
  replace T := T.2 c23
  refine J_aload_n 59 rfl 0 0 rfl ⟨by decide, by decide⟩ (D_X12_floods_0.at 37 rfl) ?_
  refine J_getF (ov := 109) (dd := 1041) 62 rfl fl_12_136 rfl (by decide) rfl ob_68 (Ob.lt ob_68) (D_X12_floods_0.at 38 rfl) ?_
  refine J_iload_n 63 rfl 2 2 rfl (D_X12_floods_0.at 39 rfl) ?_
  refine J_iconst 64 rfl (D_X12_floods_0.at 40 rfl) ?_
  obtain ⟨s17, T⟩ := T
  refine J_iastH 65 rfl ar_109 (Ar.lt ar_109) s17 trivial (D_X12_floods_0.at 41 rfl) (fun h18 e19 => ?_)
  replace T := T h18 e19
  refine J_aload_n 66 rfl 0 0 rfl ⟨by decide, by decide⟩ (D_X12_floods_0.at 42 rfl) ?_
  refine J_getF (ov := 110) (dd := 1042) 69 rfl fl_12_139 rfl (by decide) rfl ob_68 (Ob.lt ob_68) (D_X12_floods_0.at 43 rfl) ?_
  refine J_iload_n 70 rfl 2 2 rfl (D_X12_floods_0.at 44 rfl) ?_
  refine J_iconst 71 rfl (D_X12_floods_0.at 45 rfl) ?_
  obtain ⟨s20, T⟩ := T
  refine J_iastH 72 rfl ar_110 (Ar.lt ar_110) s20 trivial (D_X12_floods_0.at 46 rfl) (fun h21 e22 => ?_)
  replace T := T h21 e22
  refine J_iinc (v := (v2 + 1)) (lv' := [(2, vI (v2 + 1)), (0, vR 68), (1, vI v1)]) 75 rfl 2 2 1 rfl rfl (by decide) rfl (D_X12_floods_0.at 47 rfl) ?_
  refine J_goto 52 (D_X12_floods_1.at 0 rfl) (by decide) ?_
  exact J_sub (lv' := [(0, vR 68), (1, vI v1), (2, vI (v2 + 1))]) [1, 2, 0] rfl T
theorem l_X12_floods_80 {w : Wd} {v1 v2 : Int} {h : Hp} {K : Int → Hp → Prop} (T : (inR v2) ∧ ((inR (h 68 36)) ∧ (((v2 ≥ (h 68 36)) → (L_X12_floods_189 w 0 h K)) ∧ (¬ (v2 ≥ (h 68 36)) → ((inR v1) ∧ (((v1 ≤ 0) → (L_X12_floods_189 w 0 h K)) ∧ (¬ (v1 ≤ 0) → (L_X12_floods_94 w v1 v2 0 h K)))))))) : L_X12_floods_80 w v1 v2 h K := by
  unfold L_X12_floods_80
  refine J_iload_n 81 rfl 2 2 rfl (D_X12_floods_1.at 3 rfl) ?_
  refine J_aload_n 82 rfl 0 0 rfl ⟨by decide, by decide⟩ (D_X12_floods_1.at 4 rfl) ?_
  refine J_getI (z := (h 68 36)) 85 rfl fl_12_356 rfl ob_68 (Ob.lt ob_68) (D_X12_floods_1.at 5 rfl) rfl ?_
  obtain ⟨s24, T⟩ := T
  obtain ⟨s25, T⟩ := T
  refine J_icmp_ge 88 rfl 187 s24 s25 (D_X12_floods_1.at 6 rfl) (by decide) (fun c28 => ?_) (fun c28 => ?_)
  · replace T := T.1 c28
    refine J_iconst 188 rfl (D_X12_floods_2.at 19 rfl) ?_
    refine J_istore_n (lv' := [(2, vI 0), (0, vR 68), (1, vI v1)]) 189 rfl 2 (by decide) rfl (D_X12_floods_2.at 20 rfl) ?_
    exact J_sub (lv' := [(0, vR 68), (2, vI 0)]) [1, 0] rfl T
  replace T := T.2 c28
  refine J_iload_n 89 rfl 1 1 rfl (D_X12_floods_1.at 7 rfl) ?_
  obtain ⟨s26, T⟩ := T
  refine J_if_le 92 rfl 187 s26 (D_X12_floods_1.at 8 rfl) (by decide) (fun c27 => ?_) (fun c27 => ?_)
  · replace T := T.1 c27
    refine J_iconst 188 rfl (D_X12_floods_2.at 19 rfl) ?_
    refine J_istore_n (lv' := [(2, vI 0), (0, vR 68), (1, vI v1)]) 189 rfl 2 (by decide) rfl (D_X12_floods_2.at 20 rfl) ?_
    exact J_sub (lv' := [(0, vR 68), (2, vI 0)]) [1, 0] rfl T
  replace T := T.2 c27
  refine J_iconst 93 rfl (D_X12_floods_1.at 9 rfl) ?_
  refine J_istore_n (lv' := [(3, vI 0), (0, vR 68), (1, vI v1), (2, vI v2)]) 94 rfl 3 (by decide) rfl (D_X12_floods_1.at 10 rfl) ?_
  exact J_sub (lv' := [(0, vR 68), (1, vI v1), (2, vI v2), (3, vI 0)]) [1, 2, 3, 0] rfl T
theorem l_X12_floods_94 {w : Wd} {v1 v2 v3 : Int} {h : Hp} {K : Int → Hp → Prop} (T : (inR v3) ∧ ((inR (h 93 5)) ∧ (((v3 ≥ (h 93 5)) → (L_X12_floods_117 w v1 v2 0 h K)) ∧ (¬ (v3 ≥ (h 93 5)) → (C_X12_isCut w v3 v2 v1 h (fun _ h32 => L_X12_floods_94 w v1 v2 (v3 + 1) h32 K)))))) : L_X12_floods_94 w v1 v2 v3 h K := by
  unfold L_X12_floods_94
  refine J_iload_n 95 rfl 3 3 rfl (D_X12_floods_1.at 11 rfl) ?_
  refine J_aload_n 96 rfl 0 0 rfl ⟨by decide, by decide⟩ (D_X12_floods_1.at 12 rfl) ?_
  refine J_callV (d' := 1) (K1 := fun z h0 => rok (some .int) z → JG w true m_X12_floods 5 NT NT 99 [(0, vR 68), (1, vI v1), (2, vI v2), (3, vI v3)] [vI z, vI v3] h0 _) (sr := fun z => [vI z, vI v3]) (as := []) (st := [vI v3]) (o := 68) 99 rfl ok_X12_bankMany im_X12_bankMany se_X12_bankMany ml_12_419 isC_12 ob_68 (Ob.lt ob_68) rfl (by decide) ⟨Nat.le_refl _, Nat.le_refl _⟩ (Nat.le_of_ble_eq_true rfl) (D_X12_floods_1.at 13 rfl) (fun _ => rfl) (CGm_of2 (by decide) (by decide) trivial (Nat.le_of_ble_eq_true rfl) ?_) (fun _ _ kq hb => kq hb)
  refine J_aload_n 1 rfl 0 0 rfl ⟨by decide, by decide⟩ (D_X12_bankMany_0.at 0 rfl) ?_
  refine J_getF (ov := 93) (dd := 1025) 4 rfl fl_12_87 rfl (by decide) rfl ob_68 (Ob.lt ob_68) (D_X12_bankMany_0.at 1 rfl) ?_
  refine J_iconst 5 rfl (D_X12_bankMany_0.at 2 rfl) ?_
  refine J_iald 6 rfl ar_93 (Ar.lt ar_93) ⟨by decide, by decide⟩ (D_X12_bankMany_0.at 3 rfl) ?_
  refine J_iret rfl (D_X12_bankMany_0.at 4 rfl) (fun _ => ?_)
  obtain ⟨s29, T⟩ := T
  obtain ⟨s30, T⟩ := T
  refine J_icmp_ge 102 rfl 115 s29 s30 (D_X12_floods_1.at 14 rfl) (by decide) (fun c34 => ?_) (fun c34 => ?_)
  · replace T := T.1 c34
    refine J_iconst 116 rfl (D_X12_floods_1.at 22 rfl) ?_
    refine J_istore_n (lv' := [(3, vI 0), (0, vR 68), (1, vI v1), (2, vI v2)]) 117 rfl 3 (by decide) rfl (D_X12_floods_1.at 23 rfl) ?_
    exact J_sub (lv' := [(0, vR 68), (1, vI v1), (2, vI v2), (3, vI 0)]) [1, 2, 3, 0] rfl T
  replace T := T.2 c34
  refine J_aload_n 103 rfl 0 0 rfl ⟨by decide, by decide⟩ (D_X12_floods_1.at 15 rfl) ?_
  refine J_iload_n 104 rfl 3 3 rfl (D_X12_floods_1.at 16 rfl) ?_
  refine J_iload_n 105 rfl 2 2 rfl (D_X12_floods_1.at 17 rfl) ?_
  refine J_iload_n 106 rfl 1 1 rfl (D_X12_floods_1.at 18 rfl) ?_
  refine J_callV (d' := 4) (sr := fun z => []) (as := [vI v3, vI v2, vI v1]) (st := []) (o := 68) 109 rfl ok_X12_isCut im_X12_isCut se_X12_isCut ml_12_440 isC_12 ob_68 (Ob.lt ob_68) rfl (by decide) ⟨Nat.le_refl _, Nat.le_refl _⟩ (Nat.le_of_ble_eq_true rfl) (D_X12_floods_1.at 19 rfl) (fun _ => rfl) T (fun r31 h32 T b33 => ?_)
  refine J_iinc (v := (v3 + 1)) (lv' := [(3, vI (v3 + 1)), (0, vR 68), (1, vI v1), (2, vI v2)]) 112 rfl 3 3 1 rfl rfl (by decide) rfl (D_X12_floods_1.at 20 rfl) ?_
  refine J_goto 94 (D_X12_floods_1.at 21 rfl) (by decide) ?_
  exact J_sub (lv' := [(0, vR 68), (1, vI v1), (2, vI v2), (3, vI (v3 + 1))]) [1, 2, 3, 0] rfl T
theorem l_X12_floods_117 {w : Wd} {v1 v2 v3 : Int} {h : Hp} {K : Int → Hp → Prop} (T : (inR v3) ∧ ((inR (h 93 5)) ∧ (((v3 ≥ (h 93 5)) → (L_X12_floods_80 w v1 (v2 + 1) h K)) ∧ (¬ (v3 ≥ (h 93 5)) → (C_X12_settlesOf w v3 v2 v1 h (fun r37 h38 => (0 ≤ v3 ∧ v3 < 10) ∧ ((0 ≤ v3 ∧ v3 < 10) ∧ (∀ h42 : Hp, h42 = hu h38 108 v3 ((h38 108 v3) - r37) → (0 ≤ ((10 * v2) + v3) ∧ ((10 * v2) + v3) < 80) ∧ (∀ h45 : Hp, h45 = hu h42 110 ((10 * v2) + v3) r37 → (0 ≤ v3 ∧ v3 < 10) ∧ ((0 ≤ ((10 * v2) + v3) ∧ ((10 * v2) + v3) < 80) ∧ (∀ h49 : Hp, h49 = hu h45 109 ((10 * v2) + v3) (h45 108 v3) → L_X12_floods_117 w v1 v2 (v3 + 1) h49 K))))))))))) : L_X12_floods_117 w v1 v2 v3 h K := by
  unfold L_X12_floods_117
  refine J_iload_n 118 rfl 3 3 rfl (D_X12_floods_1.at 24 rfl) ?_
  refine J_aload_n 119 rfl 0 0 rfl ⟨by decide, by decide⟩ (D_X12_floods_1.at 25 rfl) ?_
  refine J_callV (d' := 1) (K1 := fun z h0 => rok (some .int) z → JG w true m_X12_floods 5 NT NT 122 [(0, vR 68), (1, vI v1), (2, vI v2), (3, vI v3)] [vI z, vI v3] h0 _) (sr := fun z => [vI z, vI v3]) (as := []) (st := [vI v3]) (o := 68) 122 rfl ok_X12_bankMany im_X12_bankMany se_X12_bankMany ml_12_419 isC_12 ob_68 (Ob.lt ob_68) rfl (by decide) ⟨Nat.le_refl _, Nat.le_refl _⟩ (Nat.le_of_ble_eq_true rfl) (D_X12_floods_1.at 26 rfl) (fun _ => rfl) (CGm_of2 (by decide) (by decide) trivial (Nat.le_of_ble_eq_true rfl) ?_) (fun _ _ kq hb => kq hb)
  refine J_aload_n 1 rfl 0 0 rfl ⟨by decide, by decide⟩ (D_X12_bankMany_0.at 0 rfl) ?_
  refine J_getF (ov := 93) (dd := 1025) 4 rfl fl_12_87 rfl (by decide) rfl ob_68 (Ob.lt ob_68) (D_X12_bankMany_0.at 1 rfl) ?_
  refine J_iconst 5 rfl (D_X12_bankMany_0.at 2 rfl) ?_
  refine J_iald 6 rfl ar_93 (Ar.lt ar_93) ⟨by decide, by decide⟩ (D_X12_bankMany_0.at 3 rfl) ?_
  refine J_iret rfl (D_X12_bankMany_0.at 4 rfl) (fun _ => ?_)
  obtain ⟨s35, T⟩ := T
  obtain ⟨s36, T⟩ := T
  refine J_icmp_ge 125 rfl 181 s35 s36 (D_X12_floods_1.at 27 rfl) (by decide) (fun c51 => ?_) (fun c51 => ?_)
  · replace T := T.1 c51
    refine J_iinc (v := (v2 + 1)) (lv' := [(2, vI (v2 + 1)), (0, vR 68), (1, vI v1), (3, vI v3)]) 184 rfl 2 2 1 rfl rfl (by decide) rfl (D_X12_floods_2.at 17 rfl) ?_
    refine J_goto 80 (D_X12_floods_2.at 18 rfl) (by decide) ?_
    exact J_sub (lv' := [(0, vR 68), (1, vI v1), (2, vI (v2 + 1))]) [1, 2, 0] rfl T
  replace T := T.2 c51
  refine J_aload_n 126 rfl 0 0 rfl ⟨by decide, by decide⟩ (D_X12_floods_1.at 28 rfl) ?_
  refine J_iload_n 127 rfl 3 3 rfl (D_X12_floods_1.at 29 rfl) ?_
  refine J_iload_n 128 rfl 2 2 rfl (D_X12_floods_1.at 30 rfl) ?_
  refine J_iload_n 129 rfl 1 1 rfl (D_X12_floods_1.at 31 rfl) ?_
  refine J_callV (d' := 4) (sr := fun z => [vI z]) (as := [vI v3, vI v2, vI v1]) (st := []) (o := 68) 132 rfl ok_X12_settlesOf im_X12_settlesOf se_X12_settlesOf ml_12_443 isC_12 ob_68 (Ob.lt ob_68) rfl (by decide) ⟨Nat.le_refl _, Nat.le_refl _⟩ (Nat.le_of_ble_eq_true rfl) (D_X12_floods_1.at 32 rfl) (fun _ => rfl) T (fun r37 h38 T b39 => ?_)
  refine J_istore (lv' := [(4, vI r37), (0, vR 68), (1, vI v1), (2, vI v2), (3, vI v3)]) 134 rfl 4 (by decide) rfl (D_X12_floods_1.at 33 rfl) ?_
  refine J_aload_n 135 rfl 0 1 rfl ⟨by decide, by decide⟩ (D_X12_floods_1.at 34 rfl) ?_
  refine J_getF (ov := 108) (dd := 1040) 138 rfl fl_12_133 rfl (by decide) rfl ob_68 (Ob.lt ob_68) (D_X12_floods_1.at 35 rfl) ?_
  refine J_iload_n 139 rfl 3 4 rfl (D_X12_floods_1.at 36 rfl) ?_
  refine J_dup2 140 rfl rfl rfl (D_X12_floods_1.at 37 rfl) ?_
  obtain ⟨s40, T⟩ := T
  refine J_iald 141 rfl ar_108 (Ar.lt ar_108) s40 (D_X12_floods_1.at 38 rfl) ?_
  refine J_iload 143 rfl 4 0 rfl (D_X12_floods_1.at 39 rfl) ?_
  refine J_isub 144 rfl (D_X12_floods_1.at 40 rfl) ?_
  obtain ⟨s41, T⟩ := T
  refine J_iastH 145 rfl ar_108 (Ar.lt ar_108) s41 trivial (D_X12_floods_1.at 41 rfl) (fun h42 e43 => ?_)
  replace T := T h42 e43
  refine J_aload_n 146 rfl 0 1 rfl ⟨by decide, by decide⟩ (D_X12_floods_1.at 42 rfl) ?_
  refine J_getF (ov := 110) (dd := 1042) 149 rfl fl_12_139 rfl (by decide) rfl ob_68 (Ob.lt ob_68) (D_X12_floods_1.at 43 rfl) ?_
  refine J_bipush 151 rfl ⟨by decide, by decide⟩ (D_X12_floods_1.at 44 rfl) ?_
  refine J_iload_n 152 rfl 2 3 rfl (D_X12_floods_1.at 45 rfl) ?_
  refine J_imul 153 rfl (D_X12_floods_1.at 46 rfl) ?_
  refine J_iload_n 154 rfl 3 4 rfl (D_X12_floods_1.at 47 rfl) ?_
  refine J_iadd 155 rfl (D_X12_floods_2.at 0 rfl) ?_
  refine J_iload 157 rfl 4 0 rfl (D_X12_floods_2.at 1 rfl) ?_
  obtain ⟨s44, T⟩ := T
  refine J_iastH 158 rfl ar_110 (Ar.lt ar_110) s44 trivial (D_X12_floods_2.at 2 rfl) (fun h45 e46 => ?_)
  replace T := T h45 e46
  refine J_aload_n 159 rfl 0 1 rfl ⟨by decide, by decide⟩ (D_X12_floods_2.at 3 rfl) ?_
  refine J_getF (ov := 109) (dd := 1041) 162 rfl fl_12_136 rfl (by decide) rfl ob_68 (Ob.lt ob_68) (D_X12_floods_2.at 4 rfl) ?_
  refine J_bipush 164 rfl ⟨by decide, by decide⟩ (D_X12_floods_2.at 5 rfl) ?_
  refine J_iload_n 165 rfl 2 3 rfl (D_X12_floods_2.at 6 rfl) ?_
  refine J_imul 166 rfl (D_X12_floods_2.at 7 rfl) ?_
  refine J_iload_n 167 rfl 3 4 rfl (D_X12_floods_2.at 8 rfl) ?_
  refine J_iadd 168 rfl (D_X12_floods_2.at 9 rfl) ?_
  refine J_aload_n 169 rfl 0 1 rfl ⟨by decide, by decide⟩ (D_X12_floods_2.at 10 rfl) ?_
  refine J_getF (ov := 108) (dd := 1040) 172 rfl fl_12_133 rfl (by decide) rfl ob_68 (Ob.lt ob_68) (D_X12_floods_2.at 11 rfl) ?_
  refine J_iload_n 173 rfl 3 4 rfl (D_X12_floods_2.at 12 rfl) ?_
  obtain ⟨s47, T⟩ := T
  refine J_iald 174 rfl ar_108 (Ar.lt ar_108) s47 (D_X12_floods_2.at 13 rfl) ?_
  obtain ⟨s48, T⟩ := T
  refine J_iastH 175 rfl ar_109 (Ar.lt ar_109) s48 trivial (D_X12_floods_2.at 14 rfl) (fun h49 e50 => ?_)
  replace T := T h49 e50
  refine J_iinc (v := (v3 + 1)) (lv' := [(3, vI (v3 + 1)), (4, vI r37), (0, vR 68), (1, vI v1), (2, vI v2)]) 178 rfl 3 4 1 rfl rfl (by decide) rfl (D_X12_floods_2.at 15 rfl) ?_
  refine J_goto 117 (D_X12_floods_2.at 16 rfl) (by decide) ?_
  exact J_sub (lv' := [(0, vR 68), (1, vI v1), (2, vI v2), (3, vI (v3 + 1))]) [2, 3, 4, 0] rfl T
theorem l_X12_floods_189 {w : Wd} {v2 : Int} {h : Hp} {K : Int → Hp → Prop} (T : (inR v2) ∧ ((inR (h 93 5)) ∧ (((v2 ≥ (h 93 5)) → (K 0 h)) ∧ (¬ (v2 ≥ (h 93 5)) → ((0 ≤ v2 ∧ v2 < 10) ∧ ((0 ≤ v2 ∧ v2 < 10) ∧ (∀ h56 : Hp, h56 = hu h 111 v2 (h 108 v2) → L_X12_floods_189 w (v2 + 1) h56 K))))))) : L_X12_floods_189 w v2 h K := by
  unfold L_X12_floods_189
  refine J_iload_n 190 rfl 2 1 rfl (D_X12_floods_2.at 21 rfl) ?_
  refine J_aload_n 191 rfl 0 0 rfl ⟨by decide, by decide⟩ (D_X12_floods_2.at 22 rfl) ?_
  refine J_callV (d' := 1) (K1 := fun z h0 => rok (some .int) z → JG w true m_X12_floods 5 NT NT 194 [(0, vR 68), (2, vI v2)] [vI z, vI v2] h0 _) (sr := fun z => [vI z, vI v2]) (as := []) (st := [vI v2]) (o := 68) 194 rfl ok_X12_bankMany im_X12_bankMany se_X12_bankMany ml_12_419 isC_12 ob_68 (Ob.lt ob_68) rfl (by decide) ⟨Nat.le_refl _, Nat.le_refl _⟩ (Nat.le_of_ble_eq_true rfl) (D_X12_floods_2.at 23 rfl) (fun _ => rfl) (CGm_of2 (by decide) (by decide) trivial (Nat.le_of_ble_eq_true rfl) ?_) (fun _ _ kq hb => kq hb)
  refine J_aload_n 1 rfl 0 0 rfl ⟨by decide, by decide⟩ (D_X12_bankMany_0.at 0 rfl) ?_
  refine J_getF (ov := 93) (dd := 1025) 4 rfl fl_12_87 rfl (by decide) rfl ob_68 (Ob.lt ob_68) (D_X12_bankMany_0.at 1 rfl) ?_
  refine J_iconst 5 rfl (D_X12_bankMany_0.at 2 rfl) ?_
  refine J_iald 6 rfl ar_93 (Ar.lt ar_93) ⟨by decide, by decide⟩ (D_X12_bankMany_0.at 3 rfl) ?_
  refine J_iret rfl (D_X12_bankMany_0.at 4 rfl) (fun _ => ?_)
  obtain ⟨s52, T⟩ := T
  obtain ⟨s53, T⟩ := T
  refine J_icmp_ge 197 rfl 215 s52 s53 (D_X12_floods_2.at 24 rfl) (by decide) (fun c58 => ?_) (fun c58 => ?_)
  · replace T := T.1 c58
    exact J_vret rfl (D_X12_floods_2.at 35 rfl) T
  replace T := T.2 c58
  refine J_aload_n 198 rfl 0 0 rfl ⟨by decide, by decide⟩ (D_X12_floods_2.at 25 rfl) ?_
  refine J_getF (ov := 111) (dd := 1043) 201 rfl fl_12_142 rfl (by decide) rfl ob_68 (Ob.lt ob_68) (D_X12_floods_2.at 26 rfl) ?_
  refine J_iload_n 202 rfl 2 1 rfl (D_X12_floods_2.at 27 rfl) ?_
  refine J_aload_n 203 rfl 0 0 rfl ⟨by decide, by decide⟩ (D_X12_floods_2.at 28 rfl) ?_
  refine J_getF (ov := 108) (dd := 1040) 206 rfl fl_12_133 rfl (by decide) rfl ob_68 (Ob.lt ob_68) (D_X12_floods_2.at 29 rfl) ?_
  refine J_iload_n 207 rfl 2 1 rfl (D_X12_floods_2.at 30 rfl) ?_
  obtain ⟨s54, T⟩ := T
  refine J_iald 208 rfl ar_108 (Ar.lt ar_108) s54 (D_X12_floods_2.at 31 rfl) ?_
  obtain ⟨s55, T⟩ := T
  refine J_iastH 209 rfl ar_111 (Ar.lt ar_111) s55 trivial (D_X12_floods_2.at 32 rfl) (fun h56 e57 => ?_)
  replace T := T h56 e57
  refine J_iinc (v := (v2 + 1)) (lv' := [(2, vI (v2 + 1)), (0, vR 68)]) 212 rfl 2 1 1 rfl rfl (by decide) rfl (D_X12_floods_2.at 33 rfl) ?_
  refine J_goto 189 (D_X12_floods_2.at 34 rfl) (by decide) ?_
  exact J_sub (lv' := [(0, vR 68), (2, vI (v2 + 1))]) [1, 0] rfl T
theorem c_X12_newNamed {w : Wd} {a1 a2 a3 : Int} {h : Hp} {K : Int → Hp → Prop} (T : C_X12_isFull w a1 a2 a3 h (fun r1 h2 => (r1 = 0 ∨ r1 = 1) → ((r1 = 0) → (C_X12_newName w h2 (fun r4 h5 => (inR (h5 68 5)) ∧ ((((h5 68 5) = 0) → ((0 ≤ a1 ∧ a1 < 6) ∧ ((0 ≤ ((10 * a1) + (h5 93 a1)) ∧ ((10 * a1) + (h5 93 a1)) < 60) ∧ (∀ h10 : Hp, h10 = hu h5 94 ((10 * a1) + (h5 93 a1)) r4 → (0 ≤ a1 ∧ a1 < 6) ∧ ((0 ≤ a1 ∧ a1 < 6) ∧ (∀ h14 : Hp, h14 = hu h10 93 a1 ((h10 93 a1) + 1) → K 0 h14)))))) ∧ (¬ ((h5 68 5) = 0) → (K 0 h5)))))) ∧ (¬ (r1 = 0) → (K 0 h2)))) : C_X12_newNamed w a1 a2 a3 h K := by
  refine CGm_of2 (by decide) (by decide) trivial (Nat.le_of_ble_eq_true rfl) ?_
  refine J_aload_n 1 rfl 0 0 rfl ⟨by decide, by decide⟩ (D_X12_newNamed_0.at 0 rfl) ?_
  refine J_iload_n 2 rfl 1 1 rfl (D_X12_newNamed_0.at 1 rfl) ?_
  refine J_iload_n 3 rfl 2 2 rfl (D_X12_newNamed_0.at 2 rfl) ?_
  refine J_iload_n 4 rfl 3 3 rfl (D_X12_newNamed_0.at 3 rfl) ?_
  refine J_callV (d' := 2) (sr := fun z => [vI z]) (as := [vI a1, vI a2, vI a3]) (st := []) (o := 68) 7 rfl ok_X12_isFull im_X12_isFull se_X12_isFull ml_12_290 isC_12 ob_68 (Ob.lt ob_68) rfl (by decide) ⟨Nat.le_refl _, Nat.le_refl _⟩ (Nat.le_of_ble_eq_true rfl) (D_X12_newNamed_0.at 4 rfl) (fun _ => rfl) T (fun r1 h2 T b3 => ?_)
  replace T := T b3
  refine J_if_eq 10 rfl 11 (inR_b b3) (D_X12_newNamed_0.at 5 rfl) (by decide) (fun c17 => ?_) (fun c17 => ?_)
  · replace T := T.1 c17
    refine J_aload_n 12 rfl 0 0 rfl ⟨by decide, by decide⟩ (D_X12_newNamed_0.at 7 rfl) ?_
    refine J_callV (d' := 5) (sr := fun z => [vL z]) (as := []) (st := []) (o := 68) 15 rfl ok_X12_newName im_X12_newName se_X12_newName ml_12_294 isC_12 ob_68 (Ob.lt ob_68) rfl (by decide) ⟨Nat.le_refl _, Nat.le_refl _⟩ (Nat.le_of_ble_eq_true rfl) (D_X12_newNamed_0.at 8 rfl) (fun _ => rfl) T (fun r4 h5 T b6 => ?_)
    refine J_lstore (lv' := [(4, vL r4), (0, vR 68), (1, vI a1), (2, vI a2), (3, vI a3)]) 17 rfl 4 (by decide) rfl (D_X12_newNamed_0.at 9 rfl) ?_
    refine J_aload_n 18 rfl 0 1 rfl ⟨by decide, by decide⟩ (D_X12_newNamed_0.at 10 rfl) ?_
    refine J_getI (z := (h5 68 5)) 21 rfl fl_12_227 rfl ob_68 (Ob.lt ob_68) (D_X12_newNamed_0.at 11 rfl) rfl ?_
    obtain ⟨s7, T⟩ := T
    refine J_if_eq 24 rfl 25 s7 (D_X12_newNamed_0.at 12 rfl) (by decide) (fun c16 => ?_) (fun c16 => ?_)
    · replace T := T.1 c16
      refine J_aload_n 26 rfl 0 1 rfl ⟨by decide, by decide⟩ (D_X12_newNamed_0.at 14 rfl) ?_
      refine J_getF (ov := 94) (dd := 1026) 29 rfl fl_12_90 rfl (by decide) rfl ob_68 (Ob.lt ob_68) (D_X12_newNamed_0.at 15 rfl) ?_
      refine J_bipush 31 rfl ⟨by decide, by decide⟩ (D_X12_newNamed_0.at 16 rfl) ?_
      refine J_iload_n 32 rfl 1 2 rfl (D_X12_newNamed_0.at 17 rfl) ?_
      refine J_imul 33 rfl (D_X12_newNamed_0.at 18 rfl) ?_
      refine J_aload_n 34 rfl 0 1 rfl ⟨by decide, by decide⟩ (D_X12_newNamed_0.at 19 rfl) ?_
      refine J_getF (ov := 93) (dd := 1025) 37 rfl fl_12_87 rfl (by decide) rfl ob_68 (Ob.lt ob_68) (D_X12_newNamed_0.at 20 rfl) ?_
      refine J_iload_n 38 rfl 1 2 rfl (D_X12_newNamed_0.at 21 rfl) ?_
      obtain ⟨s8, T⟩ := T
      refine J_iald 39 rfl ar_93 (Ar.lt ar_93) s8 (D_X12_newNamed_0.at 22 rfl) ?_
      refine J_iadd 40 rfl (D_X12_newNamed_0.at 23 rfl) ?_
      refine J_lload 42 rfl 4 0 rfl (D_X12_newNamed_0.at 24 rfl) ?_
      obtain ⟨s9, T⟩ := T
      refine J_lastH 43 rfl ar_94 (Ar.lt ar_94) s9 trivial (D_X12_newNamed_0.at 25 rfl) (fun h10 e11 => ?_)
      replace T := T h10 e11
      refine J_aload_n 44 rfl 0 1 rfl ⟨by decide, by decide⟩ (D_X12_newNamed_0.at 26 rfl) ?_
      refine J_getF (ov := 93) (dd := 1025) 47 rfl fl_12_87 rfl (by decide) rfl ob_68 (Ob.lt ob_68) (D_X12_newNamed_0.at 27 rfl) ?_
      refine J_iload_n 48 rfl 1 2 rfl (D_X12_newNamed_0.at 28 rfl) ?_
      refine J_dup2 49 rfl rfl rfl (D_X12_newNamed_0.at 29 rfl) ?_
      obtain ⟨s12, T⟩ := T
      refine J_iald 50 rfl ar_93 (Ar.lt ar_93) s12 (D_X12_newNamed_0.at 30 rfl) ?_
      refine J_iconst 51 rfl (D_X12_newNamed_0.at 31 rfl) ?_
      refine J_iadd 52 rfl (D_X12_newNamed_0.at 32 rfl) ?_
      obtain ⟨s13, T⟩ := T
      refine J_iastH 53 rfl ar_93 (Ar.lt ar_93) s13 trivial (D_X12_newNamed_0.at 33 rfl) (fun h14 e15 => ?_)
      replace T := T h14 e15
      exact J_vret rfl (D_X12_newNamed_0.at 34 rfl) T
    replace T := T.2 c16
    exact J_vret rfl (D_X12_newNamed_0.at 13 rfl) T
  replace T := T.2 c17
  exact J_vret rfl (D_X12_newNamed_0.at 6 rfl) T
theorem c_X12_bankTold {w : Wd} {a1 : Int} {h : Hp} {K : Int → Hp → Prop} (T : C_X12_isFull w 2 10 a1 h (fun r1 h2 => (r1 = 0 ∨ r1 = 1) → ((r1 = 0) → (C_X12_newName w h2 (fun r4 h5 => C_X12_asks w 77 h5 (fun _ h8 => C_X12_oneOf w 0 h8 (fun r10 h11 => C_X12_asks w 75 h11 (fun _ h14 => C_X12_oneOf w 1 h14 (fun r16 h17 => C_X12_asks w 73 h17 (fun _ h20 => C_X12_number w 0 ((h20 68 35) - 1) h20 (fun r22 h23 => C_X12_asks w 78 h23 (fun _ h26 => C_X12_number w 0 99 h26 (fun r28 h29 => C_X12_asks w 79 h29 (fun _ h32 => C_X12_number w 1 9 h32 (fun r34 h35 => (inR (h35 68 5)) ∧ ((((h35 68 5) = 0) → ((0 ≤ (20 + (h35 93 2)) ∧ (20 + (h35 93 2)) < 60) ∧ (∀ h39 : Hp, h39 = hu h35 94 (20 + (h35 93 2)) r4 → (0 ≤ (5 * (h2 93 2)) ∧ (5 * (h2 93 2)) < 100) ∧ (∀ h42 : Hp, h42 = hu h39 96 (5 * (h2 93 2)) r10 → (0 ≤ ((5 * (h2 93 2)) + 1) ∧ ((5 * (h2 93 2)) + 1) < 100) ∧ (∀ h45 : Hp, h45 = hu h42 96 ((5 * (h2 93 2)) + 1) r16 → (0 ≤ ((5 * (h2 93 2)) + 2) ∧ ((5 * (h2 93 2)) + 2) < 100) ∧ (∀ h48 : Hp, h48 = hu h45 96 ((5 * (h2 93 2)) + 2) r22 → (0 ≤ ((5 * (h2 93 2)) + 3) ∧ ((5 * (h2 93 2)) + 3) < 100) ∧ (∀ h51 : Hp, h51 = hu h48 96 ((5 * (h2 93 2)) + 3) r28 → (0 ≤ ((5 * (h2 93 2)) + 4) ∧ ((5 * (h2 93 2)) + 4) < 100) ∧ (∀ h54 : Hp, h54 = hu h51 96 ((5 * (h2 93 2)) + 4) r34 → ∀ h56 : Hp, h56 = hu h54 93 2 ((h54 93 2) + 1) → K 0 h56)))))))) ∧ (¬ ((h35 68 5) = 0) → (K 0 h35)))))))))))))))) ∧ (¬ (r1 = 0) → (K 0 h2)))) : C_X12_bankTold w a1 h K := by
  refine CGm_of2 (by decide) (by decide) trivial (Nat.le_of_ble_eq_true rfl) ?_
  refine J_aload_n 1 rfl 0 0 rfl ⟨by decide, by decide⟩ (D_X12_bankTold_0.at 0 rfl) ?_
  refine J_iconst 2 rfl (D_X12_bankTold_0.at 1 rfl) ?_
  refine J_bipush 4 rfl ⟨by decide, by decide⟩ (D_X12_bankTold_0.at 2 rfl) ?_
  refine J_iload_n 5 rfl 1 1 rfl (D_X12_bankTold_0.at 3 rfl) ?_
  refine J_callV (d' := 2) (sr := fun z => [vI z]) (as := [vI 2, vI 10, vI a1]) (st := []) (o := 68) 8 rfl ok_X12_isFull im_X12_isFull se_X12_isFull ml_12_290 isC_12 ob_68 (Ob.lt ob_68) rfl (by decide) ⟨Nat.le_refl _, Nat.le_refl _⟩ (Nat.le_of_ble_eq_true rfl) (D_X12_bankTold_0.at 4 rfl) (fun _ => rfl) T (fun r1 h2 T b3 => ?_)
  replace T := T b3
  refine J_if_eq 11 rfl 12 (inR_b b3) (D_X12_bankTold_0.at 5 rfl) (by decide) (fun c59 => ?_) (fun c59 => ?_)
  · replace T := T.1 c59
    refine J_iconst 13 rfl (D_X12_bankTold_0.at 7 rfl) ?_
    refine J_aload_n 14 rfl 0 0 rfl ⟨by decide, by decide⟩ (D_X12_bankTold_0.at 8 rfl) ?_
    refine J_getF (ov := 93) (dd := 1025) 17 rfl fl_12_87 rfl (by decide) rfl ob_68 (Ob.lt ob_68) (D_X12_bankTold_0.at 9 rfl) ?_
    refine J_iconst 18 rfl (D_X12_bankTold_0.at 10 rfl) ?_
    refine J_iald 19 rfl ar_93 (Ar.lt ar_93) ⟨by decide, by decide⟩ (D_X12_bankTold_0.at 11 rfl) ?_
    refine J_imul 20 rfl (D_X12_bankTold_0.at 12 rfl) ?_
    refine J_istore_n (lv' := [(2, vI (5 * (h2 93 2))), (0, vR 68), (1, vI a1)]) 21 rfl 2 (by decide) rfl (D_X12_bankTold_0.at 13 rfl) ?_
    refine J_aload_n 22 rfl 0 1 rfl ⟨by decide, by decide⟩ (D_X12_bankTold_0.at 14 rfl) ?_
    refine J_callV (d' := 5) (sr := fun z => [vL z]) (as := []) (st := []) (o := 68) 25 rfl ok_X12_newName im_X12_newName se_X12_newName ml_12_294 isC_12 ob_68 (Ob.lt ob_68) rfl (by decide) ⟨Nat.le_refl _, Nat.le_refl _⟩ (Nat.le_of_ble_eq_true rfl) (D_X12_bankTold_0.at 15 rfl) (fun _ => rfl) T (fun r4 h5 T b6 => ?_)
    refine J_lstore_n (lv' := [(3, vL r4), (2, vI (5 * (h2 93 2))), (0, vR 68), (1, vI a1)]) 26 rfl 3 (by decide) rfl (D_X12_bankTold_0.at 16 rfl) ?_
    refine J_aload_n 27 rfl 0 2 rfl ⟨by decide, by decide⟩ (D_X12_bankTold_0.at 17 rfl) ?_
    refine J_aload_n 28 rfl 0 2 rfl ⟨by decide, by decide⟩ (D_X12_bankTold_0.at 18 rfl) ?_
    refine J_getF (ov := 77) (dd := 1009) 31 rfl fl_12_39 rfl (by decide) rfl ob_68 (Ob.lt ob_68) (D_X12_bankTold_0.at 19 rfl) ?_
    refine J_callV (d' := 4) (sr := fun z => []) (as := [vR 77]) (st := []) (o := 68) 34 rfl ok_X12_asks im_X12_asks se_X12_asks ml_12_301 isC_12 ob_68 (Ob.lt ob_68) rfl (by decide) ⟨Nat.le_refl _, Nat.le_refl _⟩ (Nat.le_of_ble_eq_true rfl) (D_X12_bankTold_0.at 20 rfl) (fun _ => rfl) T (fun r7 h8 T b9 => ?_)
    refine J_aload_n 35 rfl 0 2 rfl ⟨by decide, by decide⟩ (D_X12_bankTold_0.at 21 rfl) ?_
    refine J_iconst 36 rfl (D_X12_bankTold_0.at 22 rfl) ?_
    refine J_callV (d' := 5) (sr := fun z => [vI z]) (as := [vI 0]) (st := []) (o := 68) 39 rfl ok_X12_oneOf im_X12_oneOf se_X12_oneOf ml_12_308 isC_12 ob_68 (Ob.lt ob_68) rfl (by decide) ⟨Nat.le_refl _, Nat.le_refl _⟩ (Nat.le_of_ble_eq_true rfl) (D_X12_bankTold_0.at 23 rfl) (fun _ => rfl) T (fun r10 h11 T b12 => ?_)
    refine J_istore (lv' := [(5, vI r10), (3, vL r4), (2, vI (5 * (h2 93 2))), (0, vR 68), (1, vI a1)]) 41 rfl 5 (by decide) rfl (D_X12_bankTold_0.at 24 rfl) ?_
    refine J_aload_n 42 rfl 0 3 rfl ⟨by decide, by decide⟩ (D_X12_bankTold_0.at 25 rfl) ?_
    refine J_aload_n 43 rfl 0 3 rfl ⟨by decide, by decide⟩ (D_X12_bankTold_0.at 26 rfl) ?_
    refine J_getF (ov := 75) (dd := 1007) 46 rfl fl_12_33 rfl (by decide) rfl ob_68 (Ob.lt ob_68) (D_X12_bankTold_0.at 27 rfl) ?_
    refine J_callV (d' := 4) (sr := fun z => []) (as := [vR 75]) (st := []) (o := 68) 49 rfl ok_X12_asks im_X12_asks se_X12_asks ml_12_301 isC_12 ob_68 (Ob.lt ob_68) rfl (by decide) ⟨Nat.le_refl _, Nat.le_refl _⟩ (Nat.le_of_ble_eq_true rfl) (D_X12_bankTold_0.at 28 rfl) (fun _ => rfl) T (fun r13 h14 T b15 => ?_)
    refine J_aload_n 50 rfl 0 3 rfl ⟨by decide, by decide⟩ (D_X12_bankTold_0.at 29 rfl) ?_
    refine J_iconst 51 rfl (D_X12_bankTold_0.at 30 rfl) ?_
    refine J_callV (d' := 5) (sr := fun z => [vI z]) (as := [vI 1]) (st := []) (o := 68) 54 rfl ok_X12_oneOf im_X12_oneOf se_X12_oneOf ml_12_308 isC_12 ob_68 (Ob.lt ob_68) rfl (by decide) ⟨Nat.le_refl _, Nat.le_refl _⟩ (Nat.le_of_ble_eq_true rfl) (D_X12_bankTold_0.at 31 rfl) (fun _ => rfl) T (fun r16 h17 T b18 => ?_)
    refine J_istore (lv' := [(6, vI r16), (5, vI r10), (3, vL r4), (2, vI (5 * (h2 93 2))), (0, vR 68), (1, vI a1)]) 56 rfl 6 (by decide) rfl (D_X12_bankTold_0.at 32 rfl) ?_
    refine J_aload_n 57 rfl 0 4 rfl ⟨by decide, by decide⟩ (D_X12_bankTold_0.at 33 rfl) ?_
    refine J_aload_n 58 rfl 0 4 rfl ⟨by decide, by decide⟩ (D_X12_bankTold_0.at 34 rfl) ?_
    refine J_getF (ov := 73) (dd := 1005) 61 rfl fl_12_27 rfl (by decide) rfl ob_68 (Ob.lt ob_68) (D_X12_bankTold_0.at 35 rfl) ?_
    refine J_callV (d' := 4) (sr := fun z => []) (as := [vR 73]) (st := []) (o := 68) 64 rfl ok_X12_asks im_X12_asks se_X12_asks ml_12_301 isC_12 ob_68 (Ob.lt ob_68) rfl (by decide) ⟨Nat.le_refl _, Nat.le_refl _⟩ (Nat.le_of_ble_eq_true rfl) (D_X12_bankTold_0.at 36 rfl) (fun _ => rfl) T (fun r19 h20 T b21 => ?_)
    refine J_aload_n 65 rfl 0 4 rfl ⟨by decide, by decide⟩ (D_X12_bankTold_0.at 37 rfl) ?_
    refine J_iconst 66 rfl (D_X12_bankTold_0.at 38 rfl) ?_
    refine J_aload_n 67 rfl 0 4 rfl ⟨by decide, by decide⟩ (D_X12_bankTold_0.at 39 rfl) ?_
    refine J_getI (z := (h20 68 35)) 70 rfl fl_12_305 rfl ob_68 (Ob.lt ob_68) (D_X12_bankTold_0.at 40 rfl) rfl ?_
    refine J_iconst 71 rfl (D_X12_bankTold_0.at 41 rfl) ?_
    refine J_isub 72 rfl (D_X12_bankTold_0.at 42 rfl) ?_
    refine J_callV (d' := 2) (sr := fun z => [vI z]) (as := [vI 0, vI ((h20 68 35) - 1)]) (st := []) (o := 68) 75 rfl ok_X12_number im_X12_number se_X12_number ml_12_297 isC_12 ob_68 (Ob.lt ob_68) rfl (by decide) ⟨Nat.le_refl _, Nat.le_refl _⟩ (Nat.le_of_ble_eq_true rfl) (D_X12_bankTold_0.at 43 rfl) (fun _ => rfl) T (fun r22 h23 T b24 => ?_)
    refine J_istore (lv' := [(7, vI r22), (6, vI r16), (5, vI r10), (3, vL r4), (2, vI (5 * (h2 93 2))), (0, vR 68), (1, vI a1)]) 77 rfl 7 (by decide) rfl (D_X12_bankTold_0.at 44 rfl) ?_
    refine J_aload_n 78 rfl 0 5 rfl ⟨by decide, by decide⟩ (D_X12_bankTold_0.at 45 rfl) ?_
    refine J_aload_n 79 rfl 0 5 rfl ⟨by decide, by decide⟩ (D_X12_bankTold_0.at 46 rfl) ?_
    refine J_getF (ov := 78) (dd := 1010) 82 rfl fl_12_42 rfl (by decide) rfl ob_68 (Ob.lt ob_68) (D_X12_bankTold_0.at 47 rfl) ?_
    refine J_callV (d' := 4) (sr := fun z => []) (as := [vR 78]) (st := []) (o := 68) 85 rfl ok_X12_asks im_X12_asks se_X12_asks ml_12_301 isC_12 ob_68 (Ob.lt ob_68) rfl (by decide) ⟨Nat.le_refl _, Nat.le_refl _⟩ (Nat.le_of_ble_eq_true rfl) (D_X12_bankTold_1.at 0 rfl) (fun _ => rfl) T (fun r25 h26 T b27 => ?_)
    refine J_aload_n 86 rfl 0 5 rfl ⟨by decide, by decide⟩ (D_X12_bankTold_1.at 1 rfl) ?_
    refine J_iconst 87 rfl (D_X12_bankTold_1.at 2 rfl) ?_
    refine J_bipush 89 rfl ⟨by decide, by decide⟩ (D_X12_bankTold_1.at 3 rfl) ?_
    refine J_callV (d' := 2) (sr := fun z => [vI z]) (as := [vI 0, vI 99]) (st := []) (o := 68) 92 rfl ok_X12_number im_X12_number se_X12_number ml_12_297 isC_12 ob_68 (Ob.lt ob_68) rfl (by decide) ⟨Nat.le_refl _, Nat.le_refl _⟩ (Nat.le_of_ble_eq_true rfl) (D_X12_bankTold_1.at 4 rfl) (fun _ => rfl) T (fun r28 h29 T b30 => ?_)
    refine J_istore (lv' := [(8, vI r28), (7, vI r22), (6, vI r16), (5, vI r10), (3, vL r4), (2, vI (5 * (h2 93 2))), (0, vR 68), (1, vI a1)]) 94 rfl 8 (by decide) rfl (D_X12_bankTold_1.at 5 rfl) ?_
    refine J_aload_n 95 rfl 0 6 rfl ⟨by decide, by decide⟩ (D_X12_bankTold_1.at 6 rfl) ?_
    refine J_aload_n 96 rfl 0 6 rfl ⟨by decide, by decide⟩ (D_X12_bankTold_1.at 7 rfl) ?_
    refine J_getF (ov := 79) (dd := 1011) 99 rfl fl_12_45 rfl (by decide) rfl ob_68 (Ob.lt ob_68) (D_X12_bankTold_1.at 8 rfl) ?_
    refine J_callV (d' := 4) (sr := fun z => []) (as := [vR 79]) (st := []) (o := 68) 102 rfl ok_X12_asks im_X12_asks se_X12_asks ml_12_301 isC_12 ob_68 (Ob.lt ob_68) rfl (by decide) ⟨Nat.le_refl _, Nat.le_refl _⟩ (Nat.le_of_ble_eq_true rfl) (D_X12_bankTold_1.at 9 rfl) (fun _ => rfl) T (fun r31 h32 T b33 => ?_)
    refine J_aload_n 103 rfl 0 6 rfl ⟨by decide, by decide⟩ (D_X12_bankTold_1.at 10 rfl) ?_
    refine J_iconst 104 rfl (D_X12_bankTold_1.at 11 rfl) ?_
    refine J_bipush 106 rfl ⟨by decide, by decide⟩ (D_X12_bankTold_1.at 12 rfl) ?_
    refine J_callV (d' := 2) (sr := fun z => [vI z]) (as := [vI 1, vI 9]) (st := []) (o := 68) 109 rfl ok_X12_number im_X12_number se_X12_number ml_12_297 isC_12 ob_68 (Ob.lt ob_68) rfl (by decide) ⟨Nat.le_refl _, Nat.le_refl _⟩ (Nat.le_of_ble_eq_true rfl) (D_X12_bankTold_1.at 13 rfl) (fun _ => rfl) T (fun r34 h35 T b36 => ?_)
    refine J_istore (lv' := [(9, vI r34), (8, vI r28), (7, vI r22), (6, vI r16), (5, vI r10), (3, vL r4), (2, vI (5 * (h2 93 2))), (0, vR 68), (1, vI a1)]) 111 rfl 9 (by decide) rfl (D_X12_bankTold_1.at 14 rfl) ?_
    refine J_aload_n 112 rfl 0 7 rfl ⟨by decide, by decide⟩ (D_X12_bankTold_1.at 15 rfl) ?_
    refine J_getI (z := (h35 68 5)) 115 rfl fl_12_227 rfl ob_68 (Ob.lt ob_68) (D_X12_bankTold_1.at 16 rfl) rfl ?_
    obtain ⟨s37, T⟩ := T
    refine J_if_eq 118 rfl 119 s37 (D_X12_bankTold_1.at 17 rfl) (by decide) (fun c58 => ?_) (fun c58 => ?_)
    · replace T := T.1 c58
      refine J_aload_n 120 rfl 0 7 rfl ⟨by decide, by decide⟩ (D_X12_bankTold_1.at 19 rfl) ?_
      refine J_getF (ov := 94) (dd := 1026) 123 rfl fl_12_90 rfl (by decide) rfl ob_68 (Ob.lt ob_68) (D_X12_bankTold_1.at 20 rfl) ?_
      refine J_bipush 125 rfl ⟨by decide, by decide⟩ (D_X12_bankTold_1.at 21 rfl) ?_
      refine J_aload_n 126 rfl 0 7 rfl ⟨by decide, by decide⟩ (D_X12_bankTold_1.at 22 rfl) ?_
      refine J_getF (ov := 93) (dd := 1025) 129 rfl fl_12_87 rfl (by decide) rfl ob_68 (Ob.lt ob_68) (D_X12_bankTold_1.at 23 rfl) ?_
      refine J_iconst 130 rfl (D_X12_bankTold_1.at 24 rfl) ?_
      refine J_iald 131 rfl ar_93 (Ar.lt ar_93) ⟨by decide, by decide⟩ (D_X12_bankTold_1.at 25 rfl) ?_
      refine J_iadd 132 rfl (D_X12_bankTold_1.at 26 rfl) ?_
      refine J_lload_n 133 rfl 3 5 rfl (D_X12_bankTold_1.at 27 rfl) ?_
      obtain ⟨s38, T⟩ := T
      refine J_lastH 134 rfl ar_94 (Ar.lt ar_94) s38 trivial (D_X12_bankTold_1.at 28 rfl) (fun h39 e40 => ?_)
      replace T := T h39 e40
      refine J_aload_n 135 rfl 0 7 rfl ⟨by decide, by decide⟩ (D_X12_bankTold_1.at 29 rfl) ?_
      refine J_getF (ov := 96) (dd := 1028) 138 rfl fl_12_97 rfl (by decide) rfl ob_68 (Ob.lt ob_68) (D_X12_bankTold_1.at 30 rfl) ?_
      refine J_iload_n 139 rfl 2 6 rfl (D_X12_bankTold_1.at 31 rfl) ?_
      refine J_iload 141 rfl 5 4 rfl (D_X12_bankTold_1.at 32 rfl) ?_
      obtain ⟨s41, T⟩ := T
      refine J_iastH 142 rfl ar_96 (Ar.lt ar_96) s41 trivial (D_X12_bankTold_1.at 33 rfl) (fun h42 e43 => ?_)
      replace T := T h42 e43
      refine J_aload_n 143 rfl 0 7 rfl ⟨by decide, by decide⟩ (D_X12_bankTold_1.at 34 rfl) ?_
      refine J_getF (ov := 96) (dd := 1028) 146 rfl fl_12_97 rfl (by decide) rfl ob_68 (Ob.lt ob_68) (D_X12_bankTold_1.at 35 rfl) ?_
      refine J_iload_n 147 rfl 2 6 rfl (D_X12_bankTold_1.at 36 rfl) ?_
      refine J_iconst 148 rfl (D_X12_bankTold_1.at 37 rfl) ?_
      refine J_iadd 149 rfl (D_X12_bankTold_1.at 38 rfl) ?_
      refine J_iload 151 rfl 6 3 rfl (D_X12_bankTold_1.at 39 rfl) ?_
      obtain ⟨s44, T⟩ := T
      refine J_iastH 152 rfl ar_96 (Ar.lt ar_96) s44 trivial (D_X12_bankTold_1.at 40 rfl) (fun h45 e46 => ?_)
      replace T := T h45 e46
      refine J_aload_n 153 rfl 0 7 rfl ⟨by decide, by decide⟩ (D_X12_bankTold_1.at 41 rfl) ?_
      refine J_getF (ov := 96) (dd := 1028) 156 rfl fl_12_97 rfl (by decide) rfl ob_68 (Ob.lt ob_68) (D_X12_bankTold_1.at 42 rfl) ?_
      refine J_iload_n 157 rfl 2 6 rfl (D_X12_bankTold_1.at 43 rfl) ?_
      refine J_iconst 158 rfl (D_X12_bankTold_1.at 44 rfl) ?_
      refine J_iadd 159 rfl (D_X12_bankTold_1.at 45 rfl) ?_
      refine J_iload 161 rfl 7 2 rfl (D_X12_bankTold_1.at 46 rfl) ?_
      obtain ⟨s47, T⟩ := T
      refine J_iastH 162 rfl ar_96 (Ar.lt ar_96) s47 trivial (D_X12_bankTold_1.at 47 rfl) (fun h48 e49 => ?_)
      replace T := T h48 e49
      refine J_aload_n 163 rfl 0 7 rfl ⟨by decide, by decide⟩ (D_X12_bankTold_2.at 0 rfl) ?_
      refine J_getF (ov := 96) (dd := 1028) 166 rfl fl_12_97 rfl (by decide) rfl ob_68 (Ob.lt ob_68) (D_X12_bankTold_2.at 1 rfl) ?_
      refine J_iload_n 167 rfl 2 6 rfl (D_X12_bankTold_2.at 2 rfl) ?_
      refine J_iconst 168 rfl (D_X12_bankTold_2.at 3 rfl) ?_
      refine J_iadd 169 rfl (D_X12_bankTold_2.at 4 rfl) ?_
      refine J_iload 171 rfl 8 1 rfl (D_X12_bankTold_2.at 5 rfl) ?_
      obtain ⟨s50, T⟩ := T
      refine J_iastH 172 rfl ar_96 (Ar.lt ar_96) s50 trivial (D_X12_bankTold_2.at 6 rfl) (fun h51 e52 => ?_)
      replace T := T h51 e52
      refine J_aload_n 173 rfl 0 7 rfl ⟨by decide, by decide⟩ (D_X12_bankTold_2.at 7 rfl) ?_
      refine J_getF (ov := 96) (dd := 1028) 176 rfl fl_12_97 rfl (by decide) rfl ob_68 (Ob.lt ob_68) (D_X12_bankTold_2.at 8 rfl) ?_
      refine J_iload_n 177 rfl 2 6 rfl (D_X12_bankTold_2.at 9 rfl) ?_
      refine J_iconst 178 rfl (D_X12_bankTold_2.at 10 rfl) ?_
      refine J_iadd 179 rfl (D_X12_bankTold_2.at 11 rfl) ?_
      refine J_iload 181 rfl 9 0 rfl (D_X12_bankTold_2.at 12 rfl) ?_
      obtain ⟨s53, T⟩ := T
      refine J_iastH 182 rfl ar_96 (Ar.lt ar_96) s53 trivial (D_X12_bankTold_2.at 13 rfl) (fun h54 e55 => ?_)
      replace T := T h54 e55
      refine J_aload_n 183 rfl 0 7 rfl ⟨by decide, by decide⟩ (D_X12_bankTold_2.at 14 rfl) ?_
      refine J_getF (ov := 93) (dd := 1025) 186 rfl fl_12_87 rfl (by decide) rfl ob_68 (Ob.lt ob_68) (D_X12_bankTold_2.at 15 rfl) ?_
      refine J_iconst 187 rfl (D_X12_bankTold_2.at 16 rfl) ?_
      refine J_dup2 188 rfl rfl rfl (D_X12_bankTold_2.at 17 rfl) ?_
      refine J_iald 189 rfl ar_93 (Ar.lt ar_93) ⟨by decide, by decide⟩ (D_X12_bankTold_2.at 18 rfl) ?_
      refine J_iconst 190 rfl (D_X12_bankTold_2.at 19 rfl) ?_
      refine J_iadd 191 rfl (D_X12_bankTold_2.at 20 rfl) ?_
      refine J_iastH 192 rfl ar_93 (Ar.lt ar_93) ⟨by decide, by decide⟩ trivial (D_X12_bankTold_2.at 21 rfl) (fun h56 e57 => ?_)
      replace T := T h56 e57
      exact J_vret rfl (D_X12_bankTold_2.at 22 rfl) T
    replace T := T.2 c58
    exact J_vret rfl (D_X12_bankTold_1.at 18 rfl) T
  replace T := T.2 c59
  exact J_vret rfl (D_X12_bankTold_0.at 6 rfl) T
theorem c_X12_sumsTold {w : Wd} {h : Hp} {K : Int → Hp → Prop} (T : ∀ h1 : Hp, h1 = hu h 68 48 (h 68 46) → L_X12_sumsTold_15 w (h 68 48) 1 h1 K) : C_X12_sumsTold w h K := by
  refine CGm_of2 (by decide) (by decide) trivial (Nat.le_of_ble_eq_true rfl) ?_
  refine J_aload_n 1 rfl 0 0 rfl ⟨by decide, by decide⟩ (D_X12_sumsTold_0.at 0 rfl) ?_
  refine J_getI (z := (h 68 48)) 4 rfl fl_12_321 rfl ob_68 (Ob.lt ob_68) (D_X12_sumsTold_0.at 1 rfl) rfl ?_
  refine J_istore_n (lv' := [(1, vI (h 68 48)), (0, vR 68)]) 5 rfl 1 (by decide) rfl (D_X12_sumsTold_0.at 2 rfl) ?_
  refine J_aload_n 6 rfl 0 1 rfl ⟨by decide, by decide⟩ (D_X12_sumsTold_0.at 3 rfl) ?_
  refine J_aload_n 7 rfl 0 1 rfl ⟨by decide, by decide⟩ (D_X12_sumsTold_0.at 4 rfl) ?_
  refine J_getI (z := (h 68 46)) 10 rfl fl_12_315 rfl ob_68 (Ob.lt ob_68) (D_X12_sumsTold_0.at 5 rfl) rfl ?_
  refine J_putI 13 rfl fl_12_321 rfl rfl ob_68 (Ob.lt ob_68) (D_X12_sumsTold_0.at 6 rfl) (fun h1 e2 => ?_)
  replace T := T h1 e2
  refine J_iconst 14 rfl (D_X12_sumsTold_0.at 7 rfl) ?_
  refine J_istore_n (lv' := [(2, vI 1), (1, vI (h 68 48)), (0, vR 68)]) 15 rfl 2 (by decide) rfl (D_X12_sumsTold_0.at 8 rfl) ?_
  exact J_sub (lv' := [(0, vR 68), (1, vI (h 68 48)), (2, vI 1)]) [2, 1, 0] rfl T
theorem l_X12_sumsTold_15 {w : Wd} {v1 v2 : Int} {h : Hp} {K : Int → Hp → Prop} (T : (inR v2) ∧ (((v2 = 0) → (L_X12_sumsTold_53 w v1 h K)) ∧ (¬ (v2 = 0) → ((inR (h 68 5)) ∧ ((((h 68 5) ≠ 0) → (L_X12_sumsTold_53 w v1 h K)) ∧ (¬ ((h 68 5) ≠ 0) → (C_X12_onePart w h (fun _ h6 => (inR (h6 68 5)) ∧ ((((h6 68 5) ≠ 0) → (L_X12_sumsTold_15 w v1 0 h6 K)) ∧ (¬ ((h6 68 5) ≠ 0) → (C_X12_goesOn w h6 (fun r9 h10 => (r9 = 0 ∨ r9 = 1) → ((r9 = 0) → (L_X12_sumsTold_15 w v1 0 h10 K)) ∧ (¬ (r9 = 0) → (L_X12_sumsTold_15 w v1 1 h10 K)))))))))))))) : L_X12_sumsTold_15 w v1 v2 h K := by
  unfold L_X12_sumsTold_15
  refine J_iload_n 16 rfl 2 2 rfl (D_X12_sumsTold_0.at 9 rfl) ?_
  obtain ⟨s3, T⟩ := T
  refine J_if_eq 19 rfl 53 s3 (D_X12_sumsTold_0.at 10 rfl) (by decide) (fun c15 => ?_) (fun c15 => ?_)
  · replace T := T.1 c15
    exact J_sub (lv' := [(0, vR 68), (1, vI v1)]) [0, 1] rfl T
  replace T := T.2 c15
  refine J_aload_n 20 rfl 0 0 rfl ⟨by decide, by decide⟩ (D_X12_sumsTold_0.at 11 rfl) ?_
  refine J_getI (z := (h 68 5)) 23 rfl fl_12_227 rfl ob_68 (Ob.lt ob_68) (D_X12_sumsTold_0.at 12 rfl) rfl ?_
  obtain ⟨s4, T⟩ := T
  refine J_if_ne 26 rfl 53 s4 (D_X12_sumsTold_0.at 13 rfl) (by decide) (fun c14 => ?_) (fun c14 => ?_)
  · replace T := T.1 c14
    exact J_sub (lv' := [(0, vR 68), (1, vI v1)]) [0, 1] rfl T
  replace T := T.2 c14
  refine J_aload_n 27 rfl 0 0 rfl ⟨by decide, by decide⟩ (D_X12_sumsTold_0.at 14 rfl) ?_
  refine J_callV (d' := 5) (sr := fun z => []) (as := []) (st := []) (o := 68) 30 rfl ok_X12_onePart im_X12_onePart se_X12_onePart ml_12_387 isC_12 ob_68 (Ob.lt ob_68) rfl (by decide) ⟨Nat.le_refl _, Nat.le_refl _⟩ (Nat.le_of_ble_eq_true rfl) (D_X12_sumsTold_0.at 15 rfl) (fun _ => rfl) T (fun r5 h6 T b7 => ?_)
  refine J_aload_n 31 rfl 0 0 rfl ⟨by decide, by decide⟩ (D_X12_sumsTold_0.at 16 rfl) ?_
  refine J_getI (z := (h6 68 5)) 34 rfl fl_12_227 rfl ob_68 (Ob.lt ob_68) (D_X12_sumsTold_0.at 17 rfl) rfl ?_
  obtain ⟨s8, T⟩ := T
  refine J_if_ne 37 rfl 48 s8 (D_X12_sumsTold_0.at 18 rfl) (by decide) (fun c13 => ?_) (fun c13 => ?_)
  · replace T := T.1 c13
    refine J_iconst 49 rfl (D_X12_sumsTold_0.at 24 rfl) ?_
    refine J_istore_n (lv' := [(2, vI 0), (0, vR 68), (1, vI v1)]) 50 rfl 2 (by decide) rfl (D_X12_sumsTold_0.at 25 rfl) ?_
    refine J_goto 15 (D_X12_sumsTold_0.at 26 rfl) (by decide) ?_
    exact J_sub (lv' := [(0, vR 68), (1, vI v1), (2, vI 0)]) [1, 2, 0] rfl T
  replace T := T.2 c13
  refine J_aload_n 38 rfl 0 0 rfl ⟨by decide, by decide⟩ (D_X12_sumsTold_0.at 19 rfl) ?_
  refine J_callV (d' := 4) (sr := fun z => [vI z]) (as := []) (st := []) (o := 68) 41 rfl ok_X12_goesOn im_X12_goesOn se_X12_goesOn ml_12_390 isC_12 ob_68 (Ob.lt ob_68) rfl (by decide) ⟨Nat.le_refl _, Nat.le_refl _⟩ (Nat.le_of_ble_eq_true rfl) (D_X12_sumsTold_0.at 20 rfl) (fun _ => rfl) T (fun r9 h10 T b11 => ?_)
  replace T := T b11
  refine J_if_eq 44 rfl 48 (inR_b b11) (D_X12_sumsTold_0.at 21 rfl) (by decide) (fun c12 => ?_) (fun c12 => ?_)
  · replace T := T.1 c12
    refine J_iconst 49 rfl (D_X12_sumsTold_0.at 24 rfl) ?_
    refine J_istore_n (lv' := [(2, vI 0), (0, vR 68), (1, vI v1)]) 50 rfl 2 (by decide) rfl (D_X12_sumsTold_0.at 25 rfl) ?_
    refine J_goto 15 (D_X12_sumsTold_0.at 26 rfl) (by decide) ?_
    exact J_sub (lv' := [(0, vR 68), (1, vI v1), (2, vI 0)]) [1, 2, 0] rfl T
  replace T := T.2 c12
  refine J_iconst 45 rfl (D_X12_sumsTold_0.at 22 rfl) ?_
  refine J_goto 49 (D_X12_sumsTold_0.at 23 rfl) (by decide) ?_
  refine J_istore_n (lv' := [(2, vI 1), (0, vR 68), (1, vI v1)]) 50 rfl 2 (by decide) rfl (D_X12_sumsTold_0.at 25 rfl) ?_
  refine J_goto 15 (D_X12_sumsTold_0.at 26 rfl) (by decide) ?_
  exact J_sub (lv' := [(0, vR 68), (1, vI v1), (2, vI 1)]) [1, 2, 0] rfl T
theorem l_X12_sumsTold_53 {w : Wd} {v1 : Int} {h : Hp} {K : Int → Hp → Prop} (T : (inR (h 68 5)) ∧ ((((h 68 5) ≠ 0) → (∀ h17 : Hp, h17 = hu h 68 48 v1 → K 0 h17)) ∧ (¬ ((h 68 5) ≠ 0) → ((inR (h 68 46)) ∧ ((inR (h 68 48)) ∧ ((((h 68 46) ≤ (h 68 48)) → (∀ h21 : Hp, h21 = hu h 68 48 v1 → K 0 h21)) ∧ (¬ ((h 68 46) ≤ (h 68 48)) → (C_X12_drops w h (fun _ h24 => L_X12_sumsTold_53 w v1 h24 K))))))))) : L_X12_sumsTold_53 w v1 h K := by
  unfold L_X12_sumsTold_53
  refine J_aload_n 54 rfl 0 0 rfl ⟨by decide, by decide⟩ (D_X12_sumsTold_0.at 27 rfl) ?_
  refine J_getI (z := (h 68 5)) 57 rfl fl_12_227 rfl ob_68 (Ob.lt ob_68) (D_X12_sumsTold_0.at 28 rfl) rfl ?_
  obtain ⟨s16, T⟩ := T
  refine J_if_ne 60 rfl 78 s16 (D_X12_sumsTold_0.at 29 rfl) (by decide) (fun c27 => ?_) (fun c27 => ?_)
  · replace T := T.1 c27
    refine J_aload_n 79 rfl 0 0 rfl ⟨by decide, by decide⟩ (D_X12_sumsTold_0.at 38 rfl) ?_
    refine J_iload_n 80 rfl 1 1 rfl (D_X12_sumsTold_0.at 39 rfl) ?_
    refine J_putI 83 rfl fl_12_321 rfl rfl ob_68 (Ob.lt ob_68) (D_X12_sumsTold_0.at 40 rfl) (fun h17 e18 => ?_)
    replace T := T h17 e18
    exact J_vret rfl (D_X12_sumsTold_0.at 41 rfl) T
  replace T := T.2 c27
  refine J_aload_n 61 rfl 0 0 rfl ⟨by decide, by decide⟩ (D_X12_sumsTold_0.at 30 rfl) ?_
  refine J_getI (z := (h 68 46)) 64 rfl fl_12_315 rfl ob_68 (Ob.lt ob_68) (D_X12_sumsTold_0.at 31 rfl) rfl ?_
  refine J_aload_n 65 rfl 0 0 rfl ⟨by decide, by decide⟩ (D_X12_sumsTold_0.at 32 rfl) ?_
  refine J_getI (z := (h 68 48)) 68 rfl fl_12_321 rfl ob_68 (Ob.lt ob_68) (D_X12_sumsTold_0.at 33 rfl) rfl ?_
  obtain ⟨s19, T⟩ := T
  obtain ⟨s20, T⟩ := T
  refine J_icmp_le 71 rfl 78 s19 s20 (D_X12_sumsTold_0.at 34 rfl) (by decide) (fun c26 => ?_) (fun c26 => ?_)
  · replace T := T.1 c26
    refine J_aload_n 79 rfl 0 0 rfl ⟨by decide, by decide⟩ (D_X12_sumsTold_0.at 38 rfl) ?_
    refine J_iload_n 80 rfl 1 1 rfl (D_X12_sumsTold_0.at 39 rfl) ?_
    refine J_putI 83 rfl fl_12_321 rfl rfl ob_68 (Ob.lt ob_68) (D_X12_sumsTold_0.at 40 rfl) (fun h21 e22 => ?_)
    replace T := T h21 e22
    exact J_vret rfl (D_X12_sumsTold_0.at 41 rfl) T
  replace T := T.2 c26
  refine J_aload_n 72 rfl 0 0 rfl ⟨by decide, by decide⟩ (D_X12_sumsTold_0.at 35 rfl) ?_
  refine J_callV (d' := 2) (sr := fun z => []) (as := []) (st := []) (o := 68) 75 rfl ok_X12_drops im_X12_drops se_X12_drops ml_12_372 isC_12 ob_68 (Ob.lt ob_68) rfl (by decide) ⟨Nat.le_refl _, Nat.le_refl _⟩ (Nat.le_of_ble_eq_true rfl) (D_X12_sumsTold_0.at 36 rfl) (fun _ => rfl) T (fun r23 h24 T b25 => ?_)
  refine J_goto 53 (D_X12_sumsTold_0.at 37 rfl) (by decide) ?_
  exact T
theorem c_X12_voteOf {w : Wd} {a1 : Int} {h : Hp} {K : Int → Hp → Prop} (T : C_X12_isIsland w a1 h (fun r1 h2 => (r1 = 0 ∨ r1 = 1) → ((r1 ≠ 0) → (L_X12_voteOf_17 w a1 0 (-1) 0 h2 K)) ∧ (¬ (r1 ≠ 0) → (K (-1) h2)))) : C_X12_voteOf w a1 h K := by
  refine CGm_of2 (by decide) (by decide) trivial (Nat.le_of_ble_eq_true rfl) ?_
  refine J_aload_n 1 rfl 0 0 rfl ⟨by decide, by decide⟩ (D_X12_voteOf_0.at 0 rfl) ?_
  refine J_iload_n 2 rfl 1 1 rfl (D_X12_voteOf_0.at 1 rfl) ?_
  refine J_callV (d' := 3) (sr := fun z => [vI z]) (as := [vI a1]) (st := []) (o := 68) 5 rfl ok_X12_isIsland im_X12_isIsland se_X12_isIsland ml_12_490 isC_12 ob_68 (Ob.lt ob_68) rfl (by decide) ⟨Nat.le_refl _, Nat.le_refl _⟩ (Nat.le_of_ble_eq_true rfl) (D_X12_voteOf_0.at 2 rfl) (fun _ => rfl) T (fun r1 h2 T b3 => ?_)
  replace T := T b3
  refine J_if_ne 8 rfl 10 (inR_b b3) (D_X12_voteOf_0.at 3 rfl) (by decide) (fun c4 => ?_) (fun c4 => ?_)
  · replace T := T.1 c4
    refine J_iconst 11 rfl (D_X12_voteOf_0.at 6 rfl) ?_
    refine J_istore_n (lv' := [(2, vI 0), (0, vR 68), (1, vI a1)]) 12 rfl 2 (by decide) rfl (D_X12_voteOf_0.at 7 rfl) ?_
    refine J_iconst 13 rfl (D_X12_voteOf_0.at 8 rfl) ?_
    refine J_istore_n (lv' := [(3, vI (-1)), (2, vI 0), (0, vR 68), (1, vI a1)]) 14 rfl 3 (by decide) rfl (D_X12_voteOf_0.at 9 rfl) ?_
    refine J_iconst 15 rfl (D_X12_voteOf_0.at 10 rfl) ?_
    refine J_istore (lv' := [(4, vI 0), (3, vI (-1)), (2, vI 0), (0, vR 68), (1, vI a1)]) 17 rfl 4 (by decide) rfl (D_X12_voteOf_0.at 11 rfl) ?_
    exact J_sub (lv' := [(0, vR 68), (1, vI a1), (2, vI 0), (3, vI (-1)), (4, vI 0)]) [3, 4, 2, 1, 0] rfl T
  replace T := T.2 c4
  refine J_iconst 9 rfl (D_X12_voteOf_0.at 4 rfl) ?_
  exact J_iret rfl (D_X12_voteOf_0.at 5 rfl) T
theorem l_X12_voteOf_17 {w : Wd} {v1 v2 v3 v4 : Int} {h : Hp} {K : Int → Hp → Prop} (T : (inR v4) ∧ ((inR (h 93 3)) ∧ (((v4 ≥ (h 93 3)) → (K v2 h)) ∧ (¬ (v4 ≥ (h 93 3)) → (C_X12_endOf w v1 (-1) h (fun r7 h8 => L_X12_voteOf_37 w v1 v2 v3 v4 0 r7 h8 K)))))) : L_X12_voteOf_17 w v1 v2 v3 v4 h K := by
  unfold L_X12_voteOf_17
  refine J_iload 19 rfl 4 4 rfl (D_X12_voteOf_0.at 12 rfl) ?_
  refine J_aload_n 20 rfl 0 0 rfl ⟨by decide, by decide⟩ (D_X12_voteOf_0.at 13 rfl) ?_
  refine J_callV (d' := 1) (K1 := fun z h0 => rok (some .int) z → JG w true m_X12_voteOf 6 NT NT 23 [(0, vR 68), (1, vI v1), (2, vI v2), (3, vI v3), (4, vI v4)] [vI z, vI v4] h0 _) (sr := fun z => [vI z, vI v4]) (as := []) (st := [vI v4]) (o := 68) 23 rfl ok_X12_ownerMany im_X12_ownerMany se_X12_ownerMany ml_12_422 isC_12 ob_68 (Ob.lt ob_68) rfl (by decide) ⟨Nat.le_refl _, Nat.le_refl _⟩ (Nat.le_of_ble_eq_true rfl) (D_X12_voteOf_0.at 14 rfl) (fun _ => rfl) (CGm_of2 (by decide) (by decide) trivial (Nat.le_of_ble_eq_true rfl) ?_) (fun _ _ kq hb => kq hb)
  refine J_aload_n 1 rfl 0 0 rfl ⟨by decide, by decide⟩ (D_X12_ownerMany_0.at 0 rfl) ?_
  refine J_getF (ov := 93) (dd := 1025) 4 rfl fl_12_87 rfl (by decide) rfl ob_68 (Ob.lt ob_68) (D_X12_ownerMany_0.at 1 rfl) ?_
  refine J_iconst 5 rfl (D_X12_ownerMany_0.at 2 rfl) ?_
  refine J_iald 6 rfl ar_93 (Ar.lt ar_93) ⟨by decide, by decide⟩ (D_X12_ownerMany_0.at 3 rfl) ?_
  refine J_iret rfl (D_X12_ownerMany_0.at 4 rfl) (fun _ => ?_)
  obtain ⟨s5, T⟩ := T
  obtain ⟨s6, T⟩ := T
  refine J_icmp_ge 26 rfl 88 s5 s6 (D_X12_voteOf_0.at 15 rfl) (by decide) (fun c10 => ?_) (fun c10 => ?_)
  · replace T := T.1 c10
    refine J_iload_n 89 rfl 2 2 rfl (D_X12_voteOf_1.at 0 rfl) ?_
    exact J_iret rfl (D_X12_voteOf_1.at 1 rfl) T
  replace T := T.2 c10
  refine J_iconst 27 rfl (D_X12_voteOf_0.at 16 rfl) ?_
  refine J_istore (lv' := [(5, vI 0), (0, vR 68), (1, vI v1), (2, vI v2), (3, vI v3), (4, vI v4)]) 29 rfl 5 (by decide) rfl (D_X12_voteOf_0.at 17 rfl) ?_
  refine J_aload_n 30 rfl 0 1 rfl ⟨by decide, by decide⟩ (D_X12_voteOf_0.at 18 rfl) ?_
  refine J_iload_n 31 rfl 1 2 rfl (D_X12_voteOf_0.at 19 rfl) ?_
  refine J_iconst 32 rfl (D_X12_voteOf_0.at 20 rfl) ?_
  refine J_callV (d' := 5) (sr := fun z => [vI z]) (as := [vI v1, vI (-1)]) (st := []) (o := 68) 35 rfl ok_X12_endOf im_X12_endOf se_X12_endOf ml_12_496 isC_12 ob_68 (Ob.lt ob_68) rfl (by decide) ⟨Nat.le_refl _, Nat.le_refl _⟩ (Nat.le_of_ble_eq_true rfl) (D_X12_voteOf_0.at 21 rfl) (fun _ => rfl) T (fun r7 h8 T b9 => ?_)
  refine J_istore (lv' := [(6, vI r7), (5, vI 0), (0, vR 68), (1, vI v1), (2, vI v2), (3, vI v3), (4, vI v4)]) 37 rfl 6 (by decide) rfl (D_X12_voteOf_0.at 22 rfl) ?_
  exact J_sub (lv' := [(0, vR 68), (1, vI v1), (2, vI v2), (3, vI v3), (4, vI v4), (5, vI 0), (6, vI r7)]) [2, 3, 4, 5, 6, 1, 0] rfl T
theorem l_X12_voteOf_37 {w : Wd} {v1 v2 v3 v4 v5 v6 : Int} {h : Hp} {K : Int → Hp → Prop} (T : C_X12_endOf w v1 1 h (fun r11 h12 => (inR v6) ∧ ((inR r11) ∧ (((v6 > r11) → ((inR v5) ∧ ((inR v3) ∧ (((v5 > v3) → (L_X12_voteOf_17 w v1 v4 v5 (v4 + 1) h12 K)) ∧ (¬ (v5 > v3) → (L_X12_voteOf_17 w v1 v2 v3 (v4 + 1) h12 K)))))) ∧ (¬ (v6 > r11) → (C_X12_ownersIn w v6 v4 h12 (fun r19 h20 => L_X12_voteOf_37 w v1 v2 v3 v4 (v5 + r19) (v6 + 1) h20 K))))))) : L_X12_voteOf_37 w v1 v2 v3 v4 v5 v6 h K := by
  unfold L_X12_voteOf_37
  refine J_iload 39 rfl 6 6 rfl (D_X12_voteOf_0.at 23 rfl) ?_
  refine J_aload_n 40 rfl 0 0 rfl ⟨by decide, by decide⟩ (D_X12_voteOf_0.at 24 rfl) ?_
  refine J_iload_n 41 rfl 1 1 rfl (D_X12_voteOf_0.at 25 rfl) ?_
  refine J_iconst 42 rfl (D_X12_voteOf_0.at 26 rfl) ?_
  refine J_callV (d' := 5) (sr := fun z => [vI z, vI v6]) (as := [vI v1, vI 1]) (st := [vI v6]) (o := 68) 45 rfl ok_X12_endOf im_X12_endOf se_X12_endOf ml_12_496 isC_12 ob_68 (Ob.lt ob_68) rfl (by decide) ⟨Nat.le_refl _, Nat.le_refl _⟩ (Nat.le_of_ble_eq_true rfl) (D_X12_voteOf_0.at 27 rfl) (fun _ => rfl) T (fun r11 h12 T b13 => ?_)
  obtain ⟨s14, T⟩ := T
  obtain ⟨s15, T⟩ := T
  refine J_icmp_gt 48 rfl 67 s14 s15 (D_X12_voteOf_0.at 28 rfl) (by decide) (fun c22 => ?_) (fun c22 => ?_)
  · replace T := T.1 c22
    refine J_iload 69 rfl 5 5 rfl (D_X12_voteOf_0.at 38 rfl) ?_
    refine J_iload_n 70 rfl 3 3 rfl (D_X12_voteOf_0.at 39 rfl) ?_
    obtain ⟨s16, T⟩ := T
    obtain ⟨s17, T⟩ := T
    refine J_icmp_gt 73 rfl 76 s16 s17 (D_X12_voteOf_0.at 40 rfl) (by decide) (fun c18 => ?_) (fun c18 => ?_)
    · replace T := T.1 c18
      refine J_iload 78 rfl 4 4 rfl (D_X12_voteOf_0.at 42 rfl) ?_
      refine J_istore_n (lv' := [(2, vI v4), (0, vR 68), (1, vI v1), (3, vI v3), (4, vI v4), (5, vI v5), (6, vI v6)]) 79 rfl 2 (by decide) rfl (D_X12_voteOf_0.at 43 rfl) ?_
      refine J_iload 81 rfl 5 5 rfl (D_X12_voteOf_0.at 44 rfl) ?_
      refine J_istore_n (lv' := [(3, vI v5), (2, vI v4), (0, vR 68), (1, vI v1), (4, vI v4), (5, vI v5), (6, vI v6)]) 82 rfl 3 (by decide) rfl (D_X12_voteOf_0.at 45 rfl) ?_
      refine J_iinc (v := (v4 + 1)) (lv' := [(4, vI (v4 + 1)), (3, vI v5), (2, vI v4), (0, vR 68), (1, vI v1), (5, vI v5), (6, vI v6)]) 85 rfl 4 4 1 rfl rfl (by decide) rfl (D_X12_voteOf_0.at 46 rfl) ?_
      refine J_goto 17 (D_X12_voteOf_0.at 47 rfl) (by decide) ?_
      exact J_sub (lv' := [(0, vR 68), (1, vI v1), (2, vI v4), (3, vI v5), (4, vI (v4 + 1))]) [3, 4, 2, 1, 0] rfl T
    replace T := T.2 c18
    refine J_goto 82 (D_X12_voteOf_0.at 41 rfl) (by decide) ?_
    refine J_iinc (v := (v4 + 1)) (lv' := [(4, vI (v4 + 1)), (0, vR 68), (1, vI v1), (2, vI v2), (3, vI v3), (5, vI v5), (6, vI v6)]) 85 rfl 4 4 1 rfl rfl (by decide) rfl (D_X12_voteOf_0.at 46 rfl) ?_
    refine J_goto 17 (D_X12_voteOf_0.at 47 rfl) (by decide) ?_
    exact J_sub (lv' := [(0, vR 68), (1, vI v1), (2, vI v2), (3, vI v3), (4, vI (v4 + 1))]) [1, 2, 3, 4, 0] rfl T
  replace T := T.2 c22
  refine J_iload 50 rfl 5 5 rfl (D_X12_voteOf_0.at 29 rfl) ?_
  refine J_aload_n 51 rfl 0 0 rfl ⟨by decide, by decide⟩ (D_X12_voteOf_0.at 30 rfl) ?_
  refine J_iload 53 rfl 6 6 rfl (D_X12_voteOf_0.at 31 rfl) ?_
  refine J_iload 55 rfl 4 4 rfl (D_X12_voteOf_0.at 32 rfl) ?_
  refine J_callV (d' := 2) (sr := fun z => [vI z, vI v5]) (as := [vI v6, vI v4]) (st := [vI v5]) (o := 68) 58 rfl ok_X12_ownersIn im_X12_ownersIn se_X12_ownersIn ml_12_487 isC_12 ob_68 (Ob.lt ob_68) rfl (by decide) ⟨Nat.le_refl _, Nat.le_refl _⟩ (Nat.le_of_ble_eq_true rfl) (D_X12_voteOf_0.at 33 rfl) (fun _ => rfl) T (fun r19 h20 T b21 => ?_)
  refine J_iadd 59 rfl (D_X12_voteOf_0.at 34 rfl) ?_
  refine J_istore (lv' := [(5, vI (v5 + r19)), (0, vR 68), (1, vI v1), (2, vI v2), (3, vI v3), (4, vI v4), (6, vI v6)]) 61 rfl 5 (by decide) rfl (D_X12_voteOf_0.at 35 rfl) ?_
  refine J_iinc (v := (v6 + 1)) (lv' := [(6, vI (v6 + 1)), (5, vI (v5 + r19)), (0, vR 68), (1, vI v1), (2, vI v2), (3, vI v3), (4, vI v4)]) 64 rfl 6 6 1 rfl rfl (by decide) rfl (D_X12_voteOf_0.at 36 rfl) ?_
  refine J_goto 37 (D_X12_voteOf_0.at 37 rfl) (by decide) ?_
  exact J_sub (lv' := [(0, vR 68), (1, vI v1), (2, vI v2), (3, vI v3), (4, vI v4), (5, vI (v5 + r19)), (6, vI (v6 + 1))]) [2, 3, 4, 5, 6, 1, 0] rfl T
theorem c_X12_wouldBe {w : Wd} {a1 : Int} {h : Hp} {K : Int → Hp → Prop} (T : C_X12_stonesAsNow w h (fun _ h2 => C_X12_floods w a1 h2 (fun _ h5 => K 0 h5))) : C_X12_wouldBe w a1 h K := by
  refine CGm_of2 (by decide) (by decide) trivial (Nat.le_of_ble_eq_true rfl) ?_
  refine J_aload_n 1 rfl 0 0 rfl ⟨by decide, by decide⟩ (D_X12_wouldBe_0.at 0 rfl) ?_
  refine J_callV (d' := 1) (sr := fun z => []) (as := []) (st := []) (o := 68) 4 rfl ok_X12_stonesAsNow im_X12_stonesAsNow se_X12_stonesAsNow ml_12_447 isC_12 ob_68 (Ob.lt ob_68) rfl (by decide) ⟨Nat.le_refl _, Nat.le_refl _⟩ (Nat.le_of_ble_eq_true rfl) (D_X12_wouldBe_0.at 1 rfl) (fun _ => rfl) T (fun r1 h2 T b3 => ?_)
  refine J_aload_n 5 rfl 0 0 rfl ⟨by decide, by decide⟩ (D_X12_wouldBe_0.at 2 rfl) ?_
  refine J_iload_n 6 rfl 1 1 rfl (D_X12_wouldBe_0.at 3 rfl) ?_
  refine J_callV (d' := 5) (sr := fun z => []) (as := [vI a1]) (st := []) (o := 68) 9 rfl ok_X12_floods im_X12_floods se_X12_floods ml_12_450 isC_12 ob_68 (Ob.lt ob_68) rfl (by decide) ⟨Nat.le_refl _, Nat.le_refl _⟩ (Nat.le_of_ble_eq_true rfl) (D_X12_wouldBe_0.at 4 rfl) (fun _ => rfl) T (fun r4 h5 T b6 => ?_)
  exact J_vret rfl (D_X12_wouldBe_0.at 5 rfl) T
theorem c_X12_seeksStones {w : Wd} {a1 a2 a3 a4 a5 : Int} {h : Hp} {K : Int → Hp → Prop} (T : L_X12_seeksStones_6 w a1 a2 a3 a4 a5 1 0 h K) : C_X12_seeksStones w a1 a2 a3 a4 a5 h K := by
  refine CGm_of2 (by decide) (by decide) trivial (Nat.le_of_ble_eq_true rfl) ?_
  refine J_iconst 1 rfl (D_X12_seeksStones_0.at 0 rfl) ?_
  refine J_istore (lv' := [(6, vI 1), (0, vR 68), (1, vI a1), (2, vI a2), (3, vI a3), (4, vI a4), (5, vI a5)]) 3 rfl 6 (by decide) rfl (D_X12_seeksStones_0.at 1 rfl) ?_
  refine J_iconst 4 rfl (D_X12_seeksStones_0.at 2 rfl) ?_
  refine J_istore (lv' := [(7, vI 0), (6, vI 1), (0, vR 68), (1, vI a1), (2, vI a2), (3, vI a3), (4, vI a4), (5, vI a5)]) 6 rfl 7 (by decide) rfl (D_X12_seeksStones_0.at 3 rfl) ?_
  exact J_sub (lv' := [(0, vR 68), (1, vI a1), (2, vI a2), (3, vI a3), (4, vI a4), (5, vI a5), (6, vI 1), (7, vI 0)]) [2, 3, 4, 5, 6, 7, 1, 0] rfl T
theorem l_X12_seeksStones_6 {w : Wd} {v1 v2 v3 v4 v5 v6 v7 : Int} {h : Hp} {K : Int → Hp → Prop} (T : (inR v7) ∧ ((inR (h 68 36)) ∧ (((v7 ≥ (h 68 36)) → (∀ h3 : Hp, h3 = hu h 68 65 (-1) → L_X12_seeksStones_35 w v1 v2 v3 v4 v5 v6 0 h3 K)) ∧ (¬ (v7 ≥ (h 68 36)) → (L_X12_seeksStones_6 w v1 v2 v3 v4 v5 (v6 * 3) (v7 + 1) h K))))) : L_X12_seeksStones_6 w v1 v2 v3 v4 v5 v6 v7 h K := by
  unfold L_X12_seeksStones_6
  refine J_iload 8 rfl 7 7 rfl (D_X12_seeksStones_0.at 4 rfl) ?_
  refine J_aload_n 9 rfl 0 0 rfl ⟨by decide, by decide⟩ (D_X12_seeksStones_0.at 5 rfl) ?_
  refine J_getI (z := (h 68 36)) 12 rfl fl_12_356 rfl ob_68 (Ob.lt ob_68) (D_X12_seeksStones_0.at 6 rfl) rfl ?_
  obtain ⟨s1, T⟩ := T
  obtain ⟨s2, T⟩ := T
  refine J_icmp_ge 15 rfl 27 s1 s2 (D_X12_seeksStones_0.at 7 rfl) (by decide) (fun c5 => ?_) (fun c5 => ?_)
  · replace T := T.1 c5
    refine J_aload_n 28 rfl 0 0 rfl ⟨by decide, by decide⟩ (D_X12_seeksStones_0.at 14 rfl) ?_
    refine J_iconst 29 rfl (D_X12_seeksStones_0.at 15 rfl) ?_
    refine J_putI 32 rfl fl_12_551 rfl rfl ob_68 (Ob.lt ob_68) (D_X12_seeksStones_0.at 16 rfl) (fun h3 e4 => ?_)
    replace T := T h3 e4
    refine J_iconst 33 rfl (D_X12_seeksStones_0.at 17 rfl) ?_
    refine J_istore (lv' := [(7, vI 0), (0, vR 68), (1, vI v1), (2, vI v2), (3, vI v3), (4, vI v4), (5, vI v5), (6, vI v6)]) 35 rfl 7 (by decide) rfl (D_X12_seeksStones_0.at 18 rfl) ?_
    exact J_sub (lv' := [(0, vR 68), (1, vI v1), (2, vI v2), (3, vI v3), (4, vI v4), (5, vI v5), (6, vI v6), (7, vI 0)]) [1, 2, 3, 4, 5, 6, 7, 0] rfl T
  replace T := T.2 c5
  refine J_iload 17 rfl 6 6 rfl (D_X12_seeksStones_0.at 8 rfl) ?_
  refine J_iconst 18 rfl (D_X12_seeksStones_0.at 9 rfl) ?_
  refine J_imul 19 rfl (D_X12_seeksStones_0.at 10 rfl) ?_
  refine J_istore (lv' := [(6, vI (v6 * 3)), (0, vR 68), (1, vI v1), (2, vI v2), (3, vI v3), (4, vI v4), (5, vI v5), (7, vI v7)]) 21 rfl 6 (by decide) rfl (D_X12_seeksStones_0.at 11 rfl) ?_
  refine J_iinc (v := (v7 + 1)) (lv' := [(7, vI (v7 + 1)), (6, vI (v6 * 3)), (0, vR 68), (1, vI v1), (2, vI v2), (3, vI v3), (4, vI v4), (5, vI v5)]) 24 rfl 7 7 1 rfl rfl (by decide) rfl (D_X12_seeksStones_0.at 12 rfl) ?_
  refine J_goto 6 (D_X12_seeksStones_0.at 13 rfl) (by decide) ?_
  exact J_sub (lv' := [(0, vR 68), (1, vI v1), (2, vI v2), (3, vI v3), (4, vI v4), (5, vI v5), (6, vI (v6 * 3)), (7, vI (v7 + 1))]) [2, 3, 4, 5, 6, 7, 1, 0] rfl T
theorem l_X12_seeksStones_35 {w : Wd} {v1 v2 v3 v4 v5 v6 v7 : Int} {h : Hp} {K : Int → Hp → Prop} (T : (inR v7) ∧ ((inR v6) ∧ (((v7 ≥ v6) → (K 0 h)) ∧ (¬ (v7 ≥ v6) → (C_X12_laysStones w v7 h (fun r8 h9 => (inR (h9 68 65)) ∧ ((((h9 68 65) = (-1)) → (C_X12_floods w v4 h9 (fun _ h13 => (inR v3) ∧ (((v3 ≠ (-1)) → ((0 ≤ v3 ∧ v3 < 10) ∧ ((inR (h13 106 v3)) ∧ ((inR v5) ∧ ((((h13 106 v3) ≥ v5) → (∀ h19 : Hp, h19 = hu h13 68 65 r8 → L_X12_seeksStones_113 w v1 v2 v3 v4 v5 v6 v7 0 h19 K)) ∧ (¬ ((h13 106 v3) ≥ v5) → (L_X12_seeksStones_35 w v1 v2 v3 v4 v5 v6 (v7 + 1) h13 K))))))) ∧ (¬ (v3 ≠ (-1)) → (C_X12_shareThen w v1 v2 h13 (fun r22 h23 => (inR r22) ∧ ((inR v5) ∧ (((r22 ≥ v5) → (∀ h27 : Hp, h27 = hu h23 68 65 r8 → L_X12_seeksStones_113 w v1 v2 v3 v4 v5 v6 v7 0 h27 K)) ∧ (¬ (r22 ≥ v5) → (L_X12_seeksStones_35 w v1 v2 v3 v4 v5 v6 (v7 + 1) h23 K))))))))))) ∧ (¬ ((h9 68 65) = (-1)) → ((inR r8) ∧ ((inR (h9 68 65)) ∧ (((r8 < (h9 68 65)) → (C_X12_floods w v4 h9 (fun _ h34 => (inR v3) ∧ (((v3 ≠ (-1)) → ((0 ≤ v3 ∧ v3 < 10) ∧ ((inR (h34 106 v3)) ∧ ((inR v5) ∧ ((((h34 106 v3) ≥ v5) → (∀ h40 : Hp, h40 = hu h34 68 65 r8 → L_X12_seeksStones_113 w v1 v2 v3 v4 v5 v6 v7 0 h40 K)) ∧ (¬ ((h34 106 v3) ≥ v5) → (L_X12_seeksStones_35 w v1 v2 v3 v4 v5 v6 (v7 + 1) h34 K))))))) ∧ (¬ (v3 ≠ (-1)) → (C_X12_shareThen w v1 v2 h34 (fun r43 h44 => (inR r43) ∧ ((inR v5) ∧ (((r43 ≥ v5) → (∀ h48 : Hp, h48 = hu h44 68 65 r8 → L_X12_seeksStones_113 w v1 v2 v3 v4 v5 v6 v7 0 h48 K)) ∧ (¬ (r43 ≥ v5) → (L_X12_seeksStones_35 w v1 v2 v3 v4 v5 v6 (v7 + 1) h44 K))))))))))) ∧ (¬ (r8 < (h9 68 65)) → (L_X12_seeksStones_35 w v1 v2 v3 v4 v5 v6 (v7 + 1) h9 K))))))))))))) : L_X12_seeksStones_35 w v1 v2 v3 v4 v5 v6 v7 h K := by
  unfold L_X12_seeksStones_35
  refine J_iload 37 rfl 7 7 rfl (D_X12_seeksStones_0.at 19 rfl) ?_
  refine J_iload 39 rfl 6 6 rfl (D_X12_seeksStones_0.at 20 rfl) ?_
  obtain ⟨s6, T⟩ := T
  obtain ⟨s7, T⟩ := T
  refine J_icmp_ge 42 rfl 148 s6 s7 (D_X12_seeksStones_0.at 21 rfl) (by decide) (fun c54 => ?_) (fun c54 => ?_)
  · replace T := T.1 c54
    exact J_vret rfl (D_X12_seeksStones_1.at 26 rfl) T
  replace T := T.2 c54
  refine J_aload_n 43 rfl 0 0 rfl ⟨by decide, by decide⟩ (D_X12_seeksStones_0.at 22 rfl) ?_
  refine J_iload 45 rfl 7 7 rfl (D_X12_seeksStones_0.at 23 rfl) ?_
  refine J_callV (d' := 1) (sr := fun z => [vI z]) (as := [vI v7]) (st := []) (o := 68) 48 rfl ok_X12_laysStones im_X12_laysStones se_X12_laysStones ml_12_554 isC_12 ob_68 (Ob.lt ob_68) rfl (by decide) ⟨Nat.le_refl _, Nat.le_refl _⟩ (Nat.le_of_ble_eq_true rfl) (D_X12_seeksStones_0.at 24 rfl) (fun _ => rfl) T (fun r8 h9 T b10 => ?_)
  refine J_istore (lv' := [(8, vI r8), (0, vR 68), (1, vI v1), (2, vI v2), (3, vI v3), (4, vI v4), (5, vI v5), (6, vI v6), (7, vI v7)]) 50 rfl 8 (by decide) rfl (D_X12_seeksStones_0.at 25 rfl) ?_
  refine J_aload_n 51 rfl 0 1 rfl ⟨by decide, by decide⟩ (D_X12_seeksStones_0.at 26 rfl) ?_
  refine J_getI (z := (h9 68 65)) 54 rfl fl_12_551 rfl ob_68 (Ob.lt ob_68) (D_X12_seeksStones_0.at 27 rfl) rfl ?_
  refine J_iconst 55 rfl (D_X12_seeksStones_0.at 28 rfl) ?_
  obtain ⟨s11, T⟩ := T
  refine J_icmp_eq 58 rfl 70 s11 ⟨by decide, by decide⟩ (D_X12_seeksStones_0.at 29 rfl) (by decide) (fun c53 => ?_) (fun c53 => ?_)
  · replace T := T.1 c53
    refine J_aload_n 71 rfl 0 1 rfl ⟨by decide, by decide⟩ (D_X12_seeksStones_0.at 35 rfl) ?_
    refine J_iload 73 rfl 4 5 rfl (D_X12_seeksStones_0.at 36 rfl) ?_
    refine J_callV (d' := 5) (sr := fun z => []) (as := [vI v4]) (st := []) (o := 68) 76 rfl ok_X12_floods im_X12_floods se_X12_floods ml_12_450 isC_12 ob_68 (Ob.lt ob_68) rfl (by decide) ⟨Nat.le_refl _, Nat.le_refl _⟩ (Nat.le_of_ble_eq_true rfl) (D_X12_seeksStones_0.at 37 rfl) (fun _ => rfl) T (fun r12 h13 T b14 => ?_)
    refine J_iload_n 77 rfl 3 4 rfl (D_X12_seeksStones_0.at 38 rfl) ?_
    refine J_iconst 78 rfl (D_X12_seeksStones_0.at 39 rfl) ?_
    obtain ⟨s15, T⟩ := T
    refine J_icmp_ne 81 rfl 90 s15 ⟨by decide, by decide⟩ (D_X12_seeksStones_0.at 40 rfl) (by decide) (fun c30 => ?_) (fun c30 => ?_)
    · replace T := T.1 c30
      refine J_aload_n 91 rfl 0 1 rfl ⟨by decide, by decide⟩ (D_X12_seeksStones_0.at 46 rfl) ?_
      refine J_getF (ov := 106) (dd := 1038) 94 rfl fl_12_127 rfl (by decide) rfl ob_68 (Ob.lt ob_68) (D_X12_seeksStones_0.at 47 rfl) ?_
      refine J_iload_n 95 rfl 3 4 rfl (D_X12_seeksStones_1.at 0 rfl) ?_
      obtain ⟨s16, T⟩ := T
      refine J_iald 96 rfl ar_106 (Ar.lt ar_106) s16 (D_X12_seeksStones_1.at 1 rfl) ?_
      refine J_iload 98 rfl 5 6 rfl (D_X12_seeksStones_1.at 2 rfl) ?_
      obtain ⟨s17, T⟩ := T
      obtain ⟨s18, T⟩ := T
      refine J_icmp_ge 101 rfl 104 s17 s18 (D_X12_seeksStones_1.at 3 rfl) (by decide) (fun c21 => ?_) (fun c21 => ?_)
      · replace T := T.1 c21
        refine J_aload_n 105 rfl 0 1 rfl ⟨by decide, by decide⟩ (D_X12_seeksStones_1.at 5 rfl) ?_
        refine J_iload 107 rfl 8 0 rfl (D_X12_seeksStones_1.at 6 rfl) ?_
        refine J_putI 110 rfl fl_12_551 rfl rfl ob_68 (Ob.lt ob_68) (D_X12_seeksStones_1.at 7 rfl) (fun h19 e20 => ?_)
        replace T := T h19 e20
        refine J_iconst 111 rfl (D_X12_seeksStones_1.at 8 rfl) ?_
        refine J_istore (lv' := [(9, vI 0), (8, vI r8), (0, vR 68), (1, vI v1), (2, vI v2), (3, vI v3), (4, vI v4), (5, vI v5), (6, vI v6), (7, vI v7)]) 113 rfl 9 (by decide) rfl (D_X12_seeksStones_1.at 9 rfl) ?_
        exact J_sub (lv' := [(0, vR 68), (1, vI v1), (2, vI v2), (3, vI v3), (4, vI v4), (5, vI v5), (6, vI v6), (7, vI v7), (9, vI 0)]) [2, 3, 4, 5, 6, 7, 8, 9, 0] rfl T
      replace T := T.2 c21
      refine J_goto 142 (D_X12_seeksStones_1.at 4 rfl) (by decide) ?_
      refine J_iinc (v := (v7 + 1)) (lv' := [(7, vI (v7 + 1)), (8, vI r8), (0, vR 68), (1, vI v1), (2, vI v2), (3, vI v3), (4, vI v4), (5, vI v5), (6, vI v6)]) 145 rfl 7 8 1 rfl rfl (by decide) rfl (D_X12_seeksStones_1.at 24 rfl) ?_
      refine J_goto 35 (D_X12_seeksStones_1.at 25 rfl) (by decide) ?_
      exact J_sub (lv' := [(0, vR 68), (1, vI v1), (2, vI v2), (3, vI v3), (4, vI v4), (5, vI v5), (6, vI v6), (7, vI (v7 + 1))]) [2, 3, 4, 5, 6, 7, 8, 0] rfl T
    replace T := T.2 c30
    refine J_aload_n 82 rfl 0 1 rfl ⟨by decide, by decide⟩ (D_X12_seeksStones_0.at 41 rfl) ?_
    refine J_iload_n 83 rfl 1 2 rfl (D_X12_seeksStones_0.at 42 rfl) ?_
    refine J_iload_n 84 rfl 2 3 rfl (D_X12_seeksStones_0.at 43 rfl) ?_
    refine J_callV (d' := 4) (sr := fun z => [vI z]) (as := [vI v1, vI v2]) (st := []) (o := 68) 87 rfl ok_X12_shareThen im_X12_shareThen se_X12_shareThen ml_12_557 isC_12 ob_68 (Ob.lt ob_68) rfl (by decide) ⟨Nat.le_refl _, Nat.le_refl _⟩ (Nat.le_of_ble_eq_true rfl) (D_X12_seeksStones_0.at 44 rfl) (fun _ => rfl) T (fun r22 h23 T b24 => ?_)
    refine J_goto 96 (D_X12_seeksStones_0.at 45 rfl) (by decide) ?_
    refine J_iload 98 rfl 5 6 rfl (D_X12_seeksStones_1.at 2 rfl) ?_
    obtain ⟨s25, T⟩ := T
    obtain ⟨s26, T⟩ := T
    refine J_icmp_ge 101 rfl 104 s25 s26 (D_X12_seeksStones_1.at 3 rfl) (by decide) (fun c29 => ?_) (fun c29 => ?_)
    · replace T := T.1 c29
      refine J_aload_n 105 rfl 0 1 rfl ⟨by decide, by decide⟩ (D_X12_seeksStones_1.at 5 rfl) ?_
      refine J_iload 107 rfl 8 0 rfl (D_X12_seeksStones_1.at 6 rfl) ?_
      refine J_putI 110 rfl fl_12_551 rfl rfl ob_68 (Ob.lt ob_68) (D_X12_seeksStones_1.at 7 rfl) (fun h27 e28 => ?_)
      replace T := T h27 e28
      refine J_iconst 111 rfl (D_X12_seeksStones_1.at 8 rfl) ?_
      refine J_istore (lv' := [(9, vI 0), (8, vI r8), (0, vR 68), (1, vI v1), (2, vI v2), (3, vI v3), (4, vI v4), (5, vI v5), (6, vI v6), (7, vI v7)]) 113 rfl 9 (by decide) rfl (D_X12_seeksStones_1.at 9 rfl) ?_
      exact J_sub (lv' := [(0, vR 68), (1, vI v1), (2, vI v2), (3, vI v3), (4, vI v4), (5, vI v5), (6, vI v6), (7, vI v7), (9, vI 0)]) [2, 3, 4, 5, 6, 7, 8, 9, 0] rfl T
    replace T := T.2 c29
    refine J_goto 142 (D_X12_seeksStones_1.at 4 rfl) (by decide) ?_
    refine J_iinc (v := (v7 + 1)) (lv' := [(7, vI (v7 + 1)), (8, vI r8), (0, vR 68), (1, vI v1), (2, vI v2), (3, vI v3), (4, vI v4), (5, vI v5), (6, vI v6)]) 145 rfl 7 8 1 rfl rfl (by decide) rfl (D_X12_seeksStones_1.at 24 rfl) ?_
    refine J_goto 35 (D_X12_seeksStones_1.at 25 rfl) (by decide) ?_
    exact J_sub (lv' := [(0, vR 68), (1, vI v1), (2, vI v2), (3, vI v3), (4, vI v4), (5, vI v5), (6, vI v6), (7, vI (v7 + 1))]) [2, 3, 4, 5, 6, 7, 8, 0] rfl T
  replace T := T.2 c53
  refine J_iload 60 rfl 8 0 rfl (D_X12_seeksStones_0.at 30 rfl) ?_
  refine J_aload_n 61 rfl 0 1 rfl ⟨by decide, by decide⟩ (D_X12_seeksStones_0.at 31 rfl) ?_
  refine J_getI (z := (h9 68 65)) 64 rfl fl_12_551 rfl ob_68 (Ob.lt ob_68) (D_X12_seeksStones_0.at 32 rfl) rfl ?_
  obtain ⟨s31, T⟩ := T
  obtain ⟨s32, T⟩ := T
  refine J_icmp_lt 67 rfl 70 s31 s32 (D_X12_seeksStones_0.at 33 rfl) (by decide) (fun c52 => ?_) (fun c52 => ?_)
  · replace T := T.1 c52
    refine J_aload_n 71 rfl 0 1 rfl ⟨by decide, by decide⟩ (D_X12_seeksStones_0.at 35 rfl) ?_
    refine J_iload 73 rfl 4 5 rfl (D_X12_seeksStones_0.at 36 rfl) ?_
    refine J_callV (d' := 5) (sr := fun z => []) (as := [vI v4]) (st := []) (o := 68) 76 rfl ok_X12_floods im_X12_floods se_X12_floods ml_12_450 isC_12 ob_68 (Ob.lt ob_68) rfl (by decide) ⟨Nat.le_refl _, Nat.le_refl _⟩ (Nat.le_of_ble_eq_true rfl) (D_X12_seeksStones_0.at 37 rfl) (fun _ => rfl) T (fun r33 h34 T b35 => ?_)
    refine J_iload_n 77 rfl 3 4 rfl (D_X12_seeksStones_0.at 38 rfl) ?_
    refine J_iconst 78 rfl (D_X12_seeksStones_0.at 39 rfl) ?_
    obtain ⟨s36, T⟩ := T
    refine J_icmp_ne 81 rfl 90 s36 ⟨by decide, by decide⟩ (D_X12_seeksStones_0.at 40 rfl) (by decide) (fun c51 => ?_) (fun c51 => ?_)
    · replace T := T.1 c51
      refine J_aload_n 91 rfl 0 1 rfl ⟨by decide, by decide⟩ (D_X12_seeksStones_0.at 46 rfl) ?_
      refine J_getF (ov := 106) (dd := 1038) 94 rfl fl_12_127 rfl (by decide) rfl ob_68 (Ob.lt ob_68) (D_X12_seeksStones_0.at 47 rfl) ?_
      refine J_iload_n 95 rfl 3 4 rfl (D_X12_seeksStones_1.at 0 rfl) ?_
      obtain ⟨s37, T⟩ := T
      refine J_iald 96 rfl ar_106 (Ar.lt ar_106) s37 (D_X12_seeksStones_1.at 1 rfl) ?_
      refine J_iload 98 rfl 5 6 rfl (D_X12_seeksStones_1.at 2 rfl) ?_
      obtain ⟨s38, T⟩ := T
      obtain ⟨s39, T⟩ := T
      refine J_icmp_ge 101 rfl 104 s38 s39 (D_X12_seeksStones_1.at 3 rfl) (by decide) (fun c42 => ?_) (fun c42 => ?_)
      · replace T := T.1 c42
        refine J_aload_n 105 rfl 0 1 rfl ⟨by decide, by decide⟩ (D_X12_seeksStones_1.at 5 rfl) ?_
        refine J_iload 107 rfl 8 0 rfl (D_X12_seeksStones_1.at 6 rfl) ?_
        refine J_putI 110 rfl fl_12_551 rfl rfl ob_68 (Ob.lt ob_68) (D_X12_seeksStones_1.at 7 rfl) (fun h40 e41 => ?_)
        replace T := T h40 e41
        refine J_iconst 111 rfl (D_X12_seeksStones_1.at 8 rfl) ?_
        refine J_istore (lv' := [(9, vI 0), (8, vI r8), (0, vR 68), (1, vI v1), (2, vI v2), (3, vI v3), (4, vI v4), (5, vI v5), (6, vI v6), (7, vI v7)]) 113 rfl 9 (by decide) rfl (D_X12_seeksStones_1.at 9 rfl) ?_
        exact J_sub (lv' := [(0, vR 68), (1, vI v1), (2, vI v2), (3, vI v3), (4, vI v4), (5, vI v5), (6, vI v6), (7, vI v7), (9, vI 0)]) [2, 3, 4, 5, 6, 7, 8, 9, 0] rfl T
      replace T := T.2 c42
      refine J_goto 142 (D_X12_seeksStones_1.at 4 rfl) (by decide) ?_
      refine J_iinc (v := (v7 + 1)) (lv' := [(7, vI (v7 + 1)), (8, vI r8), (0, vR 68), (1, vI v1), (2, vI v2), (3, vI v3), (4, vI v4), (5, vI v5), (6, vI v6)]) 145 rfl 7 8 1 rfl rfl (by decide) rfl (D_X12_seeksStones_1.at 24 rfl) ?_
      refine J_goto 35 (D_X12_seeksStones_1.at 25 rfl) (by decide) ?_
      exact J_sub (lv' := [(0, vR 68), (1, vI v1), (2, vI v2), (3, vI v3), (4, vI v4), (5, vI v5), (6, vI v6), (7, vI (v7 + 1))]) [2, 3, 4, 5, 6, 7, 8, 0] rfl T
    replace T := T.2 c51
    refine J_aload_n 82 rfl 0 1 rfl ⟨by decide, by decide⟩ (D_X12_seeksStones_0.at 41 rfl) ?_
    refine J_iload_n 83 rfl 1 2 rfl (D_X12_seeksStones_0.at 42 rfl) ?_
    refine J_iload_n 84 rfl 2 3 rfl (D_X12_seeksStones_0.at 43 rfl) ?_
    refine J_callV (d' := 4) (sr := fun z => [vI z]) (as := [vI v1, vI v2]) (st := []) (o := 68) 87 rfl ok_X12_shareThen im_X12_shareThen se_X12_shareThen ml_12_557 isC_12 ob_68 (Ob.lt ob_68) rfl (by decide) ⟨Nat.le_refl _, Nat.le_refl _⟩ (Nat.le_of_ble_eq_true rfl) (D_X12_seeksStones_0.at 44 rfl) (fun _ => rfl) T (fun r43 h44 T b45 => ?_)
    refine J_goto 96 (D_X12_seeksStones_0.at 45 rfl) (by decide) ?_
    refine J_iload 98 rfl 5 6 rfl (D_X12_seeksStones_1.at 2 rfl) ?_
    obtain ⟨s46, T⟩ := T
    obtain ⟨s47, T⟩ := T
    refine J_icmp_ge 101 rfl 104 s46 s47 (D_X12_seeksStones_1.at 3 rfl) (by decide) (fun c50 => ?_) (fun c50 => ?_)
    · replace T := T.1 c50
      refine J_aload_n 105 rfl 0 1 rfl ⟨by decide, by decide⟩ (D_X12_seeksStones_1.at 5 rfl) ?_
      refine J_iload 107 rfl 8 0 rfl (D_X12_seeksStones_1.at 6 rfl) ?_
      refine J_putI 110 rfl fl_12_551 rfl rfl ob_68 (Ob.lt ob_68) (D_X12_seeksStones_1.at 7 rfl) (fun h48 e49 => ?_)
      replace T := T h48 e49
      refine J_iconst 111 rfl (D_X12_seeksStones_1.at 8 rfl) ?_
      refine J_istore (lv' := [(9, vI 0), (8, vI r8), (0, vR 68), (1, vI v1), (2, vI v2), (3, vI v3), (4, vI v4), (5, vI v5), (6, vI v6), (7, vI v7)]) 113 rfl 9 (by decide) rfl (D_X12_seeksStones_1.at 9 rfl) ?_
      exact J_sub (lv' := [(0, vR 68), (1, vI v1), (2, vI v2), (3, vI v3), (4, vI v4), (5, vI v5), (6, vI v6), (7, vI v7), (9, vI 0)]) [2, 3, 4, 5, 6, 7, 8, 9, 0] rfl T
    replace T := T.2 c50
    refine J_goto 142 (D_X12_seeksStones_1.at 4 rfl) (by decide) ?_
    refine J_iinc (v := (v7 + 1)) (lv' := [(7, vI (v7 + 1)), (8, vI r8), (0, vR 68), (1, vI v1), (2, vI v2), (3, vI v3), (4, vI v4), (5, vI v5), (6, vI v6)]) 145 rfl 7 8 1 rfl rfl (by decide) rfl (D_X12_seeksStones_1.at 24 rfl) ?_
    refine J_goto 35 (D_X12_seeksStones_1.at 25 rfl) (by decide) ?_
    exact J_sub (lv' := [(0, vR 68), (1, vI v1), (2, vI v2), (3, vI v3), (4, vI v4), (5, vI v5), (6, vI v6), (7, vI (v7 + 1))]) [2, 3, 4, 5, 6, 7, 8, 0] rfl T
  replace T := T.2 c52
  refine J_goto 142 (D_X12_seeksStones_0.at 34 rfl) (by decide) ?_
  refine J_iinc (v := (v7 + 1)) (lv' := [(7, vI (v7 + 1)), (8, vI r8), (0, vR 68), (1, vI v1), (2, vI v2), (3, vI v3), (4, vI v4), (5, vI v5), (6, vI v6)]) 145 rfl 7 8 1 rfl rfl (by decide) rfl (D_X12_seeksStones_1.at 24 rfl) ?_
  refine J_goto 35 (D_X12_seeksStones_1.at 25 rfl) (by decide) ?_
  exact J_sub (lv' := [(0, vR 68), (1, vI v1), (2, vI v2), (3, vI v3), (4, vI v4), (5, vI v5), (6, vI v6), (7, vI (v7 + 1))]) [2, 3, 4, 5, 6, 7, 8, 0] rfl T
theorem l_X12_seeksStones_113 {w : Wd} {v1 v2 v3 v4 v5 v6 v7 v9 : Int} {h : Hp} {K : Int → Hp → Prop} (T : (inR v9) ∧ ((inR (h 68 36)) ∧ (((v9 ≥ (h 68 36)) → (L_X12_seeksStones_35 w v1 v2 v3 v4 v5 v6 (v7 + 1) h K)) ∧ (¬ (v9 ≥ (h 68 36)) → ((0 ≤ v9 ∧ v9 < 8) ∧ ((0 ≤ v9 ∧ v9 < 8) ∧ (∀ h59 : Hp, h59 = hu h 113 v9 (h 105 v9) → L_X12_seeksStones_113 w v1 v2 v3 v4 v5 v6 v7 (v9 + 1) h59 K))))))) : L_X12_seeksStones_113 w v1 v2 v3 v4 v5 v6 v7 v9 h K := by
  unfold L_X12_seeksStones_113
  refine J_iload 115 rfl 9 8 rfl (D_X12_seeksStones_1.at 10 rfl) ?_
  refine J_aload_n 116 rfl 0 0 rfl ⟨by decide, by decide⟩ (D_X12_seeksStones_1.at 11 rfl) ?_
  refine J_getI (z := (h 68 36)) 119 rfl fl_12_356 rfl ob_68 (Ob.lt ob_68) (D_X12_seeksStones_1.at 12 rfl) rfl ?_
  obtain ⟨s55, T⟩ := T
  obtain ⟨s56, T⟩ := T
  refine J_icmp_ge 122 rfl 142 s55 s56 (D_X12_seeksStones_1.at 13 rfl) (by decide) (fun c61 => ?_) (fun c61 => ?_)
  · replace T := T.1 c61
    refine J_iinc (v := (v7 + 1)) (lv' := [(7, vI (v7 + 1)), (0, vR 68), (1, vI v1), (2, vI v2), (3, vI v3), (4, vI v4), (5, vI v5), (6, vI v6), (9, vI v9)]) 145 rfl 7 7 1 rfl rfl (by decide) rfl (D_X12_seeksStones_1.at 24 rfl) ?_
    refine J_goto 35 (D_X12_seeksStones_1.at 25 rfl) (by decide) ?_
    exact J_sub (lv' := [(0, vR 68), (1, vI v1), (2, vI v2), (3, vI v3), (4, vI v4), (5, vI v5), (6, vI v6), (7, vI (v7 + 1))]) [1, 2, 3, 4, 5, 6, 7, 0] rfl T
  replace T := T.2 c61
  refine J_aload_n 123 rfl 0 0 rfl ⟨by decide, by decide⟩ (D_X12_seeksStones_1.at 14 rfl) ?_
  refine J_getF (ov := 113) (dd := 1045) 126 rfl fl_12_152 rfl (by decide) rfl ob_68 (Ob.lt ob_68) (D_X12_seeksStones_1.at 15 rfl) ?_
  refine J_iload 128 rfl 9 8 rfl (D_X12_seeksStones_1.at 16 rfl) ?_
  refine J_aload_n 129 rfl 0 0 rfl ⟨by decide, by decide⟩ (D_X12_seeksStones_1.at 17 rfl) ?_
  refine J_getF (ov := 105) (dd := 1037) 132 rfl fl_12_124 rfl (by decide) rfl ob_68 (Ob.lt ob_68) (D_X12_seeksStones_1.at 18 rfl) ?_
  refine J_iload 134 rfl 9 8 rfl (D_X12_seeksStones_1.at 19 rfl) ?_
  obtain ⟨s57, T⟩ := T
  refine J_iald 135 rfl ar_105 (Ar.lt ar_105) s57 (D_X12_seeksStones_1.at 20 rfl) ?_
  obtain ⟨s58, T⟩ := T
  refine J_iastH 136 rfl ar_113 (Ar.lt ar_113) s58 trivial (D_X12_seeksStones_1.at 21 rfl) (fun h59 e60 => ?_)
  replace T := T h59 e60
  refine J_iinc (v := (v9 + 1)) (lv' := [(9, vI (v9 + 1)), (0, vR 68), (1, vI v1), (2, vI v2), (3, vI v3), (4, vI v4), (5, vI v5), (6, vI v6), (7, vI v7)]) 139 rfl 9 8 1 rfl rfl (by decide) rfl (D_X12_seeksStones_1.at 22 rfl) ?_
  refine J_goto 113 (D_X12_seeksStones_1.at 23 rfl) (by decide) ?_
  exact J_sub (lv' := [(0, vR 68), (1, vI v1), (2, vI v2), (3, vI v3), (4, vI v4), (5, vI v5), (6, vI v6), (7, vI v7), (9, vI (v9 + 1))]) [1, 2, 3, 4, 5, 6, 7, 8, 0] rfl T
theorem c_X12_sumIsTold {w : Wd} {a1 a2 : Int} {h : Hp} {K : Int → Hp → Prop} (T : (inR (h 68 5)) ∧ ((((h 68 5) ≠ 0) → ((inR (h 68 5)) ∧ ((((h 68 5) = 0) → ((0 ≤ a1 ∧ a1 < 4) ∧ (∀ h4 : Hp, h4 = hu h 98 a1 (h 68 44) → ∀ h6 : Hp, h6 = hu h4 68 46 0 → ∀ h8 : Hp, h8 = hu h6 68 47 0 → ∀ h10 : Hp, h10 = hu h8 68 48 0 → C_X12_sumsTold w h10 (fun _ h13 => (0 ≤ a1 ∧ a1 < 4) ∧ (∀ h16 : Hp, h16 = hu h13 99 a1 (h13 68 44) → K 0 h16))))) ∧ (¬ ((h 68 5) = 0) → (K 0 h))))) ∧ (¬ ((h 68 5) ≠ 0) → ((0 ≤ a1 ∧ a1 < 4) ∧ ((inR (h 98 a1)) ∧ ((((h 98 a1) = (-1)) → ((inR (h 68 5)) ∧ ((((h 68 5) = 0) → ((0 ≤ a1 ∧ a1 < 4) ∧ (∀ h23 : Hp, h23 = hu h 98 a1 (h 68 44) → ∀ h25 : Hp, h25 = hu h23 68 46 0 → ∀ h27 : Hp, h27 = hu h25 68 47 0 → ∀ h29 : Hp, h29 = hu h27 68 48 0 → C_X12_sumsTold w h29 (fun _ h32 => (0 ≤ a1 ∧ a1 < 4) ∧ (∀ h35 : Hp, h35 = hu h32 99 a1 (h32 68 44) → K 0 h35))))) ∧ (¬ ((h 68 5) = 0) → (K 0 h))))) ∧ (¬ ((h 98 a1) = (-1)) → (C_X12_fail w 5 a2 h (fun _ h39 => (inR (h39 68 5)) ∧ ((((h39 68 5) = 0) → ((0 ≤ a1 ∧ a1 < 4) ∧ (∀ h43 : Hp, h43 = hu h39 98 a1 (h39 68 44) → ∀ h45 : Hp, h45 = hu h43 68 46 0 → ∀ h47 : Hp, h47 = hu h45 68 47 0 → ∀ h49 : Hp, h49 = hu h47 68 48 0 → C_X12_sumsTold w h49 (fun _ h52 => (0 ≤ a1 ∧ a1 < 4) ∧ (∀ h55 : Hp, h55 = hu h52 99 a1 (h52 68 44) → K 0 h55))))) ∧ (¬ ((h39 68 5) = 0) → (K 0 h39)))))))))))) : C_X12_sumIsTold w a1 a2 h K := by
  refine CGm_of2 (by decide) (by decide) trivial (Nat.le_of_ble_eq_true rfl) ?_
  refine J_aload_n 1 rfl 0 0 rfl ⟨by decide, by decide⟩ (D_X12_sumIsTold_0.at 0 rfl) ?_
  refine J_getI (z := (h 68 5)) 4 rfl fl_12_227 rfl ob_68 (Ob.lt ob_68) (D_X12_sumIsTold_0.at 1 rfl) rfl ?_
  obtain ⟨s1, T⟩ := T
  refine J_if_ne 7 rfl 23 s1 (D_X12_sumIsTold_0.at 2 rfl) (by decide) (fun c59 => ?_) (fun c59 => ?_)
  · replace T := T.1 c59
    refine J_aload_n 24 rfl 0 0 rfl ⟨by decide, by decide⟩ (D_X12_sumIsTold_0.at 13 rfl) ?_
    refine J_getI (z := (h 68 5)) 27 rfl fl_12_227 rfl ob_68 (Ob.lt ob_68) (D_X12_sumIsTold_0.at 14 rfl) rfl ?_
    obtain ⟨s2, T⟩ := T
    refine J_if_eq 30 rfl 31 s2 (D_X12_sumIsTold_0.at 15 rfl) (by decide) (fun c18 => ?_) (fun c18 => ?_)
    · replace T := T.1 c18
      refine J_aload_n 32 rfl 0 0 rfl ⟨by decide, by decide⟩ (D_X12_sumIsTold_0.at 17 rfl) ?_
      refine J_getF (ov := 98) (dd := 1030) 35 rfl fl_12_103 rfl (by decide) rfl ob_68 (Ob.lt ob_68) (D_X12_sumIsTold_0.at 18 rfl) ?_
      refine J_iload_n 36 rfl 1 1 rfl (D_X12_sumIsTold_0.at 19 rfl) ?_
      refine J_aload_n 37 rfl 0 0 rfl ⟨by decide, by decide⟩ (D_X12_sumIsTold_0.at 20 rfl) ?_
      refine J_getI (z := (h 68 44)) 40 rfl fl_12_312 rfl ob_68 (Ob.lt ob_68) (D_X12_sumIsTold_0.at 21 rfl) rfl ?_
      obtain ⟨s3, T⟩ := T
      refine J_iastH 41 rfl ar_98 (Ar.lt ar_98) s3 trivial (D_X12_sumIsTold_0.at 22 rfl) (fun h4 e5 => ?_)
      replace T := T h4 e5
      refine J_aload_n 42 rfl 0 0 rfl ⟨by decide, by decide⟩ (D_X12_sumIsTold_0.at 23 rfl) ?_
      refine J_iconst 43 rfl (D_X12_sumIsTold_0.at 24 rfl) ?_
      refine J_putI 46 rfl fl_12_315 rfl rfl ob_68 (Ob.lt ob_68) (D_X12_sumIsTold_0.at 25 rfl) (fun h6 e7 => ?_)
      replace T := T h6 e7
      refine J_aload_n 47 rfl 0 0 rfl ⟨by decide, by decide⟩ (D_X12_sumIsTold_0.at 26 rfl) ?_
      refine J_iconst 48 rfl (D_X12_sumIsTold_0.at 27 rfl) ?_
      refine J_putI 51 rfl fl_12_318 rfl rfl ob_68 (Ob.lt ob_68) (D_X12_sumIsTold_0.at 28 rfl) (fun h8 e9 => ?_)
      replace T := T h8 e9
      refine J_aload_n 52 rfl 0 0 rfl ⟨by decide, by decide⟩ (D_X12_sumIsTold_0.at 29 rfl) ?_
      refine J_iconst 53 rfl (D_X12_sumIsTold_0.at 30 rfl) ?_
      refine J_putI 56 rfl fl_12_321 rfl rfl ob_68 (Ob.lt ob_68) (D_X12_sumIsTold_0.at 31 rfl) (fun h10 e11 => ?_)
      replace T := T h10 e11
      refine J_aload_n 57 rfl 0 0 rfl ⟨by decide, by decide⟩ (D_X12_sumIsTold_0.at 32 rfl) ?_
      refine J_callV (d' := 6) (sr := fun z => []) (as := []) (st := []) (o := 68) 60 rfl ok_X12_sumsTold im_X12_sumsTold se_X12_sumsTold ml_12_324 isC_12 ob_68 (Ob.lt ob_68) rfl (by decide) ⟨Nat.le_refl _, Nat.le_refl _⟩ (Nat.le_of_ble_eq_true rfl) (D_X12_sumIsTold_0.at 33 rfl) (fun _ => rfl) T (fun r12 h13 T b14 => ?_)
      refine J_aload_n 61 rfl 0 0 rfl ⟨by decide, by decide⟩ (D_X12_sumIsTold_0.at 34 rfl) ?_
      refine J_getF (ov := 99) (dd := 1031) 64 rfl fl_12_106 rfl (by decide) rfl ob_68 (Ob.lt ob_68) (D_X12_sumIsTold_0.at 35 rfl) ?_
      refine J_iload_n 65 rfl 1 1 rfl (D_X12_sumIsTold_0.at 36 rfl) ?_
      refine J_aload_n 66 rfl 0 0 rfl ⟨by decide, by decide⟩ (D_X12_sumIsTold_0.at 37 rfl) ?_
      refine J_getI (z := (h13 68 44)) 69 rfl fl_12_312 rfl ob_68 (Ob.lt ob_68) (D_X12_sumIsTold_0.at 38 rfl) rfl ?_
      obtain ⟨s15, T⟩ := T
      refine J_iastH 70 rfl ar_99 (Ar.lt ar_99) s15 trivial (D_X12_sumIsTold_0.at 39 rfl) (fun h16 e17 => ?_)
      replace T := T h16 e17
      exact J_vret rfl (D_X12_sumIsTold_0.at 40 rfl) T
    replace T := T.2 c18
    exact J_vret rfl (D_X12_sumIsTold_0.at 16 rfl) T
  replace T := T.2 c59
  refine J_aload_n 8 rfl 0 0 rfl ⟨by decide, by decide⟩ (D_X12_sumIsTold_0.at 3 rfl) ?_
  refine J_getF (ov := 98) (dd := 1030) 11 rfl fl_12_103 rfl (by decide) rfl ob_68 (Ob.lt ob_68) (D_X12_sumIsTold_0.at 4 rfl) ?_
  refine J_iload_n 12 rfl 1 1 rfl (D_X12_sumIsTold_0.at 5 rfl) ?_
  obtain ⟨s19, T⟩ := T
  refine J_iald 13 rfl ar_98 (Ar.lt ar_98) s19 (D_X12_sumIsTold_0.at 6 rfl) ?_
  refine J_iconst 14 rfl (D_X12_sumIsTold_0.at 7 rfl) ?_
  obtain ⟨s20, T⟩ := T
  refine J_icmp_eq 17 rfl 23 s20 ⟨by decide, by decide⟩ (D_X12_sumIsTold_0.at 8 rfl) (by decide) (fun c58 => ?_) (fun c58 => ?_)
  · replace T := T.1 c58
    refine J_aload_n 24 rfl 0 0 rfl ⟨by decide, by decide⟩ (D_X12_sumIsTold_0.at 13 rfl) ?_
    refine J_getI (z := (h 68 5)) 27 rfl fl_12_227 rfl ob_68 (Ob.lt ob_68) (D_X12_sumIsTold_0.at 14 rfl) rfl ?_
    obtain ⟨s21, T⟩ := T
    refine J_if_eq 30 rfl 31 s21 (D_X12_sumIsTold_0.at 15 rfl) (by decide) (fun c37 => ?_) (fun c37 => ?_)
    · replace T := T.1 c37
      refine J_aload_n 32 rfl 0 0 rfl ⟨by decide, by decide⟩ (D_X12_sumIsTold_0.at 17 rfl) ?_
      refine J_getF (ov := 98) (dd := 1030) 35 rfl fl_12_103 rfl (by decide) rfl ob_68 (Ob.lt ob_68) (D_X12_sumIsTold_0.at 18 rfl) ?_
      refine J_iload_n 36 rfl 1 1 rfl (D_X12_sumIsTold_0.at 19 rfl) ?_
      refine J_aload_n 37 rfl 0 0 rfl ⟨by decide, by decide⟩ (D_X12_sumIsTold_0.at 20 rfl) ?_
      refine J_getI (z := (h 68 44)) 40 rfl fl_12_312 rfl ob_68 (Ob.lt ob_68) (D_X12_sumIsTold_0.at 21 rfl) rfl ?_
      obtain ⟨s22, T⟩ := T
      refine J_iastH 41 rfl ar_98 (Ar.lt ar_98) s22 trivial (D_X12_sumIsTold_0.at 22 rfl) (fun h23 e24 => ?_)
      replace T := T h23 e24
      refine J_aload_n 42 rfl 0 0 rfl ⟨by decide, by decide⟩ (D_X12_sumIsTold_0.at 23 rfl) ?_
      refine J_iconst 43 rfl (D_X12_sumIsTold_0.at 24 rfl) ?_
      refine J_putI 46 rfl fl_12_315 rfl rfl ob_68 (Ob.lt ob_68) (D_X12_sumIsTold_0.at 25 rfl) (fun h25 e26 => ?_)
      replace T := T h25 e26
      refine J_aload_n 47 rfl 0 0 rfl ⟨by decide, by decide⟩ (D_X12_sumIsTold_0.at 26 rfl) ?_
      refine J_iconst 48 rfl (D_X12_sumIsTold_0.at 27 rfl) ?_
      refine J_putI 51 rfl fl_12_318 rfl rfl ob_68 (Ob.lt ob_68) (D_X12_sumIsTold_0.at 28 rfl) (fun h27 e28 => ?_)
      replace T := T h27 e28
      refine J_aload_n 52 rfl 0 0 rfl ⟨by decide, by decide⟩ (D_X12_sumIsTold_0.at 29 rfl) ?_
      refine J_iconst 53 rfl (D_X12_sumIsTold_0.at 30 rfl) ?_
      refine J_putI 56 rfl fl_12_321 rfl rfl ob_68 (Ob.lt ob_68) (D_X12_sumIsTold_0.at 31 rfl) (fun h29 e30 => ?_)
      replace T := T h29 e30
      refine J_aload_n 57 rfl 0 0 rfl ⟨by decide, by decide⟩ (D_X12_sumIsTold_0.at 32 rfl) ?_
      refine J_callV (d' := 6) (sr := fun z => []) (as := []) (st := []) (o := 68) 60 rfl ok_X12_sumsTold im_X12_sumsTold se_X12_sumsTold ml_12_324 isC_12 ob_68 (Ob.lt ob_68) rfl (by decide) ⟨Nat.le_refl _, Nat.le_refl _⟩ (Nat.le_of_ble_eq_true rfl) (D_X12_sumIsTold_0.at 33 rfl) (fun _ => rfl) T (fun r31 h32 T b33 => ?_)
      refine J_aload_n 61 rfl 0 0 rfl ⟨by decide, by decide⟩ (D_X12_sumIsTold_0.at 34 rfl) ?_
      refine J_getF (ov := 99) (dd := 1031) 64 rfl fl_12_106 rfl (by decide) rfl ob_68 (Ob.lt ob_68) (D_X12_sumIsTold_0.at 35 rfl) ?_
      refine J_iload_n 65 rfl 1 1 rfl (D_X12_sumIsTold_0.at 36 rfl) ?_
      refine J_aload_n 66 rfl 0 0 rfl ⟨by decide, by decide⟩ (D_X12_sumIsTold_0.at 37 rfl) ?_
      refine J_getI (z := (h32 68 44)) 69 rfl fl_12_312 rfl ob_68 (Ob.lt ob_68) (D_X12_sumIsTold_0.at 38 rfl) rfl ?_
      obtain ⟨s34, T⟩ := T
      refine J_iastH 70 rfl ar_99 (Ar.lt ar_99) s34 trivial (D_X12_sumIsTold_0.at 39 rfl) (fun h35 e36 => ?_)
      replace T := T h35 e36
      exact J_vret rfl (D_X12_sumIsTold_0.at 40 rfl) T
    replace T := T.2 c37
    exact J_vret rfl (D_X12_sumIsTold_0.at 16 rfl) T
  replace T := T.2 c58
  refine J_aload_n 18 rfl 0 0 rfl ⟨by decide, by decide⟩ (D_X12_sumIsTold_0.at 9 rfl) ?_
  refine J_iconst 19 rfl (D_X12_sumIsTold_0.at 10 rfl) ?_
  refine J_iload_n 20 rfl 2 2 rfl (D_X12_sumIsTold_0.at 11 rfl) ?_
  refine J_callV (d' := 1) (sr := fun z => []) (as := [vI 5, vI a2]) (st := []) (o := 68) 23 rfl ok_X12_fail im_X12_fail se_X12_fail ml_12_257 isC_12 ob_68 (Ob.lt ob_68) rfl (by decide) ⟨Nat.le_refl _, Nat.le_refl _⟩ (Nat.le_of_ble_eq_true rfl) (D_X12_sumIsTold_0.at 12 rfl) (fun _ => rfl) T (fun r38 h39 T b40 => ?_)
  refine J_aload_n 24 rfl 0 0 rfl ⟨by decide, by decide⟩ (D_X12_sumIsTold_0.at 13 rfl) ?_
  refine J_getI (z := (h39 68 5)) 27 rfl fl_12_227 rfl ob_68 (Ob.lt ob_68) (D_X12_sumIsTold_0.at 14 rfl) rfl ?_
  obtain ⟨s41, T⟩ := T
  refine J_if_eq 30 rfl 31 s41 (D_X12_sumIsTold_0.at 15 rfl) (by decide) (fun c57 => ?_) (fun c57 => ?_)
  · replace T := T.1 c57
    refine J_aload_n 32 rfl 0 0 rfl ⟨by decide, by decide⟩ (D_X12_sumIsTold_0.at 17 rfl) ?_
    refine J_getF (ov := 98) (dd := 1030) 35 rfl fl_12_103 rfl (by decide) rfl ob_68 (Ob.lt ob_68) (D_X12_sumIsTold_0.at 18 rfl) ?_
    refine J_iload_n 36 rfl 1 1 rfl (D_X12_sumIsTold_0.at 19 rfl) ?_
    refine J_aload_n 37 rfl 0 0 rfl ⟨by decide, by decide⟩ (D_X12_sumIsTold_0.at 20 rfl) ?_
    refine J_getI (z := (h39 68 44)) 40 rfl fl_12_312 rfl ob_68 (Ob.lt ob_68) (D_X12_sumIsTold_0.at 21 rfl) rfl ?_
    obtain ⟨s42, T⟩ := T
    refine J_iastH 41 rfl ar_98 (Ar.lt ar_98) s42 trivial (D_X12_sumIsTold_0.at 22 rfl) (fun h43 e44 => ?_)
    replace T := T h43 e44
    refine J_aload_n 42 rfl 0 0 rfl ⟨by decide, by decide⟩ (D_X12_sumIsTold_0.at 23 rfl) ?_
    refine J_iconst 43 rfl (D_X12_sumIsTold_0.at 24 rfl) ?_
    refine J_putI 46 rfl fl_12_315 rfl rfl ob_68 (Ob.lt ob_68) (D_X12_sumIsTold_0.at 25 rfl) (fun h45 e46 => ?_)
    replace T := T h45 e46
    refine J_aload_n 47 rfl 0 0 rfl ⟨by decide, by decide⟩ (D_X12_sumIsTold_0.at 26 rfl) ?_
    refine J_iconst 48 rfl (D_X12_sumIsTold_0.at 27 rfl) ?_
    refine J_putI 51 rfl fl_12_318 rfl rfl ob_68 (Ob.lt ob_68) (D_X12_sumIsTold_0.at 28 rfl) (fun h47 e48 => ?_)
    replace T := T h47 e48
    refine J_aload_n 52 rfl 0 0 rfl ⟨by decide, by decide⟩ (D_X12_sumIsTold_0.at 29 rfl) ?_
    refine J_iconst 53 rfl (D_X12_sumIsTold_0.at 30 rfl) ?_
    refine J_putI 56 rfl fl_12_321 rfl rfl ob_68 (Ob.lt ob_68) (D_X12_sumIsTold_0.at 31 rfl) (fun h49 e50 => ?_)
    replace T := T h49 e50
    refine J_aload_n 57 rfl 0 0 rfl ⟨by decide, by decide⟩ (D_X12_sumIsTold_0.at 32 rfl) ?_
    refine J_callV (d' := 6) (sr := fun z => []) (as := []) (st := []) (o := 68) 60 rfl ok_X12_sumsTold im_X12_sumsTold se_X12_sumsTold ml_12_324 isC_12 ob_68 (Ob.lt ob_68) rfl (by decide) ⟨Nat.le_refl _, Nat.le_refl _⟩ (Nat.le_of_ble_eq_true rfl) (D_X12_sumIsTold_0.at 33 rfl) (fun _ => rfl) T (fun r51 h52 T b53 => ?_)
    refine J_aload_n 61 rfl 0 0 rfl ⟨by decide, by decide⟩ (D_X12_sumIsTold_0.at 34 rfl) ?_
    refine J_getF (ov := 99) (dd := 1031) 64 rfl fl_12_106 rfl (by decide) rfl ob_68 (Ob.lt ob_68) (D_X12_sumIsTold_0.at 35 rfl) ?_
    refine J_iload_n 65 rfl 1 1 rfl (D_X12_sumIsTold_0.at 36 rfl) ?_
    refine J_aload_n 66 rfl 0 0 rfl ⟨by decide, by decide⟩ (D_X12_sumIsTold_0.at 37 rfl) ?_
    refine J_getI (z := (h52 68 44)) 69 rfl fl_12_312 rfl ob_68 (Ob.lt ob_68) (D_X12_sumIsTold_0.at 38 rfl) rfl ?_
    obtain ⟨s54, T⟩ := T
    refine J_iastH 70 rfl ar_99 (Ar.lt ar_99) s54 trivial (D_X12_sumIsTold_0.at 39 rfl) (fun h55 e56 => ?_)
    replace T := T h55 e56
    exact J_vret rfl (D_X12_sumIsTold_0.at 40 rfl) T
  replace T := T.2 c57
  exact J_vret rfl (D_X12_sumIsTold_0.at 16 rfl) T
theorem c_X12_reach {w : Wd} {a1 a2 : Int} {h : Hp} {K : Int → Hp → Prop} (T : (inR a1) ∧ ((inR ((h 68 36) - 1)) ∧ ((inL a1) ∧ (((a1 < 0) → (K (-1) h)) ∧ (¬ (a1 < 0) → ((inL a1) ∧ ((inL ((h 68 36) - 1)) ∧ (((a1 > ((h 68 36) - 1)) → (K (-1) h)) ∧ (¬ (a1 > ((h 68 36) - 1)) → ((inR a2) ∧ ((a2 = 0 → (0 ≤ (8 + a1) ∧ (8 + a1) < 16) ∧ (K (h 95 (8 + a1)) h)) ∧ (a2 = 1 → (0 ≤ (1 + a1) ∧ (1 + a1) < 109) ∧ (K (h 104 (1 + a1)) h)) ∧ (a2 = 2 → C_X12_liesAll w a1 h (fun r10 h11 => K r10 h11)) ∧ (a2 = 3 → C_X12_isIsland w a1 h (fun r13 h14 => (r13 = 0 ∨ r13 = 1) → ((r13 = 0) → (K 0 h14)) ∧ (¬ (r13 = 0) → (K 1 h14)))) ∧ (a2 = 4 → C_X12_majorityIn w a1 h (fun r17 h18 => K r17 h18)) ∧ (a2 = 5 → C_X12_endOf w a1 (-1) h (fun r20 h21 => K r20 h21)) ∧ (a2 = 6 → C_X12_endOf w a1 1 h (fun r23 h24 => K r23 h24)) ∧ (a2 = 7 → C_X12_voteOf w a1 h (fun r26 h27 => K r26 h27)) ∧ ((a2 < 0 ∨ 7 < a2) → K (-1) h)))))))))))) : C_X12_reach w a1 a2 h K := by
  refine CGm_of2 (by decide) (by decide) trivial (Nat.le_of_ble_eq_true rfl) ?_
  refine J_aload_n 1 rfl 0 0 rfl ⟨by decide, by decide⟩ (D_X12_reach_0.at 0 rfl) ?_
  refine J_iload_n 2 rfl 1 1 rfl (D_X12_reach_0.at 1 rfl) ?_
  refine J_callV (d' := 2) (K1 := fun z h0 => rok (some .boolean) z → JG w true m_X12_reach 7 NT NT 5 [(0, vR 68), (1, vI a1), (2, vI a2)] [vI z] h0 _) (sr := fun z => [vI z]) (as := [vI a1]) (st := []) (o := 68) 5 rfl ok_X12_isReach im_X12_isReach se_X12_isReach ml_12_499 isC_12 ob_68 (Ob.lt ob_68) rfl (by decide) ⟨Nat.le_refl _, Nat.le_refl _⟩ (Nat.le_of_ble_eq_true rfl) (D_X12_reach_0.at 2 rfl) (fun _ => rfl) (CGm_of2 (by decide) (by decide) trivial (Nat.le_of_ble_eq_true rfl) ?_) (fun _ _ kq hb => kq hb)
  refine J_iload_n 1 rfl 1 1 rfl (D_X12_isReach_0.at 0 rfl) ?_
  obtain ⟨s1, T⟩ := T
  refine J_i2l 2 rfl s1 (D_X12_isReach_0.at 1 rfl) ?_
  refine J_lconst (z := 0) 3 rfl rfl (D_X12_isReach_0.at 2 rfl) ?_
  refine J_aload_n 4 rfl 0 0 rfl ⟨by decide, by decide⟩ (D_X12_isReach_0.at 3 rfl) ?_
  refine J_getI (z := (h 68 36)) 7 rfl fl_12_356 rfl ob_68 (Ob.lt ob_68) (D_X12_isReach_0.at 4 rfl) rfl ?_
  refine J_iconst 8 rfl (D_X12_isReach_0.at 5 rfl) ?_
  refine J_isub 9 rfl (D_X12_isReach_0.at 6 rfl) ?_
  obtain ⟨s2, T⟩ := T
  refine J_i2l 10 rfl s2 (D_X12_isReach_0.at 7 rfl) ?_
  refine J_callS (d' := 1) (K1 := fun z h0 => rok (some .boolean) z → JG w true m_X12_isReach 2 NT NT 13 [(0, vR 68), (1, vI a1)] [vI z] h0 _) (sr := fun z => [vI z]) (as := [vL a1, vL 0, vL ((h 68 36) - 1)]) (st := []) 13 rfl ok_X12_isIn sm_X12_isIn ml_12_267 rfl (by decide) ⟨Nat.le_refl _, Nat.le_refl _⟩ (Nat.le_of_ble_eq_true rfl) (D_X12_isReach_0.at 8 rfl) (fun _ => rfl) (CGm_of2 (by decide) (by decide) trivial (Nat.le_of_ble_eq_true rfl) ?_) (fun _ _ kq hb => kq hb)
  refine J_lload_n 1 rfl 0 0 rfl (D_X12_isIn_0.at 0 rfl) ?_
  refine J_lload_n 2 rfl 2 1 rfl (D_X12_isIn_0.at 1 rfl) ?_
  obtain ⟨s3, T⟩ := T
  refine J_lcmp_lt 6 rfl 17 s3 ⟨by decide, by decide⟩ (D_X12_isIn_0.at 2 rfl) (D_X12_isIn_0.at 3 rfl) (by decide) (fun c30 => ?_) (fun c30 => ?_)
  · replace T := T.1 c30
    refine J_iconst 18 rfl (D_X12_isIn_0.at 10 rfl) ?_
    refine J_zret rfl (Or.inl rfl) (D_X12_isIn_0.at 11 rfl) (fun _ => ?_)
    refine J_zret rfl (Or.inl rfl) (D_X12_isReach_0.at 9 rfl) (fun _ => ?_)
    refine J_if_ne 8 rfl 10 ⟨by decide, by decide⟩ (D_X12_reach_0.at 3 rfl) (by decide) (fun c => absurd c (by decide)) (fun _ => ?_)
    refine J_iconst 9 rfl (D_X12_reach_0.at 4 rfl) ?_
    exact J_iret rfl (D_X12_reach_0.at 5 rfl) T
  replace T := T.2 c30
  refine J_lload_n 7 rfl 0 0 rfl (D_X12_isIn_0.at 4 rfl) ?_
  refine J_lload 9 rfl 4 2 rfl (D_X12_isIn_0.at 5 rfl) ?_
  obtain ⟨s4, T⟩ := T
  obtain ⟨s5, T⟩ := T
  refine J_lcmp_gt 13 rfl 17 s4 s5 (D_X12_isIn_0.at 6 rfl) (D_X12_isIn_0.at 7 rfl) (by decide) (fun c29 => ?_) (fun c29 => ?_)
  · replace T := T.1 c29
    refine J_iconst 18 rfl (D_X12_isIn_0.at 10 rfl) ?_
    refine J_zret rfl (Or.inl rfl) (D_X12_isIn_0.at 11 rfl) (fun _ => ?_)
    refine J_zret rfl (Or.inl rfl) (D_X12_isReach_0.at 9 rfl) (fun _ => ?_)
    refine J_if_ne 8 rfl 10 ⟨by decide, by decide⟩ (D_X12_reach_0.at 3 rfl) (by decide) (fun c => absurd c (by decide)) (fun _ => ?_)
    refine J_iconst 9 rfl (D_X12_reach_0.at 4 rfl) ?_
    exact J_iret rfl (D_X12_reach_0.at 5 rfl) T
  replace T := T.2 c29
  refine J_iconst 14 rfl (D_X12_isIn_0.at 8 rfl) ?_
  refine J_goto 18 (D_X12_isIn_0.at 9 rfl) (by decide) ?_
  refine J_zret rfl (Or.inr rfl) (D_X12_isIn_0.at 11 rfl) (fun _ => ?_)
  refine J_zret rfl (Or.inr rfl) (D_X12_isReach_0.at 9 rfl) (fun _ => ?_)
  refine J_if_ne 8 rfl 10 ⟨by decide, by decide⟩ (D_X12_reach_0.at 3 rfl) (by decide) (fun _ => ?_) (fun c => absurd (by decide) c)
  refine J_iload_n 11 rfl 2 2 rfl (D_X12_reach_0.at 6 rfl) ?_
  obtain ⟨s6, T⟩ := T
  have tg : a2 = 0 ∨ a2 = 1 ∨ a2 = 2 ∨ a2 = 3 ∨ a2 = 4 ∨ a2 = 5 ∨ a2 = 6 ∨ a2 = 7 ∨ (a2 < 0 ∨ 7 < a2) := by omega
  rcases tg with g7 | g7 | g7 | g7 | g7 | g7 | g7 | g7 | g7
  · replace T := T.1 g7
    refine J_tab 45 56 s6 (D_X12_reach_0.at 7 rfl) ⟨by omega, by omega⟩ (by rw [g7]; rfl) (by decide) ?_
    refine J_aload_n 57 rfl 0 0 rfl ⟨by decide, by decide⟩ (D_X12_reach_0.at 8 rfl) ?_
    refine J_getF (ov := 95) (dd := 1027) 60 rfl fl_12_94 rfl (by decide) rfl ob_68 (Ob.lt ob_68) (D_X12_reach_0.at 9 rfl) ?_
    refine J_bipush 62 rfl ⟨by decide, by decide⟩ (D_X12_reach_0.at 10 rfl) ?_
    refine J_iload_n 63 rfl 1 1 rfl (D_X12_reach_0.at 11 rfl) ?_
    refine J_iadd 64 rfl (D_X12_reach_0.at 12 rfl) ?_
    obtain ⟨s8, T⟩ := T
    refine J_iald 65 rfl ar_95 (Ar.lt ar_95) s8 (D_X12_reach_0.at 13 rfl) ?_
    exact J_iret rfl (D_X12_reach_0.at 14 rfl) T
  · replace T := T.2.1 g7
    refine J_tab 55 66 s6 (D_X12_reach_0.at 7 rfl) ⟨by omega, by omega⟩ (by rw [g7]; rfl) (by decide) ?_
    refine J_aload_n 67 rfl 0 0 rfl ⟨by decide, by decide⟩ (D_X12_reach_0.at 15 rfl) ?_
    refine J_getF (ov := 104) (dd := 1036) 70 rfl fl_12_121 rfl (by decide) rfl ob_68 (Ob.lt ob_68) (D_X12_reach_0.at 16 rfl) ?_
    refine J_iconst 71 rfl (D_X12_reach_0.at 17 rfl) ?_
    refine J_iload_n 72 rfl 1 1 rfl (D_X12_reach_0.at 18 rfl) ?_
    refine J_iadd 73 rfl (D_X12_reach_0.at 19 rfl) ?_
    obtain ⟨s9, T⟩ := T
    refine J_iald 74 rfl ar_104 (Ar.lt ar_104) s9 (D_X12_reach_0.at 20 rfl) ?_
    exact J_iret rfl (D_X12_reach_0.at 21 rfl) T
  · replace T := T.2.2.1 g7
    refine J_tab 64 75 s6 (D_X12_reach_0.at 7 rfl) ⟨by omega, by omega⟩ (by rw [g7]; rfl) (by decide) ?_
    refine J_aload_n 76 rfl 0 0 rfl ⟨by decide, by decide⟩ (D_X12_reach_0.at 22 rfl) ?_
    refine J_iload_n 77 rfl 1 1 rfl (D_X12_reach_0.at 23 rfl) ?_
    refine J_callV (d' := 2) (sr := fun z => [vI z]) (as := [vI a1]) (st := []) (o := 68) 80 rfl ok_X12_liesAll im_X12_liesAll se_X12_liesAll ml_12_456 isC_12 ob_68 (Ob.lt ob_68) rfl (by decide) ⟨Nat.le_refl _, Nat.le_refl _⟩ (Nat.le_of_ble_eq_true rfl) (D_X12_reach_0.at 24 rfl) (fun _ => rfl) T (fun r10 h11 T b12 => ?_)
    exact J_iret rfl (D_X12_reach_0.at 25 rfl) T
  · replace T := T.2.2.2.1 g7
    refine J_tab 70 81 s6 (D_X12_reach_0.at 7 rfl) ⟨by omega, by omega⟩ (by rw [g7]; rfl) (by decide) ?_
    refine J_aload_n 82 rfl 0 0 rfl ⟨by decide, by decide⟩ (D_X12_reach_0.at 26 rfl) ?_
    refine J_iload_n 83 rfl 1 1 rfl (D_X12_reach_0.at 27 rfl) ?_
    refine J_callV (d' := 3) (sr := fun z => [vI z]) (as := [vI a1]) (st := []) (o := 68) 86 rfl ok_X12_isIsland im_X12_isIsland se_X12_isIsland ml_12_490 isC_12 ob_68 (Ob.lt ob_68) rfl (by decide) ⟨Nat.le_refl _, Nat.le_refl _⟩ (Nat.le_of_ble_eq_true rfl) (D_X12_reach_0.at 28 rfl) (fun _ => rfl) T (fun r13 h14 T b15 => ?_)
    replace T := T b15
    refine J_if_eq 89 rfl 93 (inR_b b15) (D_X12_reach_0.at 29 rfl) (by decide) (fun c16 => ?_) (fun c16 => ?_)
    · replace T := T.1 c16
      refine J_iconst 94 rfl (D_X12_reach_0.at 32 rfl) ?_
      exact J_iret rfl (D_X12_reach_0.at 33 rfl) T
    replace T := T.2 c16
    refine J_iconst 90 rfl (D_X12_reach_0.at 30 rfl) ?_
    refine J_goto 94 (D_X12_reach_0.at 31 rfl) (by decide) ?_
    exact J_iret rfl (D_X12_reach_0.at 33 rfl) T
  · replace T := T.2.2.2.2.1 g7
    refine J_tab 84 95 s6 (D_X12_reach_0.at 7 rfl) ⟨by omega, by omega⟩ (by rw [g7]; rfl) (by decide) ?_
    refine J_aload_n 96 rfl 0 0 rfl ⟨by decide, by decide⟩ (D_X12_reach_0.at 34 rfl) ?_
    refine J_iload_n 97 rfl 1 1 rfl (D_X12_reach_0.at 35 rfl) ?_
    refine J_callV (d' := 3) (sr := fun z => [vI z]) (as := [vI a1]) (st := []) (o := 68) 100 rfl ok_X12_majorityIn im_X12_majorityIn se_X12_majorityIn ml_12_502 isC_12 ob_68 (Ob.lt ob_68) rfl (by decide) ⟨Nat.le_refl _, Nat.le_refl _⟩ (Nat.le_of_ble_eq_true rfl) (D_X12_reach_0.at 36 rfl) (fun _ => rfl) T (fun r17 h18 T b19 => ?_)
    exact J_iret rfl (D_X12_reach_0.at 37 rfl) T
  · replace T := T.2.2.2.2.2.1 g7
    refine J_tab 90 101 s6 (D_X12_reach_0.at 7 rfl) ⟨by omega, by omega⟩ (by rw [g7]; rfl) (by decide) ?_
    refine J_aload_n 102 rfl 0 0 rfl ⟨by decide, by decide⟩ (D_X12_reach_0.at 38 rfl) ?_
    refine J_iload_n 103 rfl 1 1 rfl (D_X12_reach_0.at 39 rfl) ?_
    refine J_iconst 104 rfl (D_X12_reach_0.at 40 rfl) ?_
    refine J_callV (d' := 5) (sr := fun z => [vI z]) (as := [vI a1, vI (-1)]) (st := []) (o := 68) 107 rfl ok_X12_endOf im_X12_endOf se_X12_endOf ml_12_496 isC_12 ob_68 (Ob.lt ob_68) rfl (by decide) ⟨Nat.le_refl _, Nat.le_refl _⟩ (Nat.le_of_ble_eq_true rfl) (D_X12_reach_0.at 41 rfl) (fun _ => rfl) T (fun r20 h21 T b22 => ?_)
    exact J_iret rfl (D_X12_reach_0.at 42 rfl) T
  · replace T := T.2.2.2.2.2.2.1 g7
    refine J_tab 97 108 s6 (D_X12_reach_0.at 7 rfl) ⟨by omega, by omega⟩ (by rw [g7]; rfl) (by decide) ?_
    refine J_aload_n 109 rfl 0 0 rfl ⟨by decide, by decide⟩ (D_X12_reach_0.at 43 rfl) ?_
    refine J_iload_n 110 rfl 1 1 rfl (D_X12_reach_0.at 44 rfl) ?_
    refine J_iconst 111 rfl (D_X12_reach_0.at 45 rfl) ?_
    refine J_callV (d' := 5) (sr := fun z => [vI z]) (as := [vI a1, vI 1]) (st := []) (o := 68) 114 rfl ok_X12_endOf im_X12_endOf se_X12_endOf ml_12_496 isC_12 ob_68 (Ob.lt ob_68) rfl (by decide) ⟨Nat.le_refl _, Nat.le_refl _⟩ (Nat.le_of_ble_eq_true rfl) (D_X12_reach_0.at 46 rfl) (fun _ => rfl) T (fun r23 h24 T b25 => ?_)
    exact J_iret rfl (D_X12_reach_0.at 47 rfl) T
  · replace T := T.2.2.2.2.2.2.2.1 g7
    refine J_tab 104 115 s6 (D_X12_reach_0.at 7 rfl) ⟨by omega, by omega⟩ (by rw [g7]; rfl) (by decide) ?_
    refine J_aload_n 116 rfl 0 0 rfl ⟨by decide, by decide⟩ (D_X12_reach_1.at 0 rfl) ?_
    refine J_iload_n 117 rfl 1 1 rfl (D_X12_reach_1.at 1 rfl) ?_
    refine J_callV (d' := 6) (sr := fun z => [vI z]) (as := [vI a1]) (st := []) (o := 68) 120 rfl ok_X12_voteOf im_X12_voteOf se_X12_voteOf ml_12_505 isC_12 ob_68 (Ob.lt ob_68) rfl (by decide) ⟨Nat.le_refl _, Nat.le_refl _⟩ (Nat.le_of_ble_eq_true rfl) (D_X12_reach_1.at 2 rfl) (fun _ => rfl) T (fun r26 h27 T b28 => ?_)
    exact J_iret rfl (D_X12_reach_1.at 3 rfl) T
  · replace T := T.2.2.2.2.2.2.2.2 g7
    refine J_tabO 121 s6 (D_X12_reach_0.at 7 rfl) g7 (by decide) ?_
    refine J_iconst 122 rfl (D_X12_reach_1.at 4 rfl) ?_
    exact J_iret rfl (D_X12_reach_1.at 5 rfl) T
theorem c_X12_cuts {w : Wd} {a1 a2 : Int} {h : Hp} {K : Int → Hp → Prop} (T : (inR a1) ∧ ((inR ((h 93 5) - 1)) ∧ ((inL a1) ∧ (((a1 < 0) → (K (-1) h)) ∧ (¬ (a1 < 0) → ((inL a1) ∧ ((inL ((h 93 5) - 1)) ∧ (((a1 > ((h 93 5) - 1)) → (K (-1) h)) ∧ (¬ (a1 > ((h 93 5) - 1)) → ((inR a2) ∧ ((inL a2) ∧ (((a2 < 0) → (K (-1) h)) ∧ (¬ (a2 < 0) → ((inL a2) ∧ (((a2 > 9) → (K (-1) h)) ∧ (¬ (a2 > 9) → (C_X12_wouldBe w a2 h (fun _ h10 => (0 ≤ a1 ∧ a1 < 10) ∧ (K (h10 107 a1) h10))))))))))))))))))) : C_X12_cuts w a1 a2 h K := by
  refine CGm_of2 (by decide) (by decide) trivial (Nat.le_of_ble_eq_true rfl) ?_
  refine J_aload_n 1 rfl 0 0 rfl ⟨by decide, by decide⟩ (D_X12_cuts_0.at 0 rfl) ?_
  refine J_iload_n 2 rfl 1 1 rfl (D_X12_cuts_0.at 1 rfl) ?_
  refine J_callV (d' := 2) (K1 := fun z h0 => rok (some .boolean) z → JG w true m_X12_cuts 7 NT NT 5 [(0, vR 68), (1, vI a1), (2, vI a2)] [vI z] h0 _) (sr := fun z => [vI z]) (as := [vI a1]) (st := []) (o := 68) 5 rfl ok_X12_isBank im_X12_isBank se_X12_isBank ml_12_481 isC_12 ob_68 (Ob.lt ob_68) rfl (by decide) ⟨Nat.le_refl _, Nat.le_refl _⟩ (Nat.le_of_ble_eq_true rfl) (D_X12_cuts_0.at 2 rfl) (fun _ => rfl) (CGm_of2 (by decide) (by decide) trivial (Nat.le_of_ble_eq_true rfl) ?_) (fun _ _ kq hb => kq hb)
  refine J_iload_n 1 rfl 1 1 rfl (D_X12_isBank_0.at 0 rfl) ?_
  obtain ⟨s1, T⟩ := T
  refine J_i2l 2 rfl s1 (D_X12_isBank_0.at 1 rfl) ?_
  refine J_lconst (z := 0) 3 rfl rfl (D_X12_isBank_0.at 2 rfl) ?_
  refine J_aload_n 4 rfl 0 0 rfl ⟨by decide, by decide⟩ (D_X12_isBank_0.at 3 rfl) ?_
  refine J_callV (d' := 1) (K1 := fun z h0 => rok (some .int) z → JG w true m_X12_isBank 2 NT NT 7 [(0, vR 68), (1, vI a1)] [vI z, vL 0, vL a1] h0 _) (sr := fun z => [vI z, vL 0, vL a1]) (as := []) (st := [vL 0, vL a1]) (o := 68) 7 rfl ok_X12_bankMany im_X12_bankMany se_X12_bankMany ml_12_419 isC_12 ob_68 (Ob.lt ob_68) rfl (by decide) ⟨Nat.le_refl _, Nat.le_refl _⟩ (Nat.le_of_ble_eq_true rfl) (D_X12_isBank_0.at 4 rfl) (fun _ => rfl) (CGm_of2 (by decide) (by decide) trivial (Nat.le_of_ble_eq_true rfl) ?_) (fun _ _ kq hb => kq hb)
  refine J_aload_n 1 rfl 0 0 rfl ⟨by decide, by decide⟩ (D_X12_bankMany_0.at 0 rfl) ?_
  refine J_getF (ov := 93) (dd := 1025) 4 rfl fl_12_87 rfl (by decide) rfl ob_68 (Ob.lt ob_68) (D_X12_bankMany_0.at 1 rfl) ?_
  refine J_iconst 5 rfl (D_X12_bankMany_0.at 2 rfl) ?_
  refine J_iald 6 rfl ar_93 (Ar.lt ar_93) ⟨by decide, by decide⟩ (D_X12_bankMany_0.at 3 rfl) ?_
  refine J_iret rfl (D_X12_bankMany_0.at 4 rfl) (fun _ => ?_)
  refine J_iconst 8 rfl (D_X12_isBank_0.at 5 rfl) ?_
  refine J_isub 9 rfl (D_X12_isBank_0.at 6 rfl) ?_
  obtain ⟨s2, T⟩ := T
  refine J_i2l 10 rfl s2 (D_X12_isBank_0.at 7 rfl) ?_
  refine J_callS (d' := 1) (K1 := fun z h0 => rok (some .boolean) z → JG w true m_X12_isBank 2 NT NT 13 [(0, vR 68), (1, vI a1)] [vI z] h0 _) (sr := fun z => [vI z]) (as := [vL a1, vL 0, vL ((h 93 5) - 1)]) (st := []) 13 rfl ok_X12_isIn sm_X12_isIn ml_12_267 rfl (by decide) ⟨Nat.le_refl _, Nat.le_refl _⟩ (Nat.le_of_ble_eq_true rfl) (D_X12_isBank_0.at 8 rfl) (fun _ => rfl) (CGm_of2 (by decide) (by decide) trivial (Nat.le_of_ble_eq_true rfl) ?_) (fun _ _ kq hb => kq hb)
  refine J_lload_n 1 rfl 0 0 rfl (D_X12_isIn_0.at 0 rfl) ?_
  refine J_lload_n 2 rfl 2 1 rfl (D_X12_isIn_0.at 1 rfl) ?_
  obtain ⟨s3, T⟩ := T
  refine J_lcmp_lt 6 rfl 17 s3 ⟨by decide, by decide⟩ (D_X12_isIn_0.at 2 rfl) (D_X12_isIn_0.at 3 rfl) (by decide) (fun c16 => ?_) (fun c16 => ?_)
  · replace T := T.1 c16
    refine J_iconst 18 rfl (D_X12_isIn_0.at 10 rfl) ?_
    refine J_zret rfl (Or.inl rfl) (D_X12_isIn_0.at 11 rfl) (fun _ => ?_)
    refine J_zret rfl (Or.inl rfl) (D_X12_isBank_0.at 9 rfl) (fun _ => ?_)
    refine J_if_eq 8 rfl 15 ⟨by decide, by decide⟩ (D_X12_cuts_0.at 3 rfl) (by decide) (fun _ => ?_) (fun c => absurd (by decide) c)
    refine J_iconst 16 rfl (D_X12_cuts_0.at 7 rfl) ?_
    exact J_iret rfl (D_X12_cuts_0.at 8 rfl) T
  replace T := T.2 c16
  refine J_lload_n 7 rfl 0 0 rfl (D_X12_isIn_0.at 4 rfl) ?_
  refine J_lload 9 rfl 4 2 rfl (D_X12_isIn_0.at 5 rfl) ?_
  obtain ⟨s4, T⟩ := T
  obtain ⟨s5, T⟩ := T
  refine J_lcmp_gt 13 rfl 17 s4 s5 (D_X12_isIn_0.at 6 rfl) (D_X12_isIn_0.at 7 rfl) (by decide) (fun c15 => ?_) (fun c15 => ?_)
  · replace T := T.1 c15
    refine J_iconst 18 rfl (D_X12_isIn_0.at 10 rfl) ?_
    refine J_zret rfl (Or.inl rfl) (D_X12_isIn_0.at 11 rfl) (fun _ => ?_)
    refine J_zret rfl (Or.inl rfl) (D_X12_isBank_0.at 9 rfl) (fun _ => ?_)
    refine J_if_eq 8 rfl 15 ⟨by decide, by decide⟩ (D_X12_cuts_0.at 3 rfl) (by decide) (fun _ => ?_) (fun c => absurd (by decide) c)
    refine J_iconst 16 rfl (D_X12_cuts_0.at 7 rfl) ?_
    exact J_iret rfl (D_X12_cuts_0.at 8 rfl) T
  replace T := T.2 c15
  refine J_iconst 14 rfl (D_X12_isIn_0.at 8 rfl) ?_
  refine J_goto 18 (D_X12_isIn_0.at 9 rfl) (by decide) ?_
  refine J_zret rfl (Or.inr rfl) (D_X12_isIn_0.at 11 rfl) (fun _ => ?_)
  refine J_zret rfl (Or.inr rfl) (D_X12_isBank_0.at 9 rfl) (fun _ => ?_)
  refine J_if_eq 8 rfl 15 ⟨by decide, by decide⟩ (D_X12_cuts_0.at 3 rfl) (by decide) (fun c => absurd c (by decide)) (fun _ => ?_)
  refine J_iload_n 9 rfl 2 2 rfl (D_X12_cuts_0.at 4 rfl) ?_
  refine J_callS (d' := 2) (K1 := fun z h0 => rok (some .boolean) z → JG w true m_X12_cuts 7 NT NT 12 [(0, vR 68), (1, vI a1), (2, vI a2)] [vI z] h0 _) (sr := fun z => [vI z]) (as := [vI a2]) (st := []) 12 rfl ok_X12_isLevel sm_X12_isLevel ml_12_514 rfl (by decide) ⟨Nat.le_refl _, Nat.le_refl _⟩ (Nat.le_of_ble_eq_true rfl) (D_X12_cuts_0.at 5 rfl) (fun _ => rfl) (CGm_of2 (by decide) (by decide) trivial (Nat.le_of_ble_eq_true rfl) ?_) (fun _ _ kq hb => kq hb)
  refine J_iload_n 1 rfl 0 0 rfl (D_X12_isLevel_0.at 0 rfl) ?_
  obtain ⟨s6, T⟩ := T
  refine J_i2l 2 rfl s6 (D_X12_isLevel_0.at 1 rfl) ?_
  refine J_lconst (z := 0) 3 rfl rfl (D_X12_isLevel_0.at 2 rfl) ?_
  refine J_ldc2 6 rfl ko_12_425 (D_X12_isLevel_0.at 3 rfl) ?_
  refine J_callS (d' := 1) (K1 := fun z h0 => rok (some .boolean) z → JG w true m_X12_isLevel 2 NT NT 9 [(0, vI a2)] [vI z] h0 _) (sr := fun z => [vI z]) (as := [vL a2, vL 0, vL 9]) (st := []) 9 rfl ok_X12_isIn sm_X12_isIn ml_12_267 rfl (by decide) ⟨Nat.le_refl _, Nat.le_refl _⟩ (Nat.le_of_ble_eq_true rfl) (D_X12_isLevel_0.at 4 rfl) (fun _ => rfl) (CGm_of2 (by decide) (by decide) trivial (Nat.le_of_ble_eq_true rfl) ?_) (fun _ _ kq hb => kq hb)
  refine J_lload_n 1 rfl 0 0 rfl (D_X12_isIn_0.at 0 rfl) ?_
  refine J_lload_n 2 rfl 2 1 rfl (D_X12_isIn_0.at 1 rfl) ?_
  obtain ⟨s7, T⟩ := T
  refine J_lcmp_lt 6 rfl 17 s7 ⟨by decide, by decide⟩ (D_X12_isIn_0.at 2 rfl) (D_X12_isIn_0.at 3 rfl) (by decide) (fun c14 => ?_) (fun c14 => ?_)
  · replace T := T.1 c14
    refine J_iconst 18 rfl (D_X12_isIn_0.at 10 rfl) ?_
    refine J_zret rfl (Or.inl rfl) (D_X12_isIn_0.at 11 rfl) (fun _ => ?_)
    refine J_zret rfl (Or.inl rfl) (D_X12_isLevel_0.at 5 rfl) (fun _ => ?_)
    refine J_if_ne 15 rfl 17 ⟨by decide, by decide⟩ (D_X12_cuts_0.at 6 rfl) (by decide) (fun c => absurd c (by decide)) (fun _ => ?_)
    refine J_iconst 16 rfl (D_X12_cuts_0.at 7 rfl) ?_
    exact J_iret rfl (D_X12_cuts_0.at 8 rfl) T
  replace T := T.2 c14
  refine J_lload_n 7 rfl 0 0 rfl (D_X12_isIn_0.at 4 rfl) ?_
  refine J_lload 9 rfl 4 2 rfl (D_X12_isIn_0.at 5 rfl) ?_
  obtain ⟨s8, T⟩ := T
  refine J_lcmp_gt 13 rfl 17 s8 ⟨by decide, by decide⟩ (D_X12_isIn_0.at 6 rfl) (D_X12_isIn_0.at 7 rfl) (by decide) (fun c13 => ?_) (fun c13 => ?_)
  · replace T := T.1 c13
    refine J_iconst 18 rfl (D_X12_isIn_0.at 10 rfl) ?_
    refine J_zret rfl (Or.inl rfl) (D_X12_isIn_0.at 11 rfl) (fun _ => ?_)
    refine J_zret rfl (Or.inl rfl) (D_X12_isLevel_0.at 5 rfl) (fun _ => ?_)
    refine J_if_ne 15 rfl 17 ⟨by decide, by decide⟩ (D_X12_cuts_0.at 6 rfl) (by decide) (fun c => absurd c (by decide)) (fun _ => ?_)
    refine J_iconst 16 rfl (D_X12_cuts_0.at 7 rfl) ?_
    exact J_iret rfl (D_X12_cuts_0.at 8 rfl) T
  replace T := T.2 c13
  refine J_iconst 14 rfl (D_X12_isIn_0.at 8 rfl) ?_
  refine J_goto 18 (D_X12_isIn_0.at 9 rfl) (by decide) ?_
  refine J_zret rfl (Or.inr rfl) (D_X12_isIn_0.at 11 rfl) (fun _ => ?_)
  refine J_zret rfl (Or.inr rfl) (D_X12_isLevel_0.at 5 rfl) (fun _ => ?_)
  refine J_if_ne 15 rfl 17 ⟨by decide, by decide⟩ (D_X12_cuts_0.at 6 rfl) (by decide) (fun _ => ?_) (fun c => absurd (by decide) c)
  refine J_aload_n 18 rfl 0 0 rfl ⟨by decide, by decide⟩ (D_X12_cuts_0.at 9 rfl) ?_
  refine J_iload_n 19 rfl 2 2 rfl (D_X12_cuts_0.at 10 rfl) ?_
  refine J_callV (d' := 6) (sr := fun z => []) (as := [vI a2]) (st := []) (o := 68) 22 rfl ok_X12_wouldBe im_X12_wouldBe se_X12_wouldBe ml_12_459 isC_12 ob_68 (Ob.lt ob_68) rfl (by decide) ⟨Nat.le_refl _, Nat.le_refl _⟩ (Nat.le_of_ble_eq_true rfl) (D_X12_cuts_0.at 11 rfl) (fun _ => rfl) T (fun r9 h10 T b11 => ?_)
  refine J_aload_n 23 rfl 0 0 rfl ⟨by decide, by decide⟩ (D_X12_cuts_0.at 12 rfl) ?_
  refine J_getF (ov := 107) (dd := 1039) 26 rfl fl_12_130 rfl (by decide) rfl ob_68 (Ob.lt ob_68) (D_X12_cuts_0.at 13 rfl) ?_
  refine J_iload_n 27 rfl 1 1 rfl (D_X12_cuts_0.at 14 rfl) ?_
  obtain ⟨s12, T⟩ := T
  refine J_iald 28 rfl ar_107 (Ar.lt ar_107) s12 (D_X12_cuts_0.at 15 rfl) ?_
  exact J_iret rfl (D_X12_cuts_0.at 16 rfl) T
theorem c_X12_settles {w : Wd} {a1 a2 a3 : Int} {h : Hp} {K : Int → Hp → Prop} (T : (inR a1) ∧ ((inR ((h 68 36) - 1)) ∧ ((inL a1) ∧ (((a1 < 0) → (K (-1) h)) ∧ (¬ (a1 < 0) → ((inL a1) ∧ ((inL ((h 68 36) - 1)) ∧ (((a1 > ((h 68 36) - 1)) → (K (-1) h)) ∧ (¬ (a1 > ((h 68 36) - 1)) → ((inR a2) ∧ ((inR ((h 93 5) - 1)) ∧ ((inL a2) ∧ (((a2 < 0) → (K (-1) h)) ∧ (¬ (a2 < 0) → ((inL a2) ∧ ((inL ((h 93 5) - 1)) ∧ (((a2 > ((h 93 5) - 1)) → (K (-1) h)) ∧ (¬ (a2 > ((h 93 5) - 1)) → ((inR a3) ∧ ((inL a3) ∧ (((a3 < 0) → (K (-1) h)) ∧ (¬ (a3 < 0) → ((inL a3) ∧ (((a3 > 9) → (K (-1) h)) ∧ (¬ (a3 > 9) → (C_X12_wouldBe w a3 h (fun _ h15 => (0 ≤ ((10 * a1) + a2) ∧ ((10 * a1) + a2) < 80) ∧ (K (h15 110 ((10 * a1) + a2)) h15)))))))))))))))))))))))))))) : C_X12_settles w a1 a2 a3 h K := by
  refine CGm_of2 (by decide) (by decide) trivial (Nat.le_of_ble_eq_true rfl) ?_
  refine J_aload_n 1 rfl 0 0 rfl ⟨by decide, by decide⟩ (D_X12_settles_0.at 0 rfl) ?_
  refine J_iload_n 2 rfl 1 1 rfl (D_X12_settles_0.at 1 rfl) ?_
  refine J_callV (d' := 2) (K1 := fun z h0 => rok (some .boolean) z → JG w true m_X12_settles 7 NT NT 5 [(0, vR 68), (1, vI a1), (2, vI a2), (3, vI a3)] [vI z] h0 _) (sr := fun z => [vI z]) (as := [vI a1]) (st := []) (o := 68) 5 rfl ok_X12_isReach im_X12_isReach se_X12_isReach ml_12_499 isC_12 ob_68 (Ob.lt ob_68) rfl (by decide) ⟨Nat.le_refl _, Nat.le_refl _⟩ (Nat.le_of_ble_eq_true rfl) (D_X12_settles_0.at 2 rfl) (fun _ => rfl) (CGm_of2 (by decide) (by decide) trivial (Nat.le_of_ble_eq_true rfl) ?_) (fun _ _ kq hb => kq hb)
  refine J_iload_n 1 rfl 1 1 rfl (D_X12_isReach_0.at 0 rfl) ?_
  obtain ⟨s1, T⟩ := T
  refine J_i2l 2 rfl s1 (D_X12_isReach_0.at 1 rfl) ?_
  refine J_lconst (z := 0) 3 rfl rfl (D_X12_isReach_0.at 2 rfl) ?_
  refine J_aload_n 4 rfl 0 0 rfl ⟨by decide, by decide⟩ (D_X12_isReach_0.at 3 rfl) ?_
  refine J_getI (z := (h 68 36)) 7 rfl fl_12_356 rfl ob_68 (Ob.lt ob_68) (D_X12_isReach_0.at 4 rfl) rfl ?_
  refine J_iconst 8 rfl (D_X12_isReach_0.at 5 rfl) ?_
  refine J_isub 9 rfl (D_X12_isReach_0.at 6 rfl) ?_
  obtain ⟨s2, T⟩ := T
  refine J_i2l 10 rfl s2 (D_X12_isReach_0.at 7 rfl) ?_
  refine J_callS (d' := 1) (K1 := fun z h0 => rok (some .boolean) z → JG w true m_X12_isReach 2 NT NT 13 [(0, vR 68), (1, vI a1)] [vI z] h0 _) (sr := fun z => [vI z]) (as := [vL a1, vL 0, vL ((h 68 36) - 1)]) (st := []) 13 rfl ok_X12_isIn sm_X12_isIn ml_12_267 rfl (by decide) ⟨Nat.le_refl _, Nat.le_refl _⟩ (Nat.le_of_ble_eq_true rfl) (D_X12_isReach_0.at 8 rfl) (fun _ => rfl) (CGm_of2 (by decide) (by decide) trivial (Nat.le_of_ble_eq_true rfl) ?_) (fun _ _ kq hb => kq hb)
  refine J_lload_n 1 rfl 0 0 rfl (D_X12_isIn_0.at 0 rfl) ?_
  refine J_lload_n 2 rfl 2 1 rfl (D_X12_isIn_0.at 1 rfl) ?_
  obtain ⟨s3, T⟩ := T
  refine J_lcmp_lt 6 rfl 17 s3 ⟨by decide, by decide⟩ (D_X12_isIn_0.at 2 rfl) (D_X12_isIn_0.at 3 rfl) (by decide) (fun c23 => ?_) (fun c23 => ?_)
  · replace T := T.1 c23
    refine J_iconst 18 rfl (D_X12_isIn_0.at 10 rfl) ?_
    refine J_zret rfl (Or.inl rfl) (D_X12_isIn_0.at 11 rfl) (fun _ => ?_)
    refine J_zret rfl (Or.inl rfl) (D_X12_isReach_0.at 9 rfl) (fun _ => ?_)
    refine J_if_eq 8 rfl 23 ⟨by decide, by decide⟩ (D_X12_settles_0.at 3 rfl) (by decide) (fun _ => ?_) (fun c => absurd (by decide) c)
    refine J_iconst 24 rfl (D_X12_settles_0.at 11 rfl) ?_
    exact J_iret rfl (D_X12_settles_0.at 12 rfl) T
  replace T := T.2 c23
  refine J_lload_n 7 rfl 0 0 rfl (D_X12_isIn_0.at 4 rfl) ?_
  refine J_lload 9 rfl 4 2 rfl (D_X12_isIn_0.at 5 rfl) ?_
  obtain ⟨s4, T⟩ := T
  obtain ⟨s5, T⟩ := T
  refine J_lcmp_gt 13 rfl 17 s4 s5 (D_X12_isIn_0.at 6 rfl) (D_X12_isIn_0.at 7 rfl) (by decide) (fun c22 => ?_) (fun c22 => ?_)
  · replace T := T.1 c22
    refine J_iconst 18 rfl (D_X12_isIn_0.at 10 rfl) ?_
    refine J_zret rfl (Or.inl rfl) (D_X12_isIn_0.at 11 rfl) (fun _ => ?_)
    refine J_zret rfl (Or.inl rfl) (D_X12_isReach_0.at 9 rfl) (fun _ => ?_)
    refine J_if_eq 8 rfl 23 ⟨by decide, by decide⟩ (D_X12_settles_0.at 3 rfl) (by decide) (fun _ => ?_) (fun c => absurd (by decide) c)
    refine J_iconst 24 rfl (D_X12_settles_0.at 11 rfl) ?_
    exact J_iret rfl (D_X12_settles_0.at 12 rfl) T
  replace T := T.2 c22
  refine J_iconst 14 rfl (D_X12_isIn_0.at 8 rfl) ?_
  refine J_goto 18 (D_X12_isIn_0.at 9 rfl) (by decide) ?_
  refine J_zret rfl (Or.inr rfl) (D_X12_isIn_0.at 11 rfl) (fun _ => ?_)
  refine J_zret rfl (Or.inr rfl) (D_X12_isReach_0.at 9 rfl) (fun _ => ?_)
  refine J_if_eq 8 rfl 23 ⟨by decide, by decide⟩ (D_X12_settles_0.at 3 rfl) (by decide) (fun c => absurd c (by decide)) (fun _ => ?_)
  refine J_aload_n 9 rfl 0 0 rfl ⟨by decide, by decide⟩ (D_X12_settles_0.at 4 rfl) ?_
  refine J_iload_n 10 rfl 2 2 rfl (D_X12_settles_0.at 5 rfl) ?_
  refine J_callV (d' := 2) (K1 := fun z h0 => rok (some .boolean) z → JG w true m_X12_settles 7 NT NT 13 [(0, vR 68), (1, vI a1), (2, vI a2), (3, vI a3)] [vI z] h0 _) (sr := fun z => [vI z]) (as := [vI a2]) (st := []) (o := 68) 13 rfl ok_X12_isBank im_X12_isBank se_X12_isBank ml_12_481 isC_12 ob_68 (Ob.lt ob_68) rfl (by decide) ⟨Nat.le_refl _, Nat.le_refl _⟩ (Nat.le_of_ble_eq_true rfl) (D_X12_settles_0.at 6 rfl) (fun _ => rfl) (CGm_of2 (by decide) (by decide) trivial (Nat.le_of_ble_eq_true rfl) ?_) (fun _ _ kq hb => kq hb)
  refine J_iload_n 1 rfl 1 1 rfl (D_X12_isBank_0.at 0 rfl) ?_
  obtain ⟨s6, T⟩ := T
  refine J_i2l 2 rfl s6 (D_X12_isBank_0.at 1 rfl) ?_
  refine J_lconst (z := 0) 3 rfl rfl (D_X12_isBank_0.at 2 rfl) ?_
  refine J_aload_n 4 rfl 0 0 rfl ⟨by decide, by decide⟩ (D_X12_isBank_0.at 3 rfl) ?_
  refine J_callV (d' := 1) (K1 := fun z h0 => rok (some .int) z → JG w true m_X12_isBank 2 NT NT 7 [(0, vR 68), (1, vI a2)] [vI z, vL 0, vL a2] h0 _) (sr := fun z => [vI z, vL 0, vL a2]) (as := []) (st := [vL 0, vL a2]) (o := 68) 7 rfl ok_X12_bankMany im_X12_bankMany se_X12_bankMany ml_12_419 isC_12 ob_68 (Ob.lt ob_68) rfl (by decide) ⟨Nat.le_refl _, Nat.le_refl _⟩ (Nat.le_of_ble_eq_true rfl) (D_X12_isBank_0.at 4 rfl) (fun _ => rfl) (CGm_of2 (by decide) (by decide) trivial (Nat.le_of_ble_eq_true rfl) ?_) (fun _ _ kq hb => kq hb)
  refine J_aload_n 1 rfl 0 0 rfl ⟨by decide, by decide⟩ (D_X12_bankMany_0.at 0 rfl) ?_
  refine J_getF (ov := 93) (dd := 1025) 4 rfl fl_12_87 rfl (by decide) rfl ob_68 (Ob.lt ob_68) (D_X12_bankMany_0.at 1 rfl) ?_
  refine J_iconst 5 rfl (D_X12_bankMany_0.at 2 rfl) ?_
  refine J_iald 6 rfl ar_93 (Ar.lt ar_93) ⟨by decide, by decide⟩ (D_X12_bankMany_0.at 3 rfl) ?_
  refine J_iret rfl (D_X12_bankMany_0.at 4 rfl) (fun _ => ?_)
  refine J_iconst 8 rfl (D_X12_isBank_0.at 5 rfl) ?_
  refine J_isub 9 rfl (D_X12_isBank_0.at 6 rfl) ?_
  obtain ⟨s7, T⟩ := T
  refine J_i2l 10 rfl s7 (D_X12_isBank_0.at 7 rfl) ?_
  refine J_callS (d' := 1) (K1 := fun z h0 => rok (some .boolean) z → JG w true m_X12_isBank 2 NT NT 13 [(0, vR 68), (1, vI a2)] [vI z] h0 _) (sr := fun z => [vI z]) (as := [vL a2, vL 0, vL ((h 93 5) - 1)]) (st := []) 13 rfl ok_X12_isIn sm_X12_isIn ml_12_267 rfl (by decide) ⟨Nat.le_refl _, Nat.le_refl _⟩ (Nat.le_of_ble_eq_true rfl) (D_X12_isBank_0.at 8 rfl) (fun _ => rfl) (CGm_of2 (by decide) (by decide) trivial (Nat.le_of_ble_eq_true rfl) ?_) (fun _ _ kq hb => kq hb)
  refine J_lload_n 1 rfl 0 0 rfl (D_X12_isIn_0.at 0 rfl) ?_
  refine J_lload_n 2 rfl 2 1 rfl (D_X12_isIn_0.at 1 rfl) ?_
  obtain ⟨s8, T⟩ := T
  refine J_lcmp_lt 6 rfl 17 s8 ⟨by decide, by decide⟩ (D_X12_isIn_0.at 2 rfl) (D_X12_isIn_0.at 3 rfl) (by decide) (fun c21 => ?_) (fun c21 => ?_)
  · replace T := T.1 c21
    refine J_iconst 18 rfl (D_X12_isIn_0.at 10 rfl) ?_
    refine J_zret rfl (Or.inl rfl) (D_X12_isIn_0.at 11 rfl) (fun _ => ?_)
    refine J_zret rfl (Or.inl rfl) (D_X12_isBank_0.at 9 rfl) (fun _ => ?_)
    refine J_if_eq 16 rfl 23 ⟨by decide, by decide⟩ (D_X12_settles_0.at 7 rfl) (by decide) (fun _ => ?_) (fun c => absurd (by decide) c)
    refine J_iconst 24 rfl (D_X12_settles_0.at 11 rfl) ?_
    exact J_iret rfl (D_X12_settles_0.at 12 rfl) T
  replace T := T.2 c21
  refine J_lload_n 7 rfl 0 0 rfl (D_X12_isIn_0.at 4 rfl) ?_
  refine J_lload 9 rfl 4 2 rfl (D_X12_isIn_0.at 5 rfl) ?_
  obtain ⟨s9, T⟩ := T
  obtain ⟨s10, T⟩ := T
  refine J_lcmp_gt 13 rfl 17 s9 s10 (D_X12_isIn_0.at 6 rfl) (D_X12_isIn_0.at 7 rfl) (by decide) (fun c20 => ?_) (fun c20 => ?_)
  · replace T := T.1 c20
    refine J_iconst 18 rfl (D_X12_isIn_0.at 10 rfl) ?_
    refine J_zret rfl (Or.inl rfl) (D_X12_isIn_0.at 11 rfl) (fun _ => ?_)
    refine J_zret rfl (Or.inl rfl) (D_X12_isBank_0.at 9 rfl) (fun _ => ?_)
    refine J_if_eq 16 rfl 23 ⟨by decide, by decide⟩ (D_X12_settles_0.at 7 rfl) (by decide) (fun _ => ?_) (fun c => absurd (by decide) c)
    refine J_iconst 24 rfl (D_X12_settles_0.at 11 rfl) ?_
    exact J_iret rfl (D_X12_settles_0.at 12 rfl) T
  replace T := T.2 c20
  refine J_iconst 14 rfl (D_X12_isIn_0.at 8 rfl) ?_
  refine J_goto 18 (D_X12_isIn_0.at 9 rfl) (by decide) ?_
  refine J_zret rfl (Or.inr rfl) (D_X12_isIn_0.at 11 rfl) (fun _ => ?_)
  refine J_zret rfl (Or.inr rfl) (D_X12_isBank_0.at 9 rfl) (fun _ => ?_)
  refine J_if_eq 16 rfl 23 ⟨by decide, by decide⟩ (D_X12_settles_0.at 7 rfl) (by decide) (fun c => absurd c (by decide)) (fun _ => ?_)
  refine J_iload_n 17 rfl 3 3 rfl (D_X12_settles_0.at 8 rfl) ?_
  refine J_callS (d' := 2) (K1 := fun z h0 => rok (some .boolean) z → JG w true m_X12_settles 7 NT NT 20 [(0, vR 68), (1, vI a1), (2, vI a2), (3, vI a3)] [vI z] h0 _) (sr := fun z => [vI z]) (as := [vI a3]) (st := []) 20 rfl ok_X12_isLevel sm_X12_isLevel ml_12_514 rfl (by decide) ⟨Nat.le_refl _, Nat.le_refl _⟩ (Nat.le_of_ble_eq_true rfl) (D_X12_settles_0.at 9 rfl) (fun _ => rfl) (CGm_of2 (by decide) (by decide) trivial (Nat.le_of_ble_eq_true rfl) ?_) (fun _ _ kq hb => kq hb)
  refine J_iload_n 1 rfl 0 0 rfl (D_X12_isLevel_0.at 0 rfl) ?_
  obtain ⟨s11, T⟩ := T
  refine J_i2l 2 rfl s11 (D_X12_isLevel_0.at 1 rfl) ?_
  refine J_lconst (z := 0) 3 rfl rfl (D_X12_isLevel_0.at 2 rfl) ?_
  refine J_ldc2 6 rfl ko_12_425 (D_X12_isLevel_0.at 3 rfl) ?_
  refine J_callS (d' := 1) (K1 := fun z h0 => rok (some .boolean) z → JG w true m_X12_isLevel 2 NT NT 9 [(0, vI a3)] [vI z] h0 _) (sr := fun z => [vI z]) (as := [vL a3, vL 0, vL 9]) (st := []) 9 rfl ok_X12_isIn sm_X12_isIn ml_12_267 rfl (by decide) ⟨Nat.le_refl _, Nat.le_refl _⟩ (Nat.le_of_ble_eq_true rfl) (D_X12_isLevel_0.at 4 rfl) (fun _ => rfl) (CGm_of2 (by decide) (by decide) trivial (Nat.le_of_ble_eq_true rfl) ?_) (fun _ _ kq hb => kq hb)
  refine J_lload_n 1 rfl 0 0 rfl (D_X12_isIn_0.at 0 rfl) ?_
  refine J_lload_n 2 rfl 2 1 rfl (D_X12_isIn_0.at 1 rfl) ?_
  obtain ⟨s12, T⟩ := T
  refine J_lcmp_lt 6 rfl 17 s12 ⟨by decide, by decide⟩ (D_X12_isIn_0.at 2 rfl) (D_X12_isIn_0.at 3 rfl) (by decide) (fun c19 => ?_) (fun c19 => ?_)
  · replace T := T.1 c19
    refine J_iconst 18 rfl (D_X12_isIn_0.at 10 rfl) ?_
    refine J_zret rfl (Or.inl rfl) (D_X12_isIn_0.at 11 rfl) (fun _ => ?_)
    refine J_zret rfl (Or.inl rfl) (D_X12_isLevel_0.at 5 rfl) (fun _ => ?_)
    refine J_if_ne 23 rfl 25 ⟨by decide, by decide⟩ (D_X12_settles_0.at 10 rfl) (by decide) (fun c => absurd c (by decide)) (fun _ => ?_)
    refine J_iconst 24 rfl (D_X12_settles_0.at 11 rfl) ?_
    exact J_iret rfl (D_X12_settles_0.at 12 rfl) T
  replace T := T.2 c19
  refine J_lload_n 7 rfl 0 0 rfl (D_X12_isIn_0.at 4 rfl) ?_
  refine J_lload 9 rfl 4 2 rfl (D_X12_isIn_0.at 5 rfl) ?_
  obtain ⟨s13, T⟩ := T
  refine J_lcmp_gt 13 rfl 17 s13 ⟨by decide, by decide⟩ (D_X12_isIn_0.at 6 rfl) (D_X12_isIn_0.at 7 rfl) (by decide) (fun c18 => ?_) (fun c18 => ?_)
  · replace T := T.1 c18
    refine J_iconst 18 rfl (D_X12_isIn_0.at 10 rfl) ?_
    refine J_zret rfl (Or.inl rfl) (D_X12_isIn_0.at 11 rfl) (fun _ => ?_)
    refine J_zret rfl (Or.inl rfl) (D_X12_isLevel_0.at 5 rfl) (fun _ => ?_)
    refine J_if_ne 23 rfl 25 ⟨by decide, by decide⟩ (D_X12_settles_0.at 10 rfl) (by decide) (fun c => absurd c (by decide)) (fun _ => ?_)
    refine J_iconst 24 rfl (D_X12_settles_0.at 11 rfl) ?_
    exact J_iret rfl (D_X12_settles_0.at 12 rfl) T
  replace T := T.2 c18
  refine J_iconst 14 rfl (D_X12_isIn_0.at 8 rfl) ?_
  refine J_goto 18 (D_X12_isIn_0.at 9 rfl) (by decide) ?_
  refine J_zret rfl (Or.inr rfl) (D_X12_isIn_0.at 11 rfl) (fun _ => ?_)
  refine J_zret rfl (Or.inr rfl) (D_X12_isLevel_0.at 5 rfl) (fun _ => ?_)
  refine J_if_ne 23 rfl 25 ⟨by decide, by decide⟩ (D_X12_settles_0.at 10 rfl) (by decide) (fun _ => ?_) (fun c => absurd (by decide) c)
  refine J_aload_n 26 rfl 0 0 rfl ⟨by decide, by decide⟩ (D_X12_settles_0.at 13 rfl) ?_
  refine J_iload_n 27 rfl 3 3 rfl (D_X12_settles_0.at 14 rfl) ?_
  refine J_callV (d' := 6) (sr := fun z => []) (as := [vI a3]) (st := []) (o := 68) 30 rfl ok_X12_wouldBe im_X12_wouldBe se_X12_wouldBe ml_12_459 isC_12 ob_68 (Ob.lt ob_68) rfl (by decide) ⟨Nat.le_refl _, Nat.le_refl _⟩ (Nat.le_of_ble_eq_true rfl) (D_X12_settles_0.at 15 rfl) (fun _ => rfl) T (fun r14 h15 T b16 => ?_)
  refine J_aload_n 31 rfl 0 0 rfl ⟨by decide, by decide⟩ (D_X12_settles_0.at 16 rfl) ?_
  refine J_getF (ov := 110) (dd := 1042) 34 rfl fl_12_139 rfl (by decide) rfl ob_68 (Ob.lt ob_68) (D_X12_settles_0.at 17 rfl) ?_
  refine J_bipush 36 rfl ⟨by decide, by decide⟩ (D_X12_settles_0.at 18 rfl) ?_
  refine J_iload_n 37 rfl 1 1 rfl (D_X12_settles_0.at 19 rfl) ?_
  refine J_imul 38 rfl (D_X12_settles_0.at 20 rfl) ?_
  refine J_iload_n 39 rfl 2 2 rfl (D_X12_settles_0.at 21 rfl) ?_
  refine J_iadd 40 rfl (D_X12_settles_0.at 22 rfl) ?_
  obtain ⟨s17, T⟩ := T
  refine J_iald 41 rfl ar_110 (Ar.lt ar_110) s17 (D_X12_settles_0.at 23 rfl) ?_
  exact J_iret rfl (D_X12_settles_0.at 24 rfl) T
theorem c_X12_carries {w : Wd} {a1 a2 a3 : Int} {h : Hp} {K : Int → Hp → Prop} (T : (inR a1) ∧ ((inR ((h 68 36) - 1)) ∧ ((inL a1) ∧ (((a1 < 0) → (K (-1) h)) ∧ (¬ (a1 < 0) → ((inL a1) ∧ ((inL ((h 68 36) - 1)) ∧ (((a1 > ((h 68 36) - 1)) → (K (-1) h)) ∧ (¬ (a1 > ((h 68 36) - 1)) → ((inR a2) ∧ ((inR ((h 93 5) - 1)) ∧ ((inL a2) ∧ (((a2 < 0) → (K (-1) h)) ∧ (¬ (a2 < 0) → ((inL a2) ∧ ((inL ((h 93 5) - 1)) ∧ (((a2 > ((h 93 5) - 1)) → (K (-1) h)) ∧ (¬ (a2 > ((h 93 5) - 1)) → ((inR a3) ∧ ((inL a3) ∧ (((a3 < 0) → (K (-1) h)) ∧ (¬ (a3 < 0) → ((inL a3) ∧ (((a3 > 9) → (K (-1) h)) ∧ (¬ (a3 > 9) → (C_X12_wouldBe w a3 h (fun _ h15 => (0 ≤ ((10 * a1) + a2) ∧ ((10 * a1) + a2) < 80) ∧ (K (h15 109 ((10 * a1) + a2)) h15)))))))))))))))))))))))))))) : C_X12_carries w a1 a2 a3 h K := by
  refine CGm_of2 (by decide) (by decide) trivial (Nat.le_of_ble_eq_true rfl) ?_
  refine J_aload_n 1 rfl 0 0 rfl ⟨by decide, by decide⟩ (D_X12_carries_0.at 0 rfl) ?_
  refine J_iload_n 2 rfl 1 1 rfl (D_X12_carries_0.at 1 rfl) ?_
  refine J_callV (d' := 2) (K1 := fun z h0 => rok (some .boolean) z → JG w true m_X12_carries 7 NT NT 5 [(0, vR 68), (1, vI a1), (2, vI a2), (3, vI a3)] [vI z] h0 _) (sr := fun z => [vI z]) (as := [vI a1]) (st := []) (o := 68) 5 rfl ok_X12_isReach im_X12_isReach se_X12_isReach ml_12_499 isC_12 ob_68 (Ob.lt ob_68) rfl (by decide) ⟨Nat.le_refl _, Nat.le_refl _⟩ (Nat.le_of_ble_eq_true rfl) (D_X12_carries_0.at 2 rfl) (fun _ => rfl) (CGm_of2 (by decide) (by decide) trivial (Nat.le_of_ble_eq_true rfl) ?_) (fun _ _ kq hb => kq hb)
  refine J_iload_n 1 rfl 1 1 rfl (D_X12_isReach_0.at 0 rfl) ?_
  obtain ⟨s1, T⟩ := T
  refine J_i2l 2 rfl s1 (D_X12_isReach_0.at 1 rfl) ?_
  refine J_lconst (z := 0) 3 rfl rfl (D_X12_isReach_0.at 2 rfl) ?_
  refine J_aload_n 4 rfl 0 0 rfl ⟨by decide, by decide⟩ (D_X12_isReach_0.at 3 rfl) ?_
  refine J_getI (z := (h 68 36)) 7 rfl fl_12_356 rfl ob_68 (Ob.lt ob_68) (D_X12_isReach_0.at 4 rfl) rfl ?_
  refine J_iconst 8 rfl (D_X12_isReach_0.at 5 rfl) ?_
  refine J_isub 9 rfl (D_X12_isReach_0.at 6 rfl) ?_
  obtain ⟨s2, T⟩ := T
  refine J_i2l 10 rfl s2 (D_X12_isReach_0.at 7 rfl) ?_
  refine J_callS (d' := 1) (K1 := fun z h0 => rok (some .boolean) z → JG w true m_X12_isReach 2 NT NT 13 [(0, vR 68), (1, vI a1)] [vI z] h0 _) (sr := fun z => [vI z]) (as := [vL a1, vL 0, vL ((h 68 36) - 1)]) (st := []) 13 rfl ok_X12_isIn sm_X12_isIn ml_12_267 rfl (by decide) ⟨Nat.le_refl _, Nat.le_refl _⟩ (Nat.le_of_ble_eq_true rfl) (D_X12_isReach_0.at 8 rfl) (fun _ => rfl) (CGm_of2 (by decide) (by decide) trivial (Nat.le_of_ble_eq_true rfl) ?_) (fun _ _ kq hb => kq hb)
  refine J_lload_n 1 rfl 0 0 rfl (D_X12_isIn_0.at 0 rfl) ?_
  refine J_lload_n 2 rfl 2 1 rfl (D_X12_isIn_0.at 1 rfl) ?_
  obtain ⟨s3, T⟩ := T
  refine J_lcmp_lt 6 rfl 17 s3 ⟨by decide, by decide⟩ (D_X12_isIn_0.at 2 rfl) (D_X12_isIn_0.at 3 rfl) (by decide) (fun c23 => ?_) (fun c23 => ?_)
  · replace T := T.1 c23
    refine J_iconst 18 rfl (D_X12_isIn_0.at 10 rfl) ?_
    refine J_zret rfl (Or.inl rfl) (D_X12_isIn_0.at 11 rfl) (fun _ => ?_)
    refine J_zret rfl (Or.inl rfl) (D_X12_isReach_0.at 9 rfl) (fun _ => ?_)
    refine J_if_eq 8 rfl 23 ⟨by decide, by decide⟩ (D_X12_carries_0.at 3 rfl) (by decide) (fun _ => ?_) (fun c => absurd (by decide) c)
    refine J_iconst 24 rfl (D_X12_carries_0.at 11 rfl) ?_
    exact J_iret rfl (D_X12_carries_0.at 12 rfl) T
  replace T := T.2 c23
  refine J_lload_n 7 rfl 0 0 rfl (D_X12_isIn_0.at 4 rfl) ?_
  refine J_lload 9 rfl 4 2 rfl (D_X12_isIn_0.at 5 rfl) ?_
  obtain ⟨s4, T⟩ := T
  obtain ⟨s5, T⟩ := T
  refine J_lcmp_gt 13 rfl 17 s4 s5 (D_X12_isIn_0.at 6 rfl) (D_X12_isIn_0.at 7 rfl) (by decide) (fun c22 => ?_) (fun c22 => ?_)
  · replace T := T.1 c22
    refine J_iconst 18 rfl (D_X12_isIn_0.at 10 rfl) ?_
    refine J_zret rfl (Or.inl rfl) (D_X12_isIn_0.at 11 rfl) (fun _ => ?_)
    refine J_zret rfl (Or.inl rfl) (D_X12_isReach_0.at 9 rfl) (fun _ => ?_)
    refine J_if_eq 8 rfl 23 ⟨by decide, by decide⟩ (D_X12_carries_0.at 3 rfl) (by decide) (fun _ => ?_) (fun c => absurd (by decide) c)
    refine J_iconst 24 rfl (D_X12_carries_0.at 11 rfl) ?_
    exact J_iret rfl (D_X12_carries_0.at 12 rfl) T
  replace T := T.2 c22
  refine J_iconst 14 rfl (D_X12_isIn_0.at 8 rfl) ?_
  refine J_goto 18 (D_X12_isIn_0.at 9 rfl) (by decide) ?_
  refine J_zret rfl (Or.inr rfl) (D_X12_isIn_0.at 11 rfl) (fun _ => ?_)
  refine J_zret rfl (Or.inr rfl) (D_X12_isReach_0.at 9 rfl) (fun _ => ?_)
  refine J_if_eq 8 rfl 23 ⟨by decide, by decide⟩ (D_X12_carries_0.at 3 rfl) (by decide) (fun c => absurd c (by decide)) (fun _ => ?_)
  refine J_aload_n 9 rfl 0 0 rfl ⟨by decide, by decide⟩ (D_X12_carries_0.at 4 rfl) ?_
  refine J_iload_n 10 rfl 2 2 rfl (D_X12_carries_0.at 5 rfl) ?_
  refine J_callV (d' := 2) (K1 := fun z h0 => rok (some .boolean) z → JG w true m_X12_carries 7 NT NT 13 [(0, vR 68), (1, vI a1), (2, vI a2), (3, vI a3)] [vI z] h0 _) (sr := fun z => [vI z]) (as := [vI a2]) (st := []) (o := 68) 13 rfl ok_X12_isBank im_X12_isBank se_X12_isBank ml_12_481 isC_12 ob_68 (Ob.lt ob_68) rfl (by decide) ⟨Nat.le_refl _, Nat.le_refl _⟩ (Nat.le_of_ble_eq_true rfl) (D_X12_carries_0.at 6 rfl) (fun _ => rfl) (CGm_of2 (by decide) (by decide) trivial (Nat.le_of_ble_eq_true rfl) ?_) (fun _ _ kq hb => kq hb)
  refine J_iload_n 1 rfl 1 1 rfl (D_X12_isBank_0.at 0 rfl) ?_
  obtain ⟨s6, T⟩ := T
  refine J_i2l 2 rfl s6 (D_X12_isBank_0.at 1 rfl) ?_
  refine J_lconst (z := 0) 3 rfl rfl (D_X12_isBank_0.at 2 rfl) ?_
  refine J_aload_n 4 rfl 0 0 rfl ⟨by decide, by decide⟩ (D_X12_isBank_0.at 3 rfl) ?_
  refine J_callV (d' := 1) (K1 := fun z h0 => rok (some .int) z → JG w true m_X12_isBank 2 NT NT 7 [(0, vR 68), (1, vI a2)] [vI z, vL 0, vL a2] h0 _) (sr := fun z => [vI z, vL 0, vL a2]) (as := []) (st := [vL 0, vL a2]) (o := 68) 7 rfl ok_X12_bankMany im_X12_bankMany se_X12_bankMany ml_12_419 isC_12 ob_68 (Ob.lt ob_68) rfl (by decide) ⟨Nat.le_refl _, Nat.le_refl _⟩ (Nat.le_of_ble_eq_true rfl) (D_X12_isBank_0.at 4 rfl) (fun _ => rfl) (CGm_of2 (by decide) (by decide) trivial (Nat.le_of_ble_eq_true rfl) ?_) (fun _ _ kq hb => kq hb)
  refine J_aload_n 1 rfl 0 0 rfl ⟨by decide, by decide⟩ (D_X12_bankMany_0.at 0 rfl) ?_
  refine J_getF (ov := 93) (dd := 1025) 4 rfl fl_12_87 rfl (by decide) rfl ob_68 (Ob.lt ob_68) (D_X12_bankMany_0.at 1 rfl) ?_
  refine J_iconst 5 rfl (D_X12_bankMany_0.at 2 rfl) ?_
  refine J_iald 6 rfl ar_93 (Ar.lt ar_93) ⟨by decide, by decide⟩ (D_X12_bankMany_0.at 3 rfl) ?_
  refine J_iret rfl (D_X12_bankMany_0.at 4 rfl) (fun _ => ?_)
  refine J_iconst 8 rfl (D_X12_isBank_0.at 5 rfl) ?_
  refine J_isub 9 rfl (D_X12_isBank_0.at 6 rfl) ?_
  obtain ⟨s7, T⟩ := T
  refine J_i2l 10 rfl s7 (D_X12_isBank_0.at 7 rfl) ?_
  refine J_callS (d' := 1) (K1 := fun z h0 => rok (some .boolean) z → JG w true m_X12_isBank 2 NT NT 13 [(0, vR 68), (1, vI a2)] [vI z] h0 _) (sr := fun z => [vI z]) (as := [vL a2, vL 0, vL ((h 93 5) - 1)]) (st := []) 13 rfl ok_X12_isIn sm_X12_isIn ml_12_267 rfl (by decide) ⟨Nat.le_refl _, Nat.le_refl _⟩ (Nat.le_of_ble_eq_true rfl) (D_X12_isBank_0.at 8 rfl) (fun _ => rfl) (CGm_of2 (by decide) (by decide) trivial (Nat.le_of_ble_eq_true rfl) ?_) (fun _ _ kq hb => kq hb)
  refine J_lload_n 1 rfl 0 0 rfl (D_X12_isIn_0.at 0 rfl) ?_
  refine J_lload_n 2 rfl 2 1 rfl (D_X12_isIn_0.at 1 rfl) ?_
  obtain ⟨s8, T⟩ := T
  refine J_lcmp_lt 6 rfl 17 s8 ⟨by decide, by decide⟩ (D_X12_isIn_0.at 2 rfl) (D_X12_isIn_0.at 3 rfl) (by decide) (fun c21 => ?_) (fun c21 => ?_)
  · replace T := T.1 c21
    refine J_iconst 18 rfl (D_X12_isIn_0.at 10 rfl) ?_
    refine J_zret rfl (Or.inl rfl) (D_X12_isIn_0.at 11 rfl) (fun _ => ?_)
    refine J_zret rfl (Or.inl rfl) (D_X12_isBank_0.at 9 rfl) (fun _ => ?_)
    refine J_if_eq 16 rfl 23 ⟨by decide, by decide⟩ (D_X12_carries_0.at 7 rfl) (by decide) (fun _ => ?_) (fun c => absurd (by decide) c)
    refine J_iconst 24 rfl (D_X12_carries_0.at 11 rfl) ?_
    exact J_iret rfl (D_X12_carries_0.at 12 rfl) T
  replace T := T.2 c21
  refine J_lload_n 7 rfl 0 0 rfl (D_X12_isIn_0.at 4 rfl) ?_
  refine J_lload 9 rfl 4 2 rfl (D_X12_isIn_0.at 5 rfl) ?_
  obtain ⟨s9, T⟩ := T
  obtain ⟨s10, T⟩ := T
  refine J_lcmp_gt 13 rfl 17 s9 s10 (D_X12_isIn_0.at 6 rfl) (D_X12_isIn_0.at 7 rfl) (by decide) (fun c20 => ?_) (fun c20 => ?_)
  · replace T := T.1 c20
    refine J_iconst 18 rfl (D_X12_isIn_0.at 10 rfl) ?_
    refine J_zret rfl (Or.inl rfl) (D_X12_isIn_0.at 11 rfl) (fun _ => ?_)
    refine J_zret rfl (Or.inl rfl) (D_X12_isBank_0.at 9 rfl) (fun _ => ?_)
    refine J_if_eq 16 rfl 23 ⟨by decide, by decide⟩ (D_X12_carries_0.at 7 rfl) (by decide) (fun _ => ?_) (fun c => absurd (by decide) c)
    refine J_iconst 24 rfl (D_X12_carries_0.at 11 rfl) ?_
    exact J_iret rfl (D_X12_carries_0.at 12 rfl) T
  replace T := T.2 c20
  refine J_iconst 14 rfl (D_X12_isIn_0.at 8 rfl) ?_
  refine J_goto 18 (D_X12_isIn_0.at 9 rfl) (by decide) ?_
  refine J_zret rfl (Or.inr rfl) (D_X12_isIn_0.at 11 rfl) (fun _ => ?_)
  refine J_zret rfl (Or.inr rfl) (D_X12_isBank_0.at 9 rfl) (fun _ => ?_)
  refine J_if_eq 16 rfl 23 ⟨by decide, by decide⟩ (D_X12_carries_0.at 7 rfl) (by decide) (fun c => absurd c (by decide)) (fun _ => ?_)
  refine J_iload_n 17 rfl 3 3 rfl (D_X12_carries_0.at 8 rfl) ?_
  refine J_callS (d' := 2) (K1 := fun z h0 => rok (some .boolean) z → JG w true m_X12_carries 7 NT NT 20 [(0, vR 68), (1, vI a1), (2, vI a2), (3, vI a3)] [vI z] h0 _) (sr := fun z => [vI z]) (as := [vI a3]) (st := []) 20 rfl ok_X12_isLevel sm_X12_isLevel ml_12_514 rfl (by decide) ⟨Nat.le_refl _, Nat.le_refl _⟩ (Nat.le_of_ble_eq_true rfl) (D_X12_carries_0.at 9 rfl) (fun _ => rfl) (CGm_of2 (by decide) (by decide) trivial (Nat.le_of_ble_eq_true rfl) ?_) (fun _ _ kq hb => kq hb)
  refine J_iload_n 1 rfl 0 0 rfl (D_X12_isLevel_0.at 0 rfl) ?_
  obtain ⟨s11, T⟩ := T
  refine J_i2l 2 rfl s11 (D_X12_isLevel_0.at 1 rfl) ?_
  refine J_lconst (z := 0) 3 rfl rfl (D_X12_isLevel_0.at 2 rfl) ?_
  refine J_ldc2 6 rfl ko_12_425 (D_X12_isLevel_0.at 3 rfl) ?_
  refine J_callS (d' := 1) (K1 := fun z h0 => rok (some .boolean) z → JG w true m_X12_isLevel 2 NT NT 9 [(0, vI a3)] [vI z] h0 _) (sr := fun z => [vI z]) (as := [vL a3, vL 0, vL 9]) (st := []) 9 rfl ok_X12_isIn sm_X12_isIn ml_12_267 rfl (by decide) ⟨Nat.le_refl _, Nat.le_refl _⟩ (Nat.le_of_ble_eq_true rfl) (D_X12_isLevel_0.at 4 rfl) (fun _ => rfl) (CGm_of2 (by decide) (by decide) trivial (Nat.le_of_ble_eq_true rfl) ?_) (fun _ _ kq hb => kq hb)
  refine J_lload_n 1 rfl 0 0 rfl (D_X12_isIn_0.at 0 rfl) ?_
  refine J_lload_n 2 rfl 2 1 rfl (D_X12_isIn_0.at 1 rfl) ?_
  obtain ⟨s12, T⟩ := T
  refine J_lcmp_lt 6 rfl 17 s12 ⟨by decide, by decide⟩ (D_X12_isIn_0.at 2 rfl) (D_X12_isIn_0.at 3 rfl) (by decide) (fun c19 => ?_) (fun c19 => ?_)
  · replace T := T.1 c19
    refine J_iconst 18 rfl (D_X12_isIn_0.at 10 rfl) ?_
    refine J_zret rfl (Or.inl rfl) (D_X12_isIn_0.at 11 rfl) (fun _ => ?_)
    refine J_zret rfl (Or.inl rfl) (D_X12_isLevel_0.at 5 rfl) (fun _ => ?_)
    refine J_if_ne 23 rfl 25 ⟨by decide, by decide⟩ (D_X12_carries_0.at 10 rfl) (by decide) (fun c => absurd c (by decide)) (fun _ => ?_)
    refine J_iconst 24 rfl (D_X12_carries_0.at 11 rfl) ?_
    exact J_iret rfl (D_X12_carries_0.at 12 rfl) T
  replace T := T.2 c19
  refine J_lload_n 7 rfl 0 0 rfl (D_X12_isIn_0.at 4 rfl) ?_
  refine J_lload 9 rfl 4 2 rfl (D_X12_isIn_0.at 5 rfl) ?_
  obtain ⟨s13, T⟩ := T
  refine J_lcmp_gt 13 rfl 17 s13 ⟨by decide, by decide⟩ (D_X12_isIn_0.at 6 rfl) (D_X12_isIn_0.at 7 rfl) (by decide) (fun c18 => ?_) (fun c18 => ?_)
  · replace T := T.1 c18
    refine J_iconst 18 rfl (D_X12_isIn_0.at 10 rfl) ?_
    refine J_zret rfl (Or.inl rfl) (D_X12_isIn_0.at 11 rfl) (fun _ => ?_)
    refine J_zret rfl (Or.inl rfl) (D_X12_isLevel_0.at 5 rfl) (fun _ => ?_)
    refine J_if_ne 23 rfl 25 ⟨by decide, by decide⟩ (D_X12_carries_0.at 10 rfl) (by decide) (fun c => absurd c (by decide)) (fun _ => ?_)
    refine J_iconst 24 rfl (D_X12_carries_0.at 11 rfl) ?_
    exact J_iret rfl (D_X12_carries_0.at 12 rfl) T
  replace T := T.2 c18
  refine J_iconst 14 rfl (D_X12_isIn_0.at 8 rfl) ?_
  refine J_goto 18 (D_X12_isIn_0.at 9 rfl) (by decide) ?_
  refine J_zret rfl (Or.inr rfl) (D_X12_isIn_0.at 11 rfl) (fun _ => ?_)
  refine J_zret rfl (Or.inr rfl) (D_X12_isLevel_0.at 5 rfl) (fun _ => ?_)
  refine J_if_ne 23 rfl 25 ⟨by decide, by decide⟩ (D_X12_carries_0.at 10 rfl) (by decide) (fun _ => ?_) (fun c => absurd (by decide) c)
  refine J_aload_n 26 rfl 0 0 rfl ⟨by decide, by decide⟩ (D_X12_carries_0.at 13 rfl) ?_
  refine J_iload_n 27 rfl 3 3 rfl (D_X12_carries_0.at 14 rfl) ?_
  refine J_callV (d' := 6) (sr := fun z => []) (as := [vI a3]) (st := []) (o := 68) 30 rfl ok_X12_wouldBe im_X12_wouldBe se_X12_wouldBe ml_12_459 isC_12 ob_68 (Ob.lt ob_68) rfl (by decide) ⟨Nat.le_refl _, Nat.le_refl _⟩ (Nat.le_of_ble_eq_true rfl) (D_X12_carries_0.at 15 rfl) (fun _ => rfl) T (fun r14 h15 T b16 => ?_)
  refine J_aload_n 31 rfl 0 0 rfl ⟨by decide, by decide⟩ (D_X12_carries_0.at 16 rfl) ?_
  refine J_getF (ov := 109) (dd := 1041) 34 rfl fl_12_136 rfl (by decide) rfl ob_68 (Ob.lt ob_68) (D_X12_carries_0.at 17 rfl) ?_
  refine J_bipush 36 rfl ⟨by decide, by decide⟩ (D_X12_carries_0.at 18 rfl) ?_
  refine J_iload_n 37 rfl 1 1 rfl (D_X12_carries_0.at 19 rfl) ?_
  refine J_imul 38 rfl (D_X12_carries_0.at 20 rfl) ?_
  refine J_iload_n 39 rfl 2 2 rfl (D_X12_carries_0.at 21 rfl) ?_
  refine J_iadd 40 rfl (D_X12_carries_0.at 22 rfl) ?_
  obtain ⟨s17, T⟩ := T
  refine J_iald 41 rfl ar_109 (Ar.lt ar_109) s17 (D_X12_carries_0.at 23 rfl) ?_
  exact J_iret rfl (D_X12_carries_0.at 24 rfl) T
theorem c_X12_would {w : Wd} {a1 a2 : Int} {h : Hp} {K : Int → Hp → Prop} (T : (inR (h 68 36)) ∧ ((((h 68 36) = 0) → (K (-1) h)) ∧ (¬ ((h 68 36) = 0) → ((inR a1) ∧ ((inL a1) ∧ (((a1 < 0) → (K (-1) h)) ∧ (¬ (a1 < 0) → ((inL a1) ∧ (((a1 > 9) → (K (-1) h)) ∧ (¬ (a1 > 9) → ((inR a2) ∧ ((inL a2) ∧ (((a2 < 0) → (K (-1) h)) ∧ (¬ (a2 < 0) → ((inL a2) ∧ (((a2 > 3) → (K (-1) h)) ∧ (¬ (a2 > 3) → (C_X12_wouldBe w a1 h (fun _ h9 => (inR a2) ∧ (((a2 ≠ 0) → ((inR a2) ∧ (((a2 ≠ 1) → ((inR a2) ∧ (((a2 ≠ 2) → (C_X12_mostSettled w h9 (fun r14 h15 => K r14 h15))) ∧ (¬ (a2 ≠ 2) → (C_X12_sumOf w 111 h9 (fun r17 h18 => K r17 h18)))))) ∧ (¬ (a2 ≠ 1) → (C_X12_settledAll w h9 (fun r21 h22 => K r21 h22)))))) ∧ (¬ (a2 ≠ 0) → (C_X12_sumOf w 107 h9 (fun r25 h26 => K r25 h26))))))))))))))))))))))) : C_X12_would w a1 a2 h K := by
  refine CGm_of2 (by decide) (by decide) trivial (Nat.le_of_ble_eq_true rfl) ?_
  refine J_aload_n 1 rfl 0 0 rfl ⟨by decide, by decide⟩ (D_X12_would_0.at 0 rfl) ?_
  refine J_getI (z := (h 68 36)) 4 rfl fl_12_356 rfl ob_68 (Ob.lt ob_68) (D_X12_would_0.at 1 rfl) rfl ?_
  obtain ⟨s1, T⟩ := T
  refine J_if_eq 7 rfl 26 s1 (D_X12_would_0.at 2 rfl) (by decide) (fun c33 => ?_) (fun c33 => ?_)
  · replace T := T.1 c33
    refine J_iconst 27 rfl (D_X12_would_0.at 12 rfl) ?_
    exact J_iret rfl (D_X12_would_0.at 13 rfl) T
  replace T := T.2 c33
  refine J_iload_n 8 rfl 1 1 rfl (D_X12_would_0.at 3 rfl) ?_
  refine J_callS (d' := 2) (K1 := fun z h0 => rok (some .boolean) z → JG w true m_X12_would 7 NT NT 11 [(0, vR 68), (1, vI a1), (2, vI a2)] [vI z] h0 _) (sr := fun z => [vI z]) (as := [vI a1]) (st := []) 11 rfl ok_X12_isLevel sm_X12_isLevel ml_12_514 rfl (by decide) ⟨Nat.le_refl _, Nat.le_refl _⟩ (Nat.le_of_ble_eq_true rfl) (D_X12_would_0.at 4 rfl) (fun _ => rfl) (CGm_of2 (by decide) (by decide) trivial (Nat.le_of_ble_eq_true rfl) ?_) (fun _ _ kq hb => kq hb)
  refine J_iload_n 1 rfl 0 0 rfl (D_X12_isLevel_0.at 0 rfl) ?_
  obtain ⟨s2, T⟩ := T
  refine J_i2l 2 rfl s2 (D_X12_isLevel_0.at 1 rfl) ?_
  refine J_lconst (z := 0) 3 rfl rfl (D_X12_isLevel_0.at 2 rfl) ?_
  refine J_ldc2 6 rfl ko_12_425 (D_X12_isLevel_0.at 3 rfl) ?_
  refine J_callS (d' := 1) (K1 := fun z h0 => rok (some .boolean) z → JG w true m_X12_isLevel 2 NT NT 9 [(0, vI a1)] [vI z] h0 _) (sr := fun z => [vI z]) (as := [vL a1, vL 0, vL 9]) (st := []) 9 rfl ok_X12_isIn sm_X12_isIn ml_12_267 rfl (by decide) ⟨Nat.le_refl _, Nat.le_refl _⟩ (Nat.le_of_ble_eq_true rfl) (D_X12_isLevel_0.at 4 rfl) (fun _ => rfl) (CGm_of2 (by decide) (by decide) trivial (Nat.le_of_ble_eq_true rfl) ?_) (fun _ _ kq hb => kq hb)
  refine J_lload_n 1 rfl 0 0 rfl (D_X12_isIn_0.at 0 rfl) ?_
  refine J_lload_n 2 rfl 2 1 rfl (D_X12_isIn_0.at 1 rfl) ?_
  obtain ⟨s3, T⟩ := T
  refine J_lcmp_lt 6 rfl 17 s3 ⟨by decide, by decide⟩ (D_X12_isIn_0.at 2 rfl) (D_X12_isIn_0.at 3 rfl) (by decide) (fun c32 => ?_) (fun c32 => ?_)
  · replace T := T.1 c32
    refine J_iconst 18 rfl (D_X12_isIn_0.at 10 rfl) ?_
    refine J_zret rfl (Or.inl rfl) (D_X12_isIn_0.at 11 rfl) (fun _ => ?_)
    refine J_zret rfl (Or.inl rfl) (D_X12_isLevel_0.at 5 rfl) (fun _ => ?_)
    refine J_if_eq 14 rfl 26 ⟨by decide, by decide⟩ (D_X12_would_0.at 5 rfl) (by decide) (fun _ => ?_) (fun c => absurd (by decide) c)
    refine J_iconst 27 rfl (D_X12_would_0.at 12 rfl) ?_
    exact J_iret rfl (D_X12_would_0.at 13 rfl) T
  replace T := T.2 c32
  refine J_lload_n 7 rfl 0 0 rfl (D_X12_isIn_0.at 4 rfl) ?_
  refine J_lload 9 rfl 4 2 rfl (D_X12_isIn_0.at 5 rfl) ?_
  obtain ⟨s4, T⟩ := T
  refine J_lcmp_gt 13 rfl 17 s4 ⟨by decide, by decide⟩ (D_X12_isIn_0.at 6 rfl) (D_X12_isIn_0.at 7 rfl) (by decide) (fun c31 => ?_) (fun c31 => ?_)
  · replace T := T.1 c31
    refine J_iconst 18 rfl (D_X12_isIn_0.at 10 rfl) ?_
    refine J_zret rfl (Or.inl rfl) (D_X12_isIn_0.at 11 rfl) (fun _ => ?_)
    refine J_zret rfl (Or.inl rfl) (D_X12_isLevel_0.at 5 rfl) (fun _ => ?_)
    refine J_if_eq 14 rfl 26 ⟨by decide, by decide⟩ (D_X12_would_0.at 5 rfl) (by decide) (fun _ => ?_) (fun c => absurd (by decide) c)
    refine J_iconst 27 rfl (D_X12_would_0.at 12 rfl) ?_
    exact J_iret rfl (D_X12_would_0.at 13 rfl) T
  replace T := T.2 c31
  refine J_iconst 14 rfl (D_X12_isIn_0.at 8 rfl) ?_
  refine J_goto 18 (D_X12_isIn_0.at 9 rfl) (by decide) ?_
  refine J_zret rfl (Or.inr rfl) (D_X12_isIn_0.at 11 rfl) (fun _ => ?_)
  refine J_zret rfl (Or.inr rfl) (D_X12_isLevel_0.at 5 rfl) (fun _ => ?_)
  refine J_if_eq 14 rfl 26 ⟨by decide, by decide⟩ (D_X12_would_0.at 5 rfl) (by decide) (fun c => absurd c (by decide)) (fun _ => ?_)
  refine J_iload_n 15 rfl 2 2 rfl (D_X12_would_0.at 6 rfl) ?_
  obtain ⟨s5, T⟩ := T
  refine J_i2l 16 rfl s5 (D_X12_would_0.at 7 rfl) ?_
  refine J_lconst (z := 0) 17 rfl rfl (D_X12_would_0.at 8 rfl) ?_
  refine J_ldc2 20 rfl ko_12_517 (D_X12_would_0.at 9 rfl) ?_
  refine J_callS (d' := 1) (K1 := fun z h0 => rok (some .boolean) z → JG w true m_X12_would 7 NT NT 23 [(0, vR 68), (1, vI a1), (2, vI a2)] [vI z] h0 _) (sr := fun z => [vI z]) (as := [vL a2, vL 0, vL 3]) (st := []) 23 rfl ok_X12_isIn sm_X12_isIn ml_12_267 rfl (by decide) ⟨Nat.le_refl _, Nat.le_refl _⟩ (Nat.le_of_ble_eq_true rfl) (D_X12_would_0.at 10 rfl) (fun _ => rfl) (CGm_of2 (by decide) (by decide) trivial (Nat.le_of_ble_eq_true rfl) ?_) (fun _ _ kq hb => kq hb)
  refine J_lload_n 1 rfl 0 0 rfl (D_X12_isIn_0.at 0 rfl) ?_
  refine J_lload_n 2 rfl 2 1 rfl (D_X12_isIn_0.at 1 rfl) ?_
  obtain ⟨s6, T⟩ := T
  refine J_lcmp_lt 6 rfl 17 s6 ⟨by decide, by decide⟩ (D_X12_isIn_0.at 2 rfl) (D_X12_isIn_0.at 3 rfl) (by decide) (fun c30 => ?_) (fun c30 => ?_)
  · replace T := T.1 c30
    refine J_iconst 18 rfl (D_X12_isIn_0.at 10 rfl) ?_
    refine J_zret rfl (Or.inl rfl) (D_X12_isIn_0.at 11 rfl) (fun _ => ?_)
    refine J_if_ne 26 rfl 28 ⟨by decide, by decide⟩ (D_X12_would_0.at 11 rfl) (by decide) (fun c => absurd c (by decide)) (fun _ => ?_)
    refine J_iconst 27 rfl (D_X12_would_0.at 12 rfl) ?_
    exact J_iret rfl (D_X12_would_0.at 13 rfl) T
  replace T := T.2 c30
  refine J_lload_n 7 rfl 0 0 rfl (D_X12_isIn_0.at 4 rfl) ?_
  refine J_lload 9 rfl 4 2 rfl (D_X12_isIn_0.at 5 rfl) ?_
  obtain ⟨s7, T⟩ := T
  refine J_lcmp_gt 13 rfl 17 s7 ⟨by decide, by decide⟩ (D_X12_isIn_0.at 6 rfl) (D_X12_isIn_0.at 7 rfl) (by decide) (fun c29 => ?_) (fun c29 => ?_)
  · replace T := T.1 c29
    refine J_iconst 18 rfl (D_X12_isIn_0.at 10 rfl) ?_
    refine J_zret rfl (Or.inl rfl) (D_X12_isIn_0.at 11 rfl) (fun _ => ?_)
    refine J_if_ne 26 rfl 28 ⟨by decide, by decide⟩ (D_X12_would_0.at 11 rfl) (by decide) (fun c => absurd c (by decide)) (fun _ => ?_)
    refine J_iconst 27 rfl (D_X12_would_0.at 12 rfl) ?_
    exact J_iret rfl (D_X12_would_0.at 13 rfl) T
  replace T := T.2 c29
  refine J_iconst 14 rfl (D_X12_isIn_0.at 8 rfl) ?_
  refine J_goto 18 (D_X12_isIn_0.at 9 rfl) (by decide) ?_
  refine J_zret rfl (Or.inr rfl) (D_X12_isIn_0.at 11 rfl) (fun _ => ?_)
  refine J_if_ne 26 rfl 28 ⟨by decide, by decide⟩ (D_X12_would_0.at 11 rfl) (by decide) (fun _ => ?_) (fun c => absurd (by decide) c)
  refine J_aload_n 29 rfl 0 0 rfl ⟨by decide, by decide⟩ (D_X12_would_0.at 14 rfl) ?_
  refine J_iload_n 30 rfl 1 1 rfl (D_X12_would_0.at 15 rfl) ?_
  refine J_callV (d' := 6) (sr := fun z => []) (as := [vI a1]) (st := []) (o := 68) 33 rfl ok_X12_wouldBe im_X12_wouldBe se_X12_wouldBe ml_12_459 isC_12 ob_68 (Ob.lt ob_68) rfl (by decide) ⟨Nat.le_refl _, Nat.le_refl _⟩ (Nat.le_of_ble_eq_true rfl) (D_X12_would_0.at 16 rfl) (fun _ => rfl) T (fun r8 h9 T b10 => ?_)
  refine J_iload_n 34 rfl 2 2 rfl (D_X12_would_0.at 17 rfl) ?_
  obtain ⟨s11, T⟩ := T
  refine J_if_ne 37 rfl 47 s11 (D_X12_would_0.at 18 rfl) (by decide) (fun c28 => ?_) (fun c28 => ?_)
  · replace T := T.1 c28
    refine J_iload_n 48 rfl 2 2 rfl (D_X12_would_0.at 23 rfl) ?_
    refine J_iconst 49 rfl (D_X12_would_0.at 24 rfl) ?_
    obtain ⟨s12, T⟩ := T
    refine J_icmp_ne 52 rfl 59 s12 ⟨by decide, by decide⟩ (D_X12_would_0.at 25 rfl) (by decide) (fun c24 => ?_) (fun c24 => ?_)
    · replace T := T.1 c24
      refine J_iload_n 60 rfl 2 2 rfl (D_X12_would_0.at 29 rfl) ?_
      refine J_iconst 61 rfl (D_X12_would_0.at 30 rfl) ?_
      obtain ⟨s13, T⟩ := T
      refine J_icmp_ne 64 rfl 74 s13 ⟨by decide, by decide⟩ (D_X12_would_0.at 31 rfl) (by decide) (fun c20 => ?_) (fun c20 => ?_)
      · replace T := T.1 c20
        refine J_aload_n 75 rfl 0 0 rfl ⟨by decide, by decide⟩ (D_X12_would_0.at 36 rfl) ?_
        refine J_callV (d' := 3) (sr := fun z => [vI z]) (as := []) (st := []) (o := 68) 78 rfl ok_X12_mostSettled im_X12_mostSettled se_X12_mostSettled ml_12_523 isC_12 ob_68 (Ob.lt ob_68) rfl (by decide) ⟨Nat.le_refl _, Nat.le_refl _⟩ (Nat.le_of_ble_eq_true rfl) (D_X12_would_0.at 37 rfl) (fun _ => rfl) T (fun r14 h15 T b16 => ?_)
        exact J_iret rfl (D_X12_would_0.at 38 rfl) T
      replace T := T.2 c20
      refine J_aload_n 65 rfl 0 0 rfl ⟨by decide, by decide⟩ (D_X12_would_0.at 32 rfl) ?_
      refine J_getF (ov := 111) (dd := 1043) 68 rfl fl_12_142 rfl (by decide) rfl ob_68 (Ob.lt ob_68) (D_X12_would_0.at 33 rfl) ?_
      refine J_callS (d' := 1) (sr := fun z => [vI z]) (as := [vR 111]) (st := []) 71 rfl ok_X12_sumOf sm_X12_sumOf ml_12_519 rfl (by decide) ⟨Nat.le_refl _, Nat.le_refl _⟩ (Nat.le_of_ble_eq_true rfl) (D_X12_would_0.at 34 rfl) (fun _ => rfl) T (fun r17 h18 T b19 => ?_)
      refine J_goto 78 (D_X12_would_0.at 35 rfl) (by decide) ?_
      exact J_iret rfl (D_X12_would_0.at 38 rfl) T
    replace T := T.2 c24
    refine J_aload_n 53 rfl 0 0 rfl ⟨by decide, by decide⟩ (D_X12_would_0.at 26 rfl) ?_
    refine J_callV (d' := 3) (sr := fun z => [vI z]) (as := []) (st := []) (o := 68) 56 rfl ok_X12_settledAll im_X12_settledAll se_X12_settledAll ml_12_465 isC_12 ob_68 (Ob.lt ob_68) rfl (by decide) ⟨Nat.le_refl _, Nat.le_refl _⟩ (Nat.le_of_ble_eq_true rfl) (D_X12_would_0.at 27 rfl) (fun _ => rfl) T (fun r21 h22 T b23 => ?_)
    refine J_goto 78 (D_X12_would_0.at 28 rfl) (by decide) ?_
    exact J_iret rfl (D_X12_would_0.at 38 rfl) T
  replace T := T.2 c28
  refine J_aload_n 38 rfl 0 0 rfl ⟨by decide, by decide⟩ (D_X12_would_0.at 19 rfl) ?_
  refine J_getF (ov := 107) (dd := 1039) 41 rfl fl_12_130 rfl (by decide) rfl ob_68 (Ob.lt ob_68) (D_X12_would_0.at 20 rfl) ?_
  refine J_callS (d' := 1) (sr := fun z => [vI z]) (as := [vR 107]) (st := []) 44 rfl ok_X12_sumOf sm_X12_sumOf ml_12_519 rfl (by decide) ⟨Nat.le_refl _, Nat.le_refl _⟩ (Nat.le_of_ble_eq_true rfl) (D_X12_would_0.at 21 rfl) (fun _ => rfl) T (fun r25 h26 T b27 => ?_)
  refine J_goto 78 (D_X12_would_0.at 22 rfl) (by decide) ?_
  exact J_iret rfl (D_X12_would_0.at 38 rfl) T
theorem c_X12_yearGoes {w : Wd} {a1 : Int} {h : Hp} {K : Int → Hp → Prop} (T : C_X12_wouldBe w a1 h (fun _ h2 => L_X12_yearGoes_7 w 0 h2 K)) : C_X12_yearGoes w a1 h K := by
  refine CGm_of2 (by decide) (by decide) trivial (Nat.le_of_ble_eq_true rfl) ?_
  refine J_aload_n 1 rfl 0 0 rfl ⟨by decide, by decide⟩ (D_X12_yearGoes_0.at 0 rfl) ?_
  refine J_iload_n 2 rfl 1 1 rfl (D_X12_yearGoes_0.at 1 rfl) ?_
  refine J_callV (d' := 6) (sr := fun z => []) (as := [vI a1]) (st := []) (o := 68) 5 rfl ok_X12_wouldBe im_X12_wouldBe se_X12_wouldBe ml_12_459 isC_12 ob_68 (Ob.lt ob_68) rfl (by decide) ⟨Nat.le_refl _, Nat.le_refl _⟩ (Nat.le_of_ble_eq_true rfl) (D_X12_yearGoes_0.at 2 rfl) (fun _ => rfl) T (fun r1 h2 T b3 => ?_)
  refine J_iconst 6 rfl (D_X12_yearGoes_0.at 3 rfl) ?_
  refine J_istore_n (lv' := [(2, vI 0), (0, vR 68), (1, vI a1)]) 7 rfl 2 (by decide) rfl (D_X12_yearGoes_0.at 4 rfl) ?_
  exact J_sub (lv' := [(0, vR 68), (2, vI 0)]) [1, 0] rfl T
theorem l_X12_yearGoes_7 {w : Wd} {v2 : Int} {h : Hp} {K : Int → Hp → Prop} (T : (inR v2) ∧ (((v2 ≥ 10) → (L_X12_yearGoes_54 w 0 h K)) ∧ (¬ (v2 ≥ 10) → ((0 ≤ v2 ∧ v2 < 10) ∧ ((0 ≤ (9 + v2) ∧ (9 + v2) < 109) ∧ (∀ h7 : Hp, h7 = hu h 104 (9 + v2) (h 106 v2) → (0 ≤ (19 + v2) ∧ (19 + v2) < 109) ∧ ((0 ≤ v2 ∧ v2 < 10) ∧ ((0 ≤ (19 + v2) ∧ (19 + v2) < 109) ∧ (∀ h12 : Hp, h12 = hu h7 104 (19 + v2) ((h7 104 (19 + v2)) + (h7 111 v2)) → L_X12_yearGoes_7 w (v2 + 1) h12 K))))))))) : L_X12_yearGoes_7 w v2 h K := by
  unfold L_X12_yearGoes_7
  refine J_iload_n 8 rfl 2 1 rfl (D_X12_yearGoes_0.at 5 rfl) ?_
  refine J_bipush 10 rfl ⟨by decide, by decide⟩ (D_X12_yearGoes_0.at 6 rfl) ?_
  obtain ⟨s4, T⟩ := T
  refine J_icmp_ge 13 rfl 52 s4 ⟨by decide, by decide⟩ (D_X12_yearGoes_0.at 7 rfl) (by decide) (fun c14 => ?_) (fun c14 => ?_)
  · replace T := T.1 c14
    refine J_iconst 53 rfl (D_X12_yearGoes_0.at 33 rfl) ?_
    refine J_istore_n (lv' := [(2, vI 0), (0, vR 68)]) 54 rfl 2 (by decide) rfl (D_X12_yearGoes_0.at 34 rfl) ?_
    exact J_sub (lv' := [(0, vR 68), (2, vI 0)]) [1, 0] rfl T
  replace T := T.2 c14
  refine J_aload_n 14 rfl 0 0 rfl ⟨by decide, by decide⟩ (D_X12_yearGoes_0.at 8 rfl) ?_
  refine J_getF (ov := 104) (dd := 1036) 17 rfl fl_12_121 rfl (by decide) rfl ob_68 (Ob.lt ob_68) (D_X12_yearGoes_0.at 9 rfl) ?_
  refine J_bipush 19 rfl ⟨by decide, by decide⟩ (D_X12_yearGoes_0.at 10 rfl) ?_
  refine J_iload_n 20 rfl 2 1 rfl (D_X12_yearGoes_0.at 11 rfl) ?_
  refine J_iadd 21 rfl (D_X12_yearGoes_0.at 12 rfl) ?_
  refine J_aload_n 22 rfl 0 0 rfl ⟨by decide, by decide⟩ (D_X12_yearGoes_0.at 13 rfl) ?_
  refine J_getF (ov := 106) (dd := 1038) 25 rfl fl_12_127 rfl (by decide) rfl ob_68 (Ob.lt ob_68) (D_X12_yearGoes_0.at 14 rfl) ?_
  refine J_iload_n 26 rfl 2 1 rfl (D_X12_yearGoes_0.at 15 rfl) ?_
  obtain ⟨s5, T⟩ := T
  refine J_iald 27 rfl ar_106 (Ar.lt ar_106) s5 (D_X12_yearGoes_0.at 16 rfl) ?_
  obtain ⟨s6, T⟩ := T
  refine J_iastH 28 rfl ar_104 (Ar.lt ar_104) s6 trivial (D_X12_yearGoes_0.at 17 rfl) (fun h7 e8 => ?_)
  replace T := T h7 e8
  refine J_aload_n 29 rfl 0 0 rfl ⟨by decide, by decide⟩ (D_X12_yearGoes_0.at 18 rfl) ?_
  refine J_getF (ov := 104) (dd := 1036) 32 rfl fl_12_121 rfl (by decide) rfl ob_68 (Ob.lt ob_68) (D_X12_yearGoes_0.at 19 rfl) ?_
  refine J_bipush 34 rfl ⟨by decide, by decide⟩ (D_X12_yearGoes_0.at 20 rfl) ?_
  refine J_iload_n 35 rfl 2 1 rfl (D_X12_yearGoes_0.at 21 rfl) ?_
  refine J_iadd 36 rfl (D_X12_yearGoes_0.at 22 rfl) ?_
  refine J_dup2 37 rfl rfl rfl (D_X12_yearGoes_0.at 23 rfl) ?_
  obtain ⟨s9, T⟩ := T
  refine J_iald 38 rfl ar_104 (Ar.lt ar_104) s9 (D_X12_yearGoes_0.at 24 rfl) ?_
  refine J_aload_n 39 rfl 0 0 rfl ⟨by decide, by decide⟩ (D_X12_yearGoes_0.at 25 rfl) ?_
  refine J_getF (ov := 111) (dd := 1043) 42 rfl fl_12_142 rfl (by decide) rfl ob_68 (Ob.lt ob_68) (D_X12_yearGoes_0.at 26 rfl) ?_
  refine J_iload_n 43 rfl 2 1 rfl (D_X12_yearGoes_0.at 27 rfl) ?_
  obtain ⟨s10, T⟩ := T
  refine J_iald 44 rfl ar_111 (Ar.lt ar_111) s10 (D_X12_yearGoes_0.at 28 rfl) ?_
  refine J_iadd 45 rfl (D_X12_yearGoes_0.at 29 rfl) ?_
  obtain ⟨s11, T⟩ := T
  refine J_iastH 46 rfl ar_104 (Ar.lt ar_104) s11 trivial (D_X12_yearGoes_0.at 30 rfl) (fun h12 e13 => ?_)
  replace T := T h12 e13
  refine J_iinc (v := (v2 + 1)) (lv' := [(2, vI (v2 + 1)), (0, vR 68)]) 49 rfl 2 1 1 rfl rfl (by decide) rfl (D_X12_yearGoes_0.at 31 rfl) ?_
  refine J_goto 7 (D_X12_yearGoes_0.at 32 rfl) (by decide) ?_
  exact J_sub (lv' := [(0, vR 68), (2, vI (v2 + 1))]) [1, 0] rfl T
theorem l_X12_yearGoes_54 {w : Wd} {v2 : Int} {h : Hp} {K : Int → Hp → Prop} (T : (inR v2) ∧ (((v2 ≥ 80) → (∀ h16 : Hp, h16 = hu h 104 0 ((h 104 0) + 1) → C_X12_settledAll w h16 (fun r18 h19 => K r18 h19))) ∧ (¬ (v2 ≥ 80) → ((0 ≤ (29 + v2) ∧ (29 + v2) < 109) ∧ ((0 ≤ v2 ∧ v2 < 80) ∧ ((0 ≤ (((h 104 (29 + v2)) + (h 110 v2)) * (h 97 5)) ∧ (((h 104 (29 + v2)) + (h 110 v2)) * (h 97 5)) < 2147483648) ∧ ((0 ≤ (29 + v2) ∧ (29 + v2) < 109) ∧ (∀ h25 : Hp, h25 = hu h 104 (29 + v2) (((h 104 (29 + v2)) + (h 110 v2)) - ((((h 104 (29 + v2)) + (h 110 v2)) * (h 97 5)) / 100)) → (0 ≤ v2 ∧ v2 < 2147483648) ∧ ((0 ≤ (19 + (v2 % 10)) ∧ (19 + (v2 % 10)) < 109) ∧ ((0 ≤ (19 + (v2 % 10)) ∧ (19 + (v2 % 10)) < 109) ∧ (∀ h30 : Hp, h30 = hu h25 104 (19 + (v2 % 10)) ((h25 104 (19 + (v2 % 10))) + ((((h 104 (29 + v2)) + (h 110 v2)) * (h 97 5)) / 100)) → L_X12_yearGoes_54 w (v2 + 1) h30 K))))))))))) : L_X12_yearGoes_54 w v2 h K := by
  unfold L_X12_yearGoes_54
  refine J_iload_n 55 rfl 2 1 rfl (D_X12_yearGoes_0.at 35 rfl) ?_
  refine J_bipush 57 rfl ⟨by decide, by decide⟩ (D_X12_yearGoes_0.at 36 rfl) ?_
  obtain ⟨s15, T⟩ := T
  refine J_icmp_ge 60 rfl 125 s15 ⟨by decide, by decide⟩ (D_X12_yearGoes_0.at 37 rfl) (by decide) (fun c32 => ?_) (fun c32 => ?_)
  · replace T := T.1 c32
    refine J_aload_n 126 rfl 0 0 rfl ⟨by decide, by decide⟩ (D_X12_yearGoes_1.at 33 rfl) ?_
    refine J_getF (ov := 104) (dd := 1036) 129 rfl fl_12_121 rfl (by decide) rfl ob_68 (Ob.lt ob_68) (D_X12_yearGoes_1.at 34 rfl) ?_
    refine J_iconst 130 rfl (D_X12_yearGoes_1.at 35 rfl) ?_
    refine J_dup2 131 rfl rfl rfl (D_X12_yearGoes_1.at 36 rfl) ?_
    refine J_iald 132 rfl ar_104 (Ar.lt ar_104) ⟨by decide, by decide⟩ (D_X12_yearGoes_1.at 37 rfl) ?_
    refine J_iconst 133 rfl (D_X12_yearGoes_1.at 38 rfl) ?_
    refine J_iadd 134 rfl (D_X12_yearGoes_1.at 39 rfl) ?_
    refine J_iastH 135 rfl ar_104 (Ar.lt ar_104) ⟨by decide, by decide⟩ trivial (D_X12_yearGoes_1.at 40 rfl) (fun h16 e17 => ?_)
    replace T := T h16 e17
    refine J_aload_n 136 rfl 0 0 rfl ⟨by decide, by decide⟩ (D_X12_yearGoes_1.at 41 rfl) ?_
    refine J_callV (d' := 3) (sr := fun z => [vI z]) (as := []) (st := []) (o := 68) 139 rfl ok_X12_settledAll im_X12_settledAll se_X12_settledAll ml_12_465 isC_12 ob_68 (Ob.lt ob_68) rfl (by decide) ⟨Nat.le_refl _, Nat.le_refl _⟩ (Nat.le_of_ble_eq_true rfl) (D_X12_yearGoes_1.at 42 rfl) (fun _ => rfl) T (fun r18 h19 T b20 => ?_)
    exact J_iret rfl (D_X12_yearGoes_1.at 43 rfl) T
  replace T := T.2 c32
  refine J_aload_n 61 rfl 0 0 rfl ⟨by decide, by decide⟩ (D_X12_yearGoes_0.at 38 rfl) ?_
  refine J_getF (ov := 104) (dd := 1036) 64 rfl fl_12_121 rfl (by decide) rfl ob_68 (Ob.lt ob_68) (D_X12_yearGoes_0.at 39 rfl) ?_
  refine J_bipush 66 rfl ⟨by decide, by decide⟩ (D_X12_yearGoes_0.at 40 rfl) ?_
  refine J_iload_n 67 rfl 2 1 rfl (D_X12_yearGoes_0.at 41 rfl) ?_
  refine J_iadd 68 rfl (D_X12_yearGoes_0.at 42 rfl) ?_
  obtain ⟨s21, T⟩ := T
  refine J_iald 69 rfl ar_104 (Ar.lt ar_104) s21 (D_X12_yearGoes_0.at 43 rfl) ?_
  refine J_aload_n 70 rfl 0 0 rfl ⟨by decide, by decide⟩ (D_X12_yearGoes_0.at 44 rfl) ?_
  refine J_getF (ov := 110) (dd := 1042) 73 rfl fl_12_139 rfl (by decide) rfl ob_68 (Ob.lt ob_68) (D_X12_yearGoes_0.at 45 rfl) ?_
  refine J_iload_n 74 rfl 2 1 rfl (D_X12_yearGoes_0.at 46 rfl) ?_
  obtain ⟨s22, T⟩ := T
  refine J_iald 75 rfl ar_110 (Ar.lt ar_110) s22 (D_X12_yearGoes_0.at 47 rfl) ?_
  refine J_iadd 76 rfl (D_X12_yearGoes_1.at 0 rfl) ?_
  refine J_istore_n (lv' := [(3, vI ((h 104 (29 + v2)) + (h 110 v2))), (0, vR 68), (2, vI v2)]) 77 rfl 3 (by decide) rfl (D_X12_yearGoes_1.at 1 rfl) ?_
  refine J_iload_n 78 rfl 3 0 rfl (D_X12_yearGoes_1.at 2 rfl) ?_
  refine J_aload_n 79 rfl 0 1 rfl ⟨by decide, by decide⟩ (D_X12_yearGoes_1.at 3 rfl) ?_
  refine J_iconst 80 rfl (D_X12_yearGoes_1.at 4 rfl) ?_
  refine J_callV (d' := 1) (K1 := fun z h0 => rok (some .int) z → JG w true m_X12_yearGoes 7 NT NT 83 [(3, vI ((h 104 (29 + v2)) + (h 110 v2))), (0, vR 68), (2, vI v2)] [vI z, vI ((h 104 (29 + v2)) + (h 110 v2))] h0 _) (sr := fun z => [vI z, vI ((h 104 (29 + v2)) + (h 110 v2))]) (as := [vI 2]) (st := [vI ((h 104 (29 + v2)) + (h 110 v2))]) (o := 68) 83 rfl ok_X12_settingOf im_X12_settingOf se_X12_settingOf ml_12_462 isC_12 ob_68 (Ob.lt ob_68) rfl (by decide) ⟨Nat.le_refl _, Nat.le_refl _⟩ (Nat.le_of_ble_eq_true rfl) (D_X12_yearGoes_1.at 5 rfl) (fun _ => rfl) (CGm_of2 (by decide) (by decide) trivial (Nat.le_of_ble_eq_true rfl) ?_) (fun _ _ kq hb => kq hb)
  refine J_aload_n 1 rfl 0 0 rfl ⟨by decide, by decide⟩ (D_X12_settingOf_0.at 0 rfl) ?_
  refine J_getF (ov := 97) (dd := 1029) 4 rfl fl_12_100 rfl (by decide) rfl ob_68 (Ob.lt ob_68) (D_X12_settingOf_0.at 1 rfl) ?_
  refine J_iconst 5 rfl (D_X12_settingOf_0.at 2 rfl) ?_
  refine J_iload_n 6 rfl 1 1 rfl (D_X12_settingOf_0.at 3 rfl) ?_
  refine J_iadd 7 rfl (D_X12_settingOf_0.at 4 rfl) ?_
  refine J_iald 8 rfl ar_97 (Ar.lt ar_97) ⟨by decide, by decide⟩ (D_X12_settingOf_0.at 5 rfl) ?_
  refine J_iret rfl (D_X12_settingOf_0.at 6 rfl) (fun _ => ?_)
  refine J_imul 84 rfl (D_X12_yearGoes_1.at 6 rfl) ?_
  refine J_bipush 86 rfl ⟨by decide, by decide⟩ (D_X12_yearGoes_1.at 7 rfl) ?_
  obtain ⟨s23, T⟩ := T
  refine J_idiv 87 rfl s23 ⟨by decide, by decide⟩ (D_X12_yearGoes_1.at 8 rfl) ?_
  refine J_istore (lv' := [(4, vI ((((h 104 (29 + v2)) + (h 110 v2)) * (h 97 5)) / 100)), (3, vI ((h 104 (29 + v2)) + (h 110 v2))), (0, vR 68), (2, vI v2)]) 89 rfl 4 (by decide) rfl (D_X12_yearGoes_1.at 9 rfl) ?_
  refine J_aload_n 90 rfl 0 2 rfl ⟨by decide, by decide⟩ (D_X12_yearGoes_1.at 10 rfl) ?_
  refine J_getF (ov := 104) (dd := 1036) 93 rfl fl_12_121 rfl (by decide) rfl ob_68 (Ob.lt ob_68) (D_X12_yearGoes_1.at 11 rfl) ?_
  refine J_bipush 95 rfl ⟨by decide, by decide⟩ (D_X12_yearGoes_1.at 12 rfl) ?_
  refine J_iload_n 96 rfl 2 3 rfl (D_X12_yearGoes_1.at 13 rfl) ?_
  refine J_iadd 97 rfl (D_X12_yearGoes_1.at 14 rfl) ?_
  refine J_iload_n 98 rfl 3 1 rfl (D_X12_yearGoes_1.at 15 rfl) ?_
  refine J_iload 100 rfl 4 0 rfl (D_X12_yearGoes_1.at 16 rfl) ?_
  refine J_isub 101 rfl (D_X12_yearGoes_1.at 17 rfl) ?_
  obtain ⟨s24, T⟩ := T
  refine J_iastH 102 rfl ar_104 (Ar.lt ar_104) s24 trivial (D_X12_yearGoes_1.at 18 rfl) (fun h25 e26 => ?_)
  replace T := T h25 e26
  refine J_aload_n 103 rfl 0 2 rfl ⟨by decide, by decide⟩ (D_X12_yearGoes_1.at 19 rfl) ?_
  refine J_getF (ov := 104) (dd := 1036) 106 rfl fl_12_121 rfl (by decide) rfl ob_68 (Ob.lt ob_68) (D_X12_yearGoes_1.at 20 rfl) ?_
  refine J_bipush 108 rfl ⟨by decide, by decide⟩ (D_X12_yearGoes_1.at 21 rfl) ?_
  refine J_iload_n 109 rfl 2 3 rfl (D_X12_yearGoes_1.at 22 rfl) ?_
  refine J_bipush 111 rfl ⟨by decide, by decide⟩ (D_X12_yearGoes_1.at 23 rfl) ?_
  obtain ⟨s27, T⟩ := T
  refine J_irem 112 rfl s27 ⟨by decide, by decide⟩ (D_X12_yearGoes_1.at 24 rfl) ?_
  refine J_iadd 113 rfl (D_X12_yearGoes_1.at 25 rfl) ?_
  refine J_dup2 114 rfl rfl rfl (D_X12_yearGoes_1.at 26 rfl) ?_
  obtain ⟨s28, T⟩ := T
  refine J_iald 115 rfl ar_104 (Ar.lt ar_104) s28 (D_X12_yearGoes_1.at 27 rfl) ?_
  refine J_iload 117 rfl 4 0 rfl (D_X12_yearGoes_1.at 28 rfl) ?_
  refine J_iadd 118 rfl (D_X12_yearGoes_1.at 29 rfl) ?_
  obtain ⟨s29, T⟩ := T
  refine J_iastH 119 rfl ar_104 (Ar.lt ar_104) s29 trivial (D_X12_yearGoes_1.at 30 rfl) (fun h30 e31 => ?_)
  replace T := T h30 e31
  refine J_iinc (v := (v2 + 1)) (lv' := [(2, vI (v2 + 1)), (4, vI ((((h 104 (29 + v2)) + (h 110 v2)) * (h 97 5)) / 100)), (3, vI ((h 104 (29 + v2)) + (h 110 v2))), (0, vR 68)]) 122 rfl 2 3 1 rfl rfl (by decide) rfl (D_X12_yearGoes_1.at 31 rfl) ?_
  refine J_goto 54 (D_X12_yearGoes_1.at 32 rfl) (by decide) ?_
  exact J_sub (lv' := [(0, vR 68), (2, vI (v2 + 1))]) [3, 0] rfl T
theorem c_X12_mine {w : Wd} {a1 a2 a3 a4 a5 : Int} {h : Hp} {K : Int → Hp → Prop} (T : (inR a1) ∧ ((inR ((h 93 3) - 1)) ∧ ((inL a1) ∧ (((a1 < 0) → (K (-1) h)) ∧ (¬ (a1 < 0) → ((inL a1) ∧ ((inL ((h 93 3) - 1)) ∧ (((a1 > ((h 93 3) - 1)) → (K (-1) h)) ∧ (¬ (a1 > ((h 93 3) - 1)) → ((inR a2) ∧ ((inR ((h 68 36) - 1)) ∧ ((inL a2) ∧ (((a2 < 0) → (K (-1) h)) ∧ (¬ (a2 < 0) → ((inL a2) ∧ ((inL ((h 68 36) - 1)) ∧ (((a2 > ((h 68 36) - 1)) → (K (-1) h)) ∧ (¬ (a2 > ((h 68 36) - 1)) → ((inR a3) ∧ ((inL a3) ∧ (((a3 < 0) → (K (-1) h)) ∧ (¬ (a3 < 0) → ((inL a3) ∧ (((a3 > 9) → (K (-1) h)) ∧ (¬ (a3 > 9) → ((inR a4) ∧ ((inL a4) ∧ (((a4 < 0) → (K (-1) h)) ∧ (¬ (a4 < 0) → ((inL a4) ∧ (((a4 > 1000) → (K (-1) h)) ∧ (¬ (a4 > 1000) → ((inR a5) ∧ (((a5 = (-1)) → (C_X12_seeksStones w a1 a2 (-1) a3 a4 h (fun _ h19 => C_X12_stonesTold w a5 h19 (fun r21 h22 => K r21 h22)))) ∧ (¬ (a5 = (-1)) → ((inR a5) ∧ ((inR ((h 68 36) - 1)) ∧ ((inL a5) ∧ (((a5 < 0) → (K (-1) h)) ∧ (¬ (a5 < 0) → ((inL a5) ∧ ((inL ((h 68 36) - 1)) ∧ (((a5 > ((h 68 36) - 1)) → (K (-1) h)) ∧ (¬ (a5 > ((h 68 36) - 1)) → (C_X12_seeksStones w a1 a2 (-1) a3 a4 h (fun _ h30 => C_X12_stonesTold w a5 h30 (fun r32 h33 => K r32 h33))))))))))))))))))))))))))))))))))))))))))))))) : C_X12_mine w a1 a2 a3 a4 a5 h K := by
  refine CGm_of2 (by decide) (by decide) trivial (Nat.le_of_ble_eq_true rfl) ?_
  refine J_aload_n 1 rfl 0 0 rfl ⟨by decide, by decide⟩ (D_X12_mine_0.at 0 rfl) ?_
  refine J_iload_n 2 rfl 1 1 rfl (D_X12_mine_0.at 1 rfl) ?_
  refine J_callV (d' := 2) (K1 := fun z h0 => rok (some .boolean) z → JG w true m_X12_mine 7 NT NT 5 [(0, vR 68), (1, vI a1), (2, vI a2), (3, vI a3), (4, vI a4), (5, vI a5)] [vI z] h0 _) (sr := fun z => [vI z]) (as := [vI a1]) (st := []) (o := 68) 5 rfl ok_X12_isOwner im_X12_isOwner se_X12_isOwner ml_12_508 isC_12 ob_68 (Ob.lt ob_68) rfl (by decide) ⟨Nat.le_refl _, Nat.le_refl _⟩ (Nat.le_of_ble_eq_true rfl) (D_X12_mine_0.at 2 rfl) (fun _ => rfl) (CGm_of2 (by decide) (by decide) trivial (Nat.le_of_ble_eq_true rfl) ?_) (fun _ _ kq hb => kq hb)
  refine J_iload_n 1 rfl 1 1 rfl (D_X12_isOwner_0.at 0 rfl) ?_
  obtain ⟨s1, T⟩ := T
  refine J_i2l 2 rfl s1 (D_X12_isOwner_0.at 1 rfl) ?_
  refine J_lconst (z := 0) 3 rfl rfl (D_X12_isOwner_0.at 2 rfl) ?_
  refine J_aload_n 4 rfl 0 0 rfl ⟨by decide, by decide⟩ (D_X12_isOwner_0.at 3 rfl) ?_
  refine J_callV (d' := 1) (K1 := fun z h0 => rok (some .int) z → JG w true m_X12_isOwner 2 NT NT 7 [(0, vR 68), (1, vI a1)] [vI z, vL 0, vL a1] h0 _) (sr := fun z => [vI z, vL 0, vL a1]) (as := []) (st := [vL 0, vL a1]) (o := 68) 7 rfl ok_X12_ownerMany im_X12_ownerMany se_X12_ownerMany ml_12_422 isC_12 ob_68 (Ob.lt ob_68) rfl (by decide) ⟨Nat.le_refl _, Nat.le_refl _⟩ (Nat.le_of_ble_eq_true rfl) (D_X12_isOwner_0.at 4 rfl) (fun _ => rfl) (CGm_of2 (by decide) (by decide) trivial (Nat.le_of_ble_eq_true rfl) ?_) (fun _ _ kq hb => kq hb)
  refine J_aload_n 1 rfl 0 0 rfl ⟨by decide, by decide⟩ (D_X12_ownerMany_0.at 0 rfl) ?_
  refine J_getF (ov := 93) (dd := 1025) 4 rfl fl_12_87 rfl (by decide) rfl ob_68 (Ob.lt ob_68) (D_X12_ownerMany_0.at 1 rfl) ?_
  refine J_iconst 5 rfl (D_X12_ownerMany_0.at 2 rfl) ?_
  refine J_iald 6 rfl ar_93 (Ar.lt ar_93) ⟨by decide, by decide⟩ (D_X12_ownerMany_0.at 3 rfl) ?_
  refine J_iret rfl (D_X12_ownerMany_0.at 4 rfl) (fun _ => ?_)
  refine J_iconst 8 rfl (D_X12_isOwner_0.at 5 rfl) ?_
  refine J_isub 9 rfl (D_X12_isOwner_0.at 6 rfl) ?_
  obtain ⟨s2, T⟩ := T
  refine J_i2l 10 rfl s2 (D_X12_isOwner_0.at 7 rfl) ?_
  refine J_callS (d' := 1) (K1 := fun z h0 => rok (some .boolean) z → JG w true m_X12_isOwner 2 NT NT 13 [(0, vR 68), (1, vI a1)] [vI z] h0 _) (sr := fun z => [vI z]) (as := [vL a1, vL 0, vL ((h 93 3) - 1)]) (st := []) 13 rfl ok_X12_isIn sm_X12_isIn ml_12_267 rfl (by decide) ⟨Nat.le_refl _, Nat.le_refl _⟩ (Nat.le_of_ble_eq_true rfl) (D_X12_isOwner_0.at 8 rfl) (fun _ => rfl) (CGm_of2 (by decide) (by decide) trivial (Nat.le_of_ble_eq_true rfl) ?_) (fun _ _ kq hb => kq hb)
  refine J_lload_n 1 rfl 0 0 rfl (D_X12_isIn_0.at 0 rfl) ?_
  refine J_lload_n 2 rfl 2 1 rfl (D_X12_isIn_0.at 1 rfl) ?_
  obtain ⟨s3, T⟩ := T
  refine J_lcmp_lt 6 rfl 17 s3 ⟨by decide, by decide⟩ (D_X12_isIn_0.at 2 rfl) (D_X12_isIn_0.at 3 rfl) (by decide) (fun c45 => ?_) (fun c45 => ?_)
  · replace T := T.1 c45
    refine J_iconst 18 rfl (D_X12_isIn_0.at 10 rfl) ?_
    refine J_zret rfl (Or.inl rfl) (D_X12_isIn_0.at 11 rfl) (fun _ => ?_)
    refine J_zret rfl (Or.inl rfl) (D_X12_isOwner_0.at 9 rfl) (fun _ => ?_)
    refine J_if_eq 8 rfl 51 ⟨by decide, by decide⟩ (D_X12_mine_0.at 3 rfl) (by decide) (fun _ => ?_) (fun c => absurd (by decide) c)
    refine J_iconst 52 rfl (D_X12_mine_0.at 24 rfl) ?_
    exact J_iret rfl (D_X12_mine_0.at 25 rfl) T
  replace T := T.2 c45
  refine J_lload_n 7 rfl 0 0 rfl (D_X12_isIn_0.at 4 rfl) ?_
  refine J_lload 9 rfl 4 2 rfl (D_X12_isIn_0.at 5 rfl) ?_
  obtain ⟨s4, T⟩ := T
  obtain ⟨s5, T⟩ := T
  refine J_lcmp_gt 13 rfl 17 s4 s5 (D_X12_isIn_0.at 6 rfl) (D_X12_isIn_0.at 7 rfl) (by decide) (fun c44 => ?_) (fun c44 => ?_)
  · replace T := T.1 c44
    refine J_iconst 18 rfl (D_X12_isIn_0.at 10 rfl) ?_
    refine J_zret rfl (Or.inl rfl) (D_X12_isIn_0.at 11 rfl) (fun _ => ?_)
    refine J_zret rfl (Or.inl rfl) (D_X12_isOwner_0.at 9 rfl) (fun _ => ?_)
    refine J_if_eq 8 rfl 51 ⟨by decide, by decide⟩ (D_X12_mine_0.at 3 rfl) (by decide) (fun _ => ?_) (fun c => absurd (by decide) c)
    refine J_iconst 52 rfl (D_X12_mine_0.at 24 rfl) ?_
    exact J_iret rfl (D_X12_mine_0.at 25 rfl) T
  replace T := T.2 c44
  refine J_iconst 14 rfl (D_X12_isIn_0.at 8 rfl) ?_
  refine J_goto 18 (D_X12_isIn_0.at 9 rfl) (by decide) ?_
  refine J_zret rfl (Or.inr rfl) (D_X12_isIn_0.at 11 rfl) (fun _ => ?_)
  refine J_zret rfl (Or.inr rfl) (D_X12_isOwner_0.at 9 rfl) (fun _ => ?_)
  refine J_if_eq 8 rfl 51 ⟨by decide, by decide⟩ (D_X12_mine_0.at 3 rfl) (by decide) (fun c => absurd c (by decide)) (fun _ => ?_)
  refine J_aload_n 9 rfl 0 0 rfl ⟨by decide, by decide⟩ (D_X12_mine_0.at 4 rfl) ?_
  refine J_iload_n 10 rfl 2 2 rfl (D_X12_mine_0.at 5 rfl) ?_
  refine J_callV (d' := 2) (K1 := fun z h0 => rok (some .boolean) z → JG w true m_X12_mine 7 NT NT 13 [(0, vR 68), (1, vI a1), (2, vI a2), (3, vI a3), (4, vI a4), (5, vI a5)] [vI z] h0 _) (sr := fun z => [vI z]) (as := [vI a2]) (st := []) (o := 68) 13 rfl ok_X12_isReach im_X12_isReach se_X12_isReach ml_12_499 isC_12 ob_68 (Ob.lt ob_68) rfl (by decide) ⟨Nat.le_refl _, Nat.le_refl _⟩ (Nat.le_of_ble_eq_true rfl) (D_X12_mine_0.at 6 rfl) (fun _ => rfl) (CGm_of2 (by decide) (by decide) trivial (Nat.le_of_ble_eq_true rfl) ?_) (fun _ _ kq hb => kq hb)
  refine J_iload_n 1 rfl 1 1 rfl (D_X12_isReach_0.at 0 rfl) ?_
  obtain ⟨s6, T⟩ := T
  refine J_i2l 2 rfl s6 (D_X12_isReach_0.at 1 rfl) ?_
  refine J_lconst (z := 0) 3 rfl rfl (D_X12_isReach_0.at 2 rfl) ?_
  refine J_aload_n 4 rfl 0 0 rfl ⟨by decide, by decide⟩ (D_X12_isReach_0.at 3 rfl) ?_
  refine J_getI (z := (h 68 36)) 7 rfl fl_12_356 rfl ob_68 (Ob.lt ob_68) (D_X12_isReach_0.at 4 rfl) rfl ?_
  refine J_iconst 8 rfl (D_X12_isReach_0.at 5 rfl) ?_
  refine J_isub 9 rfl (D_X12_isReach_0.at 6 rfl) ?_
  obtain ⟨s7, T⟩ := T
  refine J_i2l 10 rfl s7 (D_X12_isReach_0.at 7 rfl) ?_
  refine J_callS (d' := 1) (K1 := fun z h0 => rok (some .boolean) z → JG w true m_X12_isReach 2 NT NT 13 [(0, vR 68), (1, vI a2)] [vI z] h0 _) (sr := fun z => [vI z]) (as := [vL a2, vL 0, vL ((h 68 36) - 1)]) (st := []) 13 rfl ok_X12_isIn sm_X12_isIn ml_12_267 rfl (by decide) ⟨Nat.le_refl _, Nat.le_refl _⟩ (Nat.le_of_ble_eq_true rfl) (D_X12_isReach_0.at 8 rfl) (fun _ => rfl) (CGm_of2 (by decide) (by decide) trivial (Nat.le_of_ble_eq_true rfl) ?_) (fun _ _ kq hb => kq hb)
  refine J_lload_n 1 rfl 0 0 rfl (D_X12_isIn_0.at 0 rfl) ?_
  refine J_lload_n 2 rfl 2 1 rfl (D_X12_isIn_0.at 1 rfl) ?_
  obtain ⟨s8, T⟩ := T
  refine J_lcmp_lt 6 rfl 17 s8 ⟨by decide, by decide⟩ (D_X12_isIn_0.at 2 rfl) (D_X12_isIn_0.at 3 rfl) (by decide) (fun c43 => ?_) (fun c43 => ?_)
  · replace T := T.1 c43
    refine J_iconst 18 rfl (D_X12_isIn_0.at 10 rfl) ?_
    refine J_zret rfl (Or.inl rfl) (D_X12_isIn_0.at 11 rfl) (fun _ => ?_)
    refine J_zret rfl (Or.inl rfl) (D_X12_isReach_0.at 9 rfl) (fun _ => ?_)
    refine J_if_eq 16 rfl 51 ⟨by decide, by decide⟩ (D_X12_mine_0.at 7 rfl) (by decide) (fun _ => ?_) (fun c => absurd (by decide) c)
    refine J_iconst 52 rfl (D_X12_mine_0.at 24 rfl) ?_
    exact J_iret rfl (D_X12_mine_0.at 25 rfl) T
  replace T := T.2 c43
  refine J_lload_n 7 rfl 0 0 rfl (D_X12_isIn_0.at 4 rfl) ?_
  refine J_lload 9 rfl 4 2 rfl (D_X12_isIn_0.at 5 rfl) ?_
  obtain ⟨s9, T⟩ := T
  obtain ⟨s10, T⟩ := T
  refine J_lcmp_gt 13 rfl 17 s9 s10 (D_X12_isIn_0.at 6 rfl) (D_X12_isIn_0.at 7 rfl) (by decide) (fun c42 => ?_) (fun c42 => ?_)
  · replace T := T.1 c42
    refine J_iconst 18 rfl (D_X12_isIn_0.at 10 rfl) ?_
    refine J_zret rfl (Or.inl rfl) (D_X12_isIn_0.at 11 rfl) (fun _ => ?_)
    refine J_zret rfl (Or.inl rfl) (D_X12_isReach_0.at 9 rfl) (fun _ => ?_)
    refine J_if_eq 16 rfl 51 ⟨by decide, by decide⟩ (D_X12_mine_0.at 7 rfl) (by decide) (fun _ => ?_) (fun c => absurd (by decide) c)
    refine J_iconst 52 rfl (D_X12_mine_0.at 24 rfl) ?_
    exact J_iret rfl (D_X12_mine_0.at 25 rfl) T
  replace T := T.2 c42
  refine J_iconst 14 rfl (D_X12_isIn_0.at 8 rfl) ?_
  refine J_goto 18 (D_X12_isIn_0.at 9 rfl) (by decide) ?_
  refine J_zret rfl (Or.inr rfl) (D_X12_isIn_0.at 11 rfl) (fun _ => ?_)
  refine J_zret rfl (Or.inr rfl) (D_X12_isReach_0.at 9 rfl) (fun _ => ?_)
  refine J_if_eq 16 rfl 51 ⟨by decide, by decide⟩ (D_X12_mine_0.at 7 rfl) (by decide) (fun c => absurd c (by decide)) (fun _ => ?_)
  refine J_iload_n 17 rfl 3 3 rfl (D_X12_mine_0.at 8 rfl) ?_
  refine J_callS (d' := 2) (K1 := fun z h0 => rok (some .boolean) z → JG w true m_X12_mine 7 NT NT 20 [(0, vR 68), (1, vI a1), (2, vI a2), (3, vI a3), (4, vI a4), (5, vI a5)] [vI z] h0 _) (sr := fun z => [vI z]) (as := [vI a3]) (st := []) 20 rfl ok_X12_isLevel sm_X12_isLevel ml_12_514 rfl (by decide) ⟨Nat.le_refl _, Nat.le_refl _⟩ (Nat.le_of_ble_eq_true rfl) (D_X12_mine_0.at 9 rfl) (fun _ => rfl) (CGm_of2 (by decide) (by decide) trivial (Nat.le_of_ble_eq_true rfl) ?_) (fun _ _ kq hb => kq hb)
  refine J_iload_n 1 rfl 0 0 rfl (D_X12_isLevel_0.at 0 rfl) ?_
  obtain ⟨s11, T⟩ := T
  refine J_i2l 2 rfl s11 (D_X12_isLevel_0.at 1 rfl) ?_
  refine J_lconst (z := 0) 3 rfl rfl (D_X12_isLevel_0.at 2 rfl) ?_
  refine J_ldc2 6 rfl ko_12_425 (D_X12_isLevel_0.at 3 rfl) ?_
  refine J_callS (d' := 1) (K1 := fun z h0 => rok (some .boolean) z → JG w true m_X12_isLevel 2 NT NT 9 [(0, vI a3)] [vI z] h0 _) (sr := fun z => [vI z]) (as := [vL a3, vL 0, vL 9]) (st := []) 9 rfl ok_X12_isIn sm_X12_isIn ml_12_267 rfl (by decide) ⟨Nat.le_refl _, Nat.le_refl _⟩ (Nat.le_of_ble_eq_true rfl) (D_X12_isLevel_0.at 4 rfl) (fun _ => rfl) (CGm_of2 (by decide) (by decide) trivial (Nat.le_of_ble_eq_true rfl) ?_) (fun _ _ kq hb => kq hb)
  refine J_lload_n 1 rfl 0 0 rfl (D_X12_isIn_0.at 0 rfl) ?_
  refine J_lload_n 2 rfl 2 1 rfl (D_X12_isIn_0.at 1 rfl) ?_
  obtain ⟨s12, T⟩ := T
  refine J_lcmp_lt 6 rfl 17 s12 ⟨by decide, by decide⟩ (D_X12_isIn_0.at 2 rfl) (D_X12_isIn_0.at 3 rfl) (by decide) (fun c41 => ?_) (fun c41 => ?_)
  · replace T := T.1 c41
    refine J_iconst 18 rfl (D_X12_isIn_0.at 10 rfl) ?_
    refine J_zret rfl (Or.inl rfl) (D_X12_isIn_0.at 11 rfl) (fun _ => ?_)
    refine J_zret rfl (Or.inl rfl) (D_X12_isLevel_0.at 5 rfl) (fun _ => ?_)
    refine J_if_eq 23 rfl 51 ⟨by decide, by decide⟩ (D_X12_mine_0.at 10 rfl) (by decide) (fun _ => ?_) (fun c => absurd (by decide) c)
    refine J_iconst 52 rfl (D_X12_mine_0.at 24 rfl) ?_
    exact J_iret rfl (D_X12_mine_0.at 25 rfl) T
  replace T := T.2 c41
  refine J_lload_n 7 rfl 0 0 rfl (D_X12_isIn_0.at 4 rfl) ?_
  refine J_lload 9 rfl 4 2 rfl (D_X12_isIn_0.at 5 rfl) ?_
  obtain ⟨s13, T⟩ := T
  refine J_lcmp_gt 13 rfl 17 s13 ⟨by decide, by decide⟩ (D_X12_isIn_0.at 6 rfl) (D_X12_isIn_0.at 7 rfl) (by decide) (fun c40 => ?_) (fun c40 => ?_)
  · replace T := T.1 c40
    refine J_iconst 18 rfl (D_X12_isIn_0.at 10 rfl) ?_
    refine J_zret rfl (Or.inl rfl) (D_X12_isIn_0.at 11 rfl) (fun _ => ?_)
    refine J_zret rfl (Or.inl rfl) (D_X12_isLevel_0.at 5 rfl) (fun _ => ?_)
    refine J_if_eq 23 rfl 51 ⟨by decide, by decide⟩ (D_X12_mine_0.at 10 rfl) (by decide) (fun _ => ?_) (fun c => absurd (by decide) c)
    refine J_iconst 52 rfl (D_X12_mine_0.at 24 rfl) ?_
    exact J_iret rfl (D_X12_mine_0.at 25 rfl) T
  replace T := T.2 c40
  refine J_iconst 14 rfl (D_X12_isIn_0.at 8 rfl) ?_
  refine J_goto 18 (D_X12_isIn_0.at 9 rfl) (by decide) ?_
  refine J_zret rfl (Or.inr rfl) (D_X12_isIn_0.at 11 rfl) (fun _ => ?_)
  refine J_zret rfl (Or.inr rfl) (D_X12_isLevel_0.at 5 rfl) (fun _ => ?_)
  refine J_if_eq 23 rfl 51 ⟨by decide, by decide⟩ (D_X12_mine_0.at 10 rfl) (by decide) (fun c => absurd c (by decide)) (fun _ => ?_)
  refine J_iload 25 rfl 4 4 rfl (D_X12_mine_0.at 11 rfl) ?_
  obtain ⟨s14, T⟩ := T
  refine J_i2l 26 rfl s14 (D_X12_mine_0.at 12 rfl) ?_
  refine J_lconst (z := 0) 27 rfl rfl (D_X12_mine_0.at 13 rfl) ?_
  refine J_ldc2 30 rfl ko_12_560 (D_X12_mine_0.at 14 rfl) ?_
  refine J_callS (d' := 1) (K1 := fun z h0 => rok (some .boolean) z → JG w true m_X12_mine 7 NT NT 33 [(0, vR 68), (1, vI a1), (2, vI a2), (3, vI a3), (4, vI a4), (5, vI a5)] [vI z] h0 _) (sr := fun z => [vI z]) (as := [vL a4, vL 0, vL 1000]) (st := []) 33 rfl ok_X12_isIn sm_X12_isIn ml_12_267 rfl (by decide) ⟨Nat.le_refl _, Nat.le_refl _⟩ (Nat.le_of_ble_eq_true rfl) (D_X12_mine_0.at 15 rfl) (fun _ => rfl) (CGm_of2 (by decide) (by decide) trivial (Nat.le_of_ble_eq_true rfl) ?_) (fun _ _ kq hb => kq hb)
  refine J_lload_n 1 rfl 0 0 rfl (D_X12_isIn_0.at 0 rfl) ?_
  refine J_lload_n 2 rfl 2 1 rfl (D_X12_isIn_0.at 1 rfl) ?_
  obtain ⟨s15, T⟩ := T
  refine J_lcmp_lt 6 rfl 17 s15 ⟨by decide, by decide⟩ (D_X12_isIn_0.at 2 rfl) (D_X12_isIn_0.at 3 rfl) (by decide) (fun c39 => ?_) (fun c39 => ?_)
  · replace T := T.1 c39
    refine J_iconst 18 rfl (D_X12_isIn_0.at 10 rfl) ?_
    refine J_zret rfl (Or.inl rfl) (D_X12_isIn_0.at 11 rfl) (fun _ => ?_)
    refine J_if_eq 36 rfl 51 ⟨by decide, by decide⟩ (D_X12_mine_0.at 16 rfl) (by decide) (fun _ => ?_) (fun c => absurd (by decide) c)
    refine J_iconst 52 rfl (D_X12_mine_0.at 24 rfl) ?_
    exact J_iret rfl (D_X12_mine_0.at 25 rfl) T
  replace T := T.2 c39
  refine J_lload_n 7 rfl 0 0 rfl (D_X12_isIn_0.at 4 rfl) ?_
  refine J_lload 9 rfl 4 2 rfl (D_X12_isIn_0.at 5 rfl) ?_
  obtain ⟨s16, T⟩ := T
  refine J_lcmp_gt 13 rfl 17 s16 ⟨by decide, by decide⟩ (D_X12_isIn_0.at 6 rfl) (D_X12_isIn_0.at 7 rfl) (by decide) (fun c38 => ?_) (fun c38 => ?_)
  · replace T := T.1 c38
    refine J_iconst 18 rfl (D_X12_isIn_0.at 10 rfl) ?_
    refine J_zret rfl (Or.inl rfl) (D_X12_isIn_0.at 11 rfl) (fun _ => ?_)
    refine J_if_eq 36 rfl 51 ⟨by decide, by decide⟩ (D_X12_mine_0.at 16 rfl) (by decide) (fun _ => ?_) (fun c => absurd (by decide) c)
    refine J_iconst 52 rfl (D_X12_mine_0.at 24 rfl) ?_
    exact J_iret rfl (D_X12_mine_0.at 25 rfl) T
  replace T := T.2 c38
  refine J_iconst 14 rfl (D_X12_isIn_0.at 8 rfl) ?_
  refine J_goto 18 (D_X12_isIn_0.at 9 rfl) (by decide) ?_
  refine J_zret rfl (Or.inr rfl) (D_X12_isIn_0.at 11 rfl) (fun _ => ?_)
  refine J_if_eq 36 rfl 51 ⟨by decide, by decide⟩ (D_X12_mine_0.at 16 rfl) (by decide) (fun c => absurd c (by decide)) (fun _ => ?_)
  refine J_iload 38 rfl 5 5 rfl (D_X12_mine_0.at 17 rfl) ?_
  refine J_iconst 39 rfl (D_X12_mine_0.at 18 rfl) ?_
  obtain ⟨s17, T⟩ := T
  refine J_icmp_eq 42 rfl 53 s17 ⟨by decide, by decide⟩ (D_X12_mine_0.at 19 rfl) (by decide) (fun c37 => ?_) (fun c37 => ?_)
  · replace T := T.1 c37
    refine J_aload_n 54 rfl 0 0 rfl ⟨by decide, by decide⟩ (D_X12_mine_0.at 26 rfl) ?_
    refine J_iload_n 55 rfl 1 1 rfl (D_X12_mine_0.at 27 rfl) ?_
    refine J_iload_n 56 rfl 2 2 rfl (D_X12_mine_0.at 28 rfl) ?_
    refine J_iconst 57 rfl (D_X12_mine_0.at 29 rfl) ?_
    refine J_iload_n 58 rfl 3 3 rfl (D_X12_mine_0.at 30 rfl) ?_
    refine J_iload 60 rfl 4 4 rfl (D_X12_mine_0.at 31 rfl) ?_
    refine J_callV (d' := 6) (sr := fun z => []) (as := [vI a1, vI a2, vI (-1), vI a3, vI a4]) (st := []) (o := 68) 63 rfl ok_X12_seeksStones im_X12_seeksStones se_X12_seeksStones ml_12_562 isC_12 ob_68 (Ob.lt ob_68) rfl (by decide) ⟨Nat.le_refl _, Nat.le_refl _⟩ (Nat.le_of_ble_eq_true rfl) (D_X12_mine_0.at 32 rfl) (fun _ => rfl) T (fun r18 h19 T b20 => ?_)
    refine J_aload_n 64 rfl 0 0 rfl ⟨by decide, by decide⟩ (D_X12_mine_0.at 33 rfl) ?_
    refine J_iload 66 rfl 5 5 rfl (D_X12_mine_0.at 34 rfl) ?_
    refine J_callV (d' := 1) (sr := fun z => [vI z]) (as := [vI a5]) (st := []) (o := 68) 69 rfl ok_X12_stonesTold im_X12_stonesTold se_X12_stonesTold ml_12_566 isC_12 ob_68 (Ob.lt ob_68) rfl (by decide) ⟨Nat.le_refl _, Nat.le_refl _⟩ (Nat.le_of_ble_eq_true rfl) (D_X12_mine_0.at 35 rfl) (fun _ => rfl) T (fun r21 h22 T b23 => ?_)
    exact J_iret rfl (D_X12_mine_0.at 36 rfl) T
  replace T := T.2 c37
  refine J_aload_n 43 rfl 0 0 rfl ⟨by decide, by decide⟩ (D_X12_mine_0.at 20 rfl) ?_
  refine J_iload 45 rfl 5 5 rfl (D_X12_mine_0.at 21 rfl) ?_
  refine J_callV (d' := 2) (K1 := fun z h0 => rok (some .boolean) z → JG w true m_X12_mine 7 NT NT 48 [(0, vR 68), (1, vI a1), (2, vI a2), (3, vI a3), (4, vI a4), (5, vI a5)] [vI z] h0 _) (sr := fun z => [vI z]) (as := [vI a5]) (st := []) (o := 68) 48 rfl ok_X12_isReach im_X12_isReach se_X12_isReach ml_12_499 isC_12 ob_68 (Ob.lt ob_68) rfl (by decide) ⟨Nat.le_refl _, Nat.le_refl _⟩ (Nat.le_of_ble_eq_true rfl) (D_X12_mine_0.at 22 rfl) (fun _ => rfl) (CGm_of2 (by decide) (by decide) trivial (Nat.le_of_ble_eq_true rfl) ?_) (fun _ _ kq hb => kq hb)
  refine J_iload_n 1 rfl 1 1 rfl (D_X12_isReach_0.at 0 rfl) ?_
  obtain ⟨s24, T⟩ := T
  refine J_i2l 2 rfl s24 (D_X12_isReach_0.at 1 rfl) ?_
  refine J_lconst (z := 0) 3 rfl rfl (D_X12_isReach_0.at 2 rfl) ?_
  refine J_aload_n 4 rfl 0 0 rfl ⟨by decide, by decide⟩ (D_X12_isReach_0.at 3 rfl) ?_
  refine J_getI (z := (h 68 36)) 7 rfl fl_12_356 rfl ob_68 (Ob.lt ob_68) (D_X12_isReach_0.at 4 rfl) rfl ?_
  refine J_iconst 8 rfl (D_X12_isReach_0.at 5 rfl) ?_
  refine J_isub 9 rfl (D_X12_isReach_0.at 6 rfl) ?_
  obtain ⟨s25, T⟩ := T
  refine J_i2l 10 rfl s25 (D_X12_isReach_0.at 7 rfl) ?_
  refine J_callS (d' := 1) (K1 := fun z h0 => rok (some .boolean) z → JG w true m_X12_isReach 2 NT NT 13 [(0, vR 68), (1, vI a5)] [vI z] h0 _) (sr := fun z => [vI z]) (as := [vL a5, vL 0, vL ((h 68 36) - 1)]) (st := []) 13 rfl ok_X12_isIn sm_X12_isIn ml_12_267 rfl (by decide) ⟨Nat.le_refl _, Nat.le_refl _⟩ (Nat.le_of_ble_eq_true rfl) (D_X12_isReach_0.at 8 rfl) (fun _ => rfl) (CGm_of2 (by decide) (by decide) trivial (Nat.le_of_ble_eq_true rfl) ?_) (fun _ _ kq hb => kq hb)
  refine J_lload_n 1 rfl 0 0 rfl (D_X12_isIn_0.at 0 rfl) ?_
  refine J_lload_n 2 rfl 2 1 rfl (D_X12_isIn_0.at 1 rfl) ?_
  obtain ⟨s26, T⟩ := T
  refine J_lcmp_lt 6 rfl 17 s26 ⟨by decide, by decide⟩ (D_X12_isIn_0.at 2 rfl) (D_X12_isIn_0.at 3 rfl) (by decide) (fun c36 => ?_) (fun c36 => ?_)
  · replace T := T.1 c36
    refine J_iconst 18 rfl (D_X12_isIn_0.at 10 rfl) ?_
    refine J_zret rfl (Or.inl rfl) (D_X12_isIn_0.at 11 rfl) (fun _ => ?_)
    refine J_zret rfl (Or.inl rfl) (D_X12_isReach_0.at 9 rfl) (fun _ => ?_)
    refine J_if_ne 51 rfl 53 ⟨by decide, by decide⟩ (D_X12_mine_0.at 23 rfl) (by decide) (fun c => absurd c (by decide)) (fun _ => ?_)
    refine J_iconst 52 rfl (D_X12_mine_0.at 24 rfl) ?_
    exact J_iret rfl (D_X12_mine_0.at 25 rfl) T
  replace T := T.2 c36
  refine J_lload_n 7 rfl 0 0 rfl (D_X12_isIn_0.at 4 rfl) ?_
  refine J_lload 9 rfl 4 2 rfl (D_X12_isIn_0.at 5 rfl) ?_
  obtain ⟨s27, T⟩ := T
  obtain ⟨s28, T⟩ := T
  refine J_lcmp_gt 13 rfl 17 s27 s28 (D_X12_isIn_0.at 6 rfl) (D_X12_isIn_0.at 7 rfl) (by decide) (fun c35 => ?_) (fun c35 => ?_)
  · replace T := T.1 c35
    refine J_iconst 18 rfl (D_X12_isIn_0.at 10 rfl) ?_
    refine J_zret rfl (Or.inl rfl) (D_X12_isIn_0.at 11 rfl) (fun _ => ?_)
    refine J_zret rfl (Or.inl rfl) (D_X12_isReach_0.at 9 rfl) (fun _ => ?_)
    refine J_if_ne 51 rfl 53 ⟨by decide, by decide⟩ (D_X12_mine_0.at 23 rfl) (by decide) (fun c => absurd c (by decide)) (fun _ => ?_)
    refine J_iconst 52 rfl (D_X12_mine_0.at 24 rfl) ?_
    exact J_iret rfl (D_X12_mine_0.at 25 rfl) T
  replace T := T.2 c35
  refine J_iconst 14 rfl (D_X12_isIn_0.at 8 rfl) ?_
  refine J_goto 18 (D_X12_isIn_0.at 9 rfl) (by decide) ?_
  refine J_zret rfl (Or.inr rfl) (D_X12_isIn_0.at 11 rfl) (fun _ => ?_)
  refine J_zret rfl (Or.inr rfl) (D_X12_isReach_0.at 9 rfl) (fun _ => ?_)
  refine J_if_ne 51 rfl 53 ⟨by decide, by decide⟩ (D_X12_mine_0.at 23 rfl) (by decide) (fun _ => ?_) (fun c => absurd (by decide) c)
  refine J_aload_n 54 rfl 0 0 rfl ⟨by decide, by decide⟩ (D_X12_mine_0.at 26 rfl) ?_
  refine J_iload_n 55 rfl 1 1 rfl (D_X12_mine_0.at 27 rfl) ?_
  refine J_iload_n 56 rfl 2 2 rfl (D_X12_mine_0.at 28 rfl) ?_
  refine J_iconst 57 rfl (D_X12_mine_0.at 29 rfl) ?_
  refine J_iload_n 58 rfl 3 3 rfl (D_X12_mine_0.at 30 rfl) ?_
  refine J_iload 60 rfl 4 4 rfl (D_X12_mine_0.at 31 rfl) ?_
  refine J_callV (d' := 6) (sr := fun z => []) (as := [vI a1, vI a2, vI (-1), vI a3, vI a4]) (st := []) (o := 68) 63 rfl ok_X12_seeksStones im_X12_seeksStones se_X12_seeksStones ml_12_562 isC_12 ob_68 (Ob.lt ob_68) rfl (by decide) ⟨Nat.le_refl _, Nat.le_refl _⟩ (Nat.le_of_ble_eq_true rfl) (D_X12_mine_0.at 32 rfl) (fun _ => rfl) T (fun r29 h30 T b31 => ?_)
  refine J_aload_n 64 rfl 0 0 rfl ⟨by decide, by decide⟩ (D_X12_mine_0.at 33 rfl) ?_
  refine J_iload 66 rfl 5 5 rfl (D_X12_mine_0.at 34 rfl) ?_
  refine J_callV (d' := 1) (sr := fun z => [vI z]) (as := [vI a5]) (st := []) (o := 68) 69 rfl ok_X12_stonesTold im_X12_stonesTold se_X12_stonesTold ml_12_566 isC_12 ob_68 (Ob.lt ob_68) rfl (by decide) ⟨Nat.le_refl _, Nat.le_refl _⟩ (Nat.le_of_ble_eq_true rfl) (D_X12_mine_0.at 35 rfl) (fun _ => rfl) T (fun r32 h33 T b34 => ?_)
  exact J_iret rfl (D_X12_mine_0.at 36 rfl) T
theorem c_X12_keep {w : Wd} {a1 a2 a3 a4 : Int} {h : Hp} {K : Int → Hp → Prop} (T : (inR a1) ∧ ((inR ((h 93 5) - 1)) ∧ ((inL a1) ∧ (((a1 < 0) → (K (-1) h)) ∧ (¬ (a1 < 0) → ((inL a1) ∧ ((inL ((h 93 5) - 1)) ∧ (((a1 > ((h 93 5) - 1)) → (K (-1) h)) ∧ (¬ (a1 > ((h 93 5) - 1)) → ((inR a2) ∧ ((inL a2) ∧ (((a2 < 0) → (K (-1) h)) ∧ (¬ (a2 < 0) → ((inL a2) ∧ (((a2 > 9) → (K (-1) h)) ∧ (¬ (a2 > 9) → ((inR a3) ∧ ((inL a3) ∧ (((a3 < 0) → (K (-1) h)) ∧ (¬ (a3 < 0) → ((inL a3) ∧ (((a3 > 99) → (K (-1) h)) ∧ (¬ (a3 > 99) → ((inR a4) ∧ (((a4 = (-1)) → (C_X12_seeksStones w (-1) (-1) a1 a2 a3 h (fun _ h14 => C_X12_stonesTold w a4 h14 (fun r16 h17 => K r16 h17)))) ∧ (¬ (a4 = (-1)) → ((inR a4) ∧ ((inR ((h 68 36) - 1)) ∧ ((inL a4) ∧ (((a4 < 0) → (K (-1) h)) ∧ (¬ (a4 < 0) → ((inL a4) ∧ ((inL ((h 68 36) - 1)) ∧ (((a4 > ((h 68 36) - 1)) → (K (-1) h)) ∧ (¬ (a4 > ((h 68 36) - 1)) → (C_X12_seeksStones w (-1) (-1) a1 a2 a3 h (fun _ h25 => C_X12_stonesTold w a4 h25 (fun r27 h28 => K r27 h28)))))))))))))))))))))))))))))))))))))) : C_X12_keep w a1 a2 a3 a4 h K := by
  refine CGm_of2 (by decide) (by decide) trivial (Nat.le_of_ble_eq_true rfl) ?_
  refine J_aload_n 1 rfl 0 0 rfl ⟨by decide, by decide⟩ (D_X12_keep_0.at 0 rfl) ?_
  refine J_iload_n 2 rfl 1 1 rfl (D_X12_keep_0.at 1 rfl) ?_
  refine J_callV (d' := 2) (K1 := fun z h0 => rok (some .boolean) z → JG w true m_X12_keep 7 NT NT 5 [(0, vR 68), (1, vI a1), (2, vI a2), (3, vI a3), (4, vI a4)] [vI z] h0 _) (sr := fun z => [vI z]) (as := [vI a1]) (st := []) (o := 68) 5 rfl ok_X12_isBank im_X12_isBank se_X12_isBank ml_12_481 isC_12 ob_68 (Ob.lt ob_68) rfl (by decide) ⟨Nat.le_refl _, Nat.le_refl _⟩ (Nat.le_of_ble_eq_true rfl) (D_X12_keep_0.at 2 rfl) (fun _ => rfl) (CGm_of2 (by decide) (by decide) trivial (Nat.le_of_ble_eq_true rfl) ?_) (fun _ _ kq hb => kq hb)
  refine J_iload_n 1 rfl 1 1 rfl (D_X12_isBank_0.at 0 rfl) ?_
  obtain ⟨s1, T⟩ := T
  refine J_i2l 2 rfl s1 (D_X12_isBank_0.at 1 rfl) ?_
  refine J_lconst (z := 0) 3 rfl rfl (D_X12_isBank_0.at 2 rfl) ?_
  refine J_aload_n 4 rfl 0 0 rfl ⟨by decide, by decide⟩ (D_X12_isBank_0.at 3 rfl) ?_
  refine J_callV (d' := 1) (K1 := fun z h0 => rok (some .int) z → JG w true m_X12_isBank 2 NT NT 7 [(0, vR 68), (1, vI a1)] [vI z, vL 0, vL a1] h0 _) (sr := fun z => [vI z, vL 0, vL a1]) (as := []) (st := [vL 0, vL a1]) (o := 68) 7 rfl ok_X12_bankMany im_X12_bankMany se_X12_bankMany ml_12_419 isC_12 ob_68 (Ob.lt ob_68) rfl (by decide) ⟨Nat.le_refl _, Nat.le_refl _⟩ (Nat.le_of_ble_eq_true rfl) (D_X12_isBank_0.at 4 rfl) (fun _ => rfl) (CGm_of2 (by decide) (by decide) trivial (Nat.le_of_ble_eq_true rfl) ?_) (fun _ _ kq hb => kq hb)
  refine J_aload_n 1 rfl 0 0 rfl ⟨by decide, by decide⟩ (D_X12_bankMany_0.at 0 rfl) ?_
  refine J_getF (ov := 93) (dd := 1025) 4 rfl fl_12_87 rfl (by decide) rfl ob_68 (Ob.lt ob_68) (D_X12_bankMany_0.at 1 rfl) ?_
  refine J_iconst 5 rfl (D_X12_bankMany_0.at 2 rfl) ?_
  refine J_iald 6 rfl ar_93 (Ar.lt ar_93) ⟨by decide, by decide⟩ (D_X12_bankMany_0.at 3 rfl) ?_
  refine J_iret rfl (D_X12_bankMany_0.at 4 rfl) (fun _ => ?_)
  refine J_iconst 8 rfl (D_X12_isBank_0.at 5 rfl) ?_
  refine J_isub 9 rfl (D_X12_isBank_0.at 6 rfl) ?_
  obtain ⟨s2, T⟩ := T
  refine J_i2l 10 rfl s2 (D_X12_isBank_0.at 7 rfl) ?_
  refine J_callS (d' := 1) (K1 := fun z h0 => rok (some .boolean) z → JG w true m_X12_isBank 2 NT NT 13 [(0, vR 68), (1, vI a1)] [vI z] h0 _) (sr := fun z => [vI z]) (as := [vL a1, vL 0, vL ((h 93 5) - 1)]) (st := []) 13 rfl ok_X12_isIn sm_X12_isIn ml_12_267 rfl (by decide) ⟨Nat.le_refl _, Nat.le_refl _⟩ (Nat.le_of_ble_eq_true rfl) (D_X12_isBank_0.at 8 rfl) (fun _ => rfl) (CGm_of2 (by decide) (by decide) trivial (Nat.le_of_ble_eq_true rfl) ?_) (fun _ _ kq hb => kq hb)
  refine J_lload_n 1 rfl 0 0 rfl (D_X12_isIn_0.at 0 rfl) ?_
  refine J_lload_n 2 rfl 2 1 rfl (D_X12_isIn_0.at 1 rfl) ?_
  obtain ⟨s3, T⟩ := T
  refine J_lcmp_lt 6 rfl 17 s3 ⟨by decide, by decide⟩ (D_X12_isIn_0.at 2 rfl) (D_X12_isIn_0.at 3 rfl) (by decide) (fun c38 => ?_) (fun c38 => ?_)
  · replace T := T.1 c38
    refine J_iconst 18 rfl (D_X12_isIn_0.at 10 rfl) ?_
    refine J_zret rfl (Or.inl rfl) (D_X12_isIn_0.at 11 rfl) (fun _ => ?_)
    refine J_zret rfl (Or.inl rfl) (D_X12_isBank_0.at 9 rfl) (fun _ => ?_)
    refine J_if_eq 8 rfl 42 ⟨by decide, by decide⟩ (D_X12_keep_0.at 3 rfl) (by decide) (fun _ => ?_) (fun c => absurd (by decide) c)
    refine J_iconst 43 rfl (D_X12_keep_0.at 20 rfl) ?_
    exact J_iret rfl (D_X12_keep_0.at 21 rfl) T
  replace T := T.2 c38
  refine J_lload_n 7 rfl 0 0 rfl (D_X12_isIn_0.at 4 rfl) ?_
  refine J_lload 9 rfl 4 2 rfl (D_X12_isIn_0.at 5 rfl) ?_
  obtain ⟨s4, T⟩ := T
  obtain ⟨s5, T⟩ := T
  refine J_lcmp_gt 13 rfl 17 s4 s5 (D_X12_isIn_0.at 6 rfl) (D_X12_isIn_0.at 7 rfl) (by decide) (fun c37 => ?_) (fun c37 => ?_)
  · replace T := T.1 c37
    refine J_iconst 18 rfl (D_X12_isIn_0.at 10 rfl) ?_
    refine J_zret rfl (Or.inl rfl) (D_X12_isIn_0.at 11 rfl) (fun _ => ?_)
    refine J_zret rfl (Or.inl rfl) (D_X12_isBank_0.at 9 rfl) (fun _ => ?_)
    refine J_if_eq 8 rfl 42 ⟨by decide, by decide⟩ (D_X12_keep_0.at 3 rfl) (by decide) (fun _ => ?_) (fun c => absurd (by decide) c)
    refine J_iconst 43 rfl (D_X12_keep_0.at 20 rfl) ?_
    exact J_iret rfl (D_X12_keep_0.at 21 rfl) T
  replace T := T.2 c37
  refine J_iconst 14 rfl (D_X12_isIn_0.at 8 rfl) ?_
  refine J_goto 18 (D_X12_isIn_0.at 9 rfl) (by decide) ?_
  refine J_zret rfl (Or.inr rfl) (D_X12_isIn_0.at 11 rfl) (fun _ => ?_)
  refine J_zret rfl (Or.inr rfl) (D_X12_isBank_0.at 9 rfl) (fun _ => ?_)
  refine J_if_eq 8 rfl 42 ⟨by decide, by decide⟩ (D_X12_keep_0.at 3 rfl) (by decide) (fun c => absurd c (by decide)) (fun _ => ?_)
  refine J_iload_n 9 rfl 2 2 rfl (D_X12_keep_0.at 4 rfl) ?_
  refine J_callS (d' := 2) (K1 := fun z h0 => rok (some .boolean) z → JG w true m_X12_keep 7 NT NT 12 [(0, vR 68), (1, vI a1), (2, vI a2), (3, vI a3), (4, vI a4)] [vI z] h0 _) (sr := fun z => [vI z]) (as := [vI a2]) (st := []) 12 rfl ok_X12_isLevel sm_X12_isLevel ml_12_514 rfl (by decide) ⟨Nat.le_refl _, Nat.le_refl _⟩ (Nat.le_of_ble_eq_true rfl) (D_X12_keep_0.at 5 rfl) (fun _ => rfl) (CGm_of2 (by decide) (by decide) trivial (Nat.le_of_ble_eq_true rfl) ?_) (fun _ _ kq hb => kq hb)
  refine J_iload_n 1 rfl 0 0 rfl (D_X12_isLevel_0.at 0 rfl) ?_
  obtain ⟨s6, T⟩ := T
  refine J_i2l 2 rfl s6 (D_X12_isLevel_0.at 1 rfl) ?_
  refine J_lconst (z := 0) 3 rfl rfl (D_X12_isLevel_0.at 2 rfl) ?_
  refine J_ldc2 6 rfl ko_12_425 (D_X12_isLevel_0.at 3 rfl) ?_
  refine J_callS (d' := 1) (K1 := fun z h0 => rok (some .boolean) z → JG w true m_X12_isLevel 2 NT NT 9 [(0, vI a2)] [vI z] h0 _) (sr := fun z => [vI z]) (as := [vL a2, vL 0, vL 9]) (st := []) 9 rfl ok_X12_isIn sm_X12_isIn ml_12_267 rfl (by decide) ⟨Nat.le_refl _, Nat.le_refl _⟩ (Nat.le_of_ble_eq_true rfl) (D_X12_isLevel_0.at 4 rfl) (fun _ => rfl) (CGm_of2 (by decide) (by decide) trivial (Nat.le_of_ble_eq_true rfl) ?_) (fun _ _ kq hb => kq hb)
  refine J_lload_n 1 rfl 0 0 rfl (D_X12_isIn_0.at 0 rfl) ?_
  refine J_lload_n 2 rfl 2 1 rfl (D_X12_isIn_0.at 1 rfl) ?_
  obtain ⟨s7, T⟩ := T
  refine J_lcmp_lt 6 rfl 17 s7 ⟨by decide, by decide⟩ (D_X12_isIn_0.at 2 rfl) (D_X12_isIn_0.at 3 rfl) (by decide) (fun c36 => ?_) (fun c36 => ?_)
  · replace T := T.1 c36
    refine J_iconst 18 rfl (D_X12_isIn_0.at 10 rfl) ?_
    refine J_zret rfl (Or.inl rfl) (D_X12_isIn_0.at 11 rfl) (fun _ => ?_)
    refine J_zret rfl (Or.inl rfl) (D_X12_isLevel_0.at 5 rfl) (fun _ => ?_)
    refine J_if_eq 15 rfl 42 ⟨by decide, by decide⟩ (D_X12_keep_0.at 6 rfl) (by decide) (fun _ => ?_) (fun c => absurd (by decide) c)
    refine J_iconst 43 rfl (D_X12_keep_0.at 20 rfl) ?_
    exact J_iret rfl (D_X12_keep_0.at 21 rfl) T
  replace T := T.2 c36
  refine J_lload_n 7 rfl 0 0 rfl (D_X12_isIn_0.at 4 rfl) ?_
  refine J_lload 9 rfl 4 2 rfl (D_X12_isIn_0.at 5 rfl) ?_
  obtain ⟨s8, T⟩ := T
  refine J_lcmp_gt 13 rfl 17 s8 ⟨by decide, by decide⟩ (D_X12_isIn_0.at 6 rfl) (D_X12_isIn_0.at 7 rfl) (by decide) (fun c35 => ?_) (fun c35 => ?_)
  · replace T := T.1 c35
    refine J_iconst 18 rfl (D_X12_isIn_0.at 10 rfl) ?_
    refine J_zret rfl (Or.inl rfl) (D_X12_isIn_0.at 11 rfl) (fun _ => ?_)
    refine J_zret rfl (Or.inl rfl) (D_X12_isLevel_0.at 5 rfl) (fun _ => ?_)
    refine J_if_eq 15 rfl 42 ⟨by decide, by decide⟩ (D_X12_keep_0.at 6 rfl) (by decide) (fun _ => ?_) (fun c => absurd (by decide) c)
    refine J_iconst 43 rfl (D_X12_keep_0.at 20 rfl) ?_
    exact J_iret rfl (D_X12_keep_0.at 21 rfl) T
  replace T := T.2 c35
  refine J_iconst 14 rfl (D_X12_isIn_0.at 8 rfl) ?_
  refine J_goto 18 (D_X12_isIn_0.at 9 rfl) (by decide) ?_
  refine J_zret rfl (Or.inr rfl) (D_X12_isIn_0.at 11 rfl) (fun _ => ?_)
  refine J_zret rfl (Or.inr rfl) (D_X12_isLevel_0.at 5 rfl) (fun _ => ?_)
  refine J_if_eq 15 rfl 42 ⟨by decide, by decide⟩ (D_X12_keep_0.at 6 rfl) (by decide) (fun c => absurd c (by decide)) (fun _ => ?_)
  refine J_iload_n 16 rfl 3 3 rfl (D_X12_keep_0.at 7 rfl) ?_
  obtain ⟨s9, T⟩ := T
  refine J_i2l 17 rfl s9 (D_X12_keep_0.at 8 rfl) ?_
  refine J_lconst (z := 0) 18 rfl rfl (D_X12_keep_0.at 9 rfl) ?_
  refine J_ldc2 21 rfl ko_12_569 (D_X12_keep_0.at 10 rfl) ?_
  refine J_callS (d' := 1) (K1 := fun z h0 => rok (some .boolean) z → JG w true m_X12_keep 7 NT NT 24 [(0, vR 68), (1, vI a1), (2, vI a2), (3, vI a3), (4, vI a4)] [vI z] h0 _) (sr := fun z => [vI z]) (as := [vL a3, vL 0, vL 99]) (st := []) 24 rfl ok_X12_isIn sm_X12_isIn ml_12_267 rfl (by decide) ⟨Nat.le_refl _, Nat.le_refl _⟩ (Nat.le_of_ble_eq_true rfl) (D_X12_keep_0.at 11 rfl) (fun _ => rfl) (CGm_of2 (by decide) (by decide) trivial (Nat.le_of_ble_eq_true rfl) ?_) (fun _ _ kq hb => kq hb)
  refine J_lload_n 1 rfl 0 0 rfl (D_X12_isIn_0.at 0 rfl) ?_
  refine J_lload_n 2 rfl 2 1 rfl (D_X12_isIn_0.at 1 rfl) ?_
  obtain ⟨s10, T⟩ := T
  refine J_lcmp_lt 6 rfl 17 s10 ⟨by decide, by decide⟩ (D_X12_isIn_0.at 2 rfl) (D_X12_isIn_0.at 3 rfl) (by decide) (fun c34 => ?_) (fun c34 => ?_)
  · replace T := T.1 c34
    refine J_iconst 18 rfl (D_X12_isIn_0.at 10 rfl) ?_
    refine J_zret rfl (Or.inl rfl) (D_X12_isIn_0.at 11 rfl) (fun _ => ?_)
    refine J_if_eq 27 rfl 42 ⟨by decide, by decide⟩ (D_X12_keep_0.at 12 rfl) (by decide) (fun _ => ?_) (fun c => absurd (by decide) c)
    refine J_iconst 43 rfl (D_X12_keep_0.at 20 rfl) ?_
    exact J_iret rfl (D_X12_keep_0.at 21 rfl) T
  replace T := T.2 c34
  refine J_lload_n 7 rfl 0 0 rfl (D_X12_isIn_0.at 4 rfl) ?_
  refine J_lload 9 rfl 4 2 rfl (D_X12_isIn_0.at 5 rfl) ?_
  obtain ⟨s11, T⟩ := T
  refine J_lcmp_gt 13 rfl 17 s11 ⟨by decide, by decide⟩ (D_X12_isIn_0.at 6 rfl) (D_X12_isIn_0.at 7 rfl) (by decide) (fun c33 => ?_) (fun c33 => ?_)
  · replace T := T.1 c33
    refine J_iconst 18 rfl (D_X12_isIn_0.at 10 rfl) ?_
    refine J_zret rfl (Or.inl rfl) (D_X12_isIn_0.at 11 rfl) (fun _ => ?_)
    refine J_if_eq 27 rfl 42 ⟨by decide, by decide⟩ (D_X12_keep_0.at 12 rfl) (by decide) (fun _ => ?_) (fun c => absurd (by decide) c)
    refine J_iconst 43 rfl (D_X12_keep_0.at 20 rfl) ?_
    exact J_iret rfl (D_X12_keep_0.at 21 rfl) T
  replace T := T.2 c33
  refine J_iconst 14 rfl (D_X12_isIn_0.at 8 rfl) ?_
  refine J_goto 18 (D_X12_isIn_0.at 9 rfl) (by decide) ?_
  refine J_zret rfl (Or.inr rfl) (D_X12_isIn_0.at 11 rfl) (fun _ => ?_)
  refine J_if_eq 27 rfl 42 ⟨by decide, by decide⟩ (D_X12_keep_0.at 12 rfl) (by decide) (fun c => absurd c (by decide)) (fun _ => ?_)
  refine J_iload 29 rfl 4 4 rfl (D_X12_keep_0.at 13 rfl) ?_
  refine J_iconst 30 rfl (D_X12_keep_0.at 14 rfl) ?_
  obtain ⟨s12, T⟩ := T
  refine J_icmp_eq 33 rfl 44 s12 ⟨by decide, by decide⟩ (D_X12_keep_0.at 15 rfl) (by decide) (fun c32 => ?_) (fun c32 => ?_)
  · replace T := T.1 c32
    refine J_aload_n 45 rfl 0 0 rfl ⟨by decide, by decide⟩ (D_X12_keep_0.at 22 rfl) ?_
    refine J_iconst 46 rfl (D_X12_keep_0.at 23 rfl) ?_
    refine J_iconst 47 rfl (D_X12_keep_0.at 24 rfl) ?_
    refine J_iload_n 48 rfl 1 1 rfl (D_X12_keep_0.at 25 rfl) ?_
    refine J_iload_n 49 rfl 2 2 rfl (D_X12_keep_0.at 26 rfl) ?_
    refine J_iload_n 50 rfl 3 3 rfl (D_X12_keep_0.at 27 rfl) ?_
    refine J_callV (d' := 6) (sr := fun z => []) (as := [vI (-1), vI (-1), vI a1, vI a2, vI a3]) (st := []) (o := 68) 53 rfl ok_X12_seeksStones im_X12_seeksStones se_X12_seeksStones ml_12_562 isC_12 ob_68 (Ob.lt ob_68) rfl (by decide) ⟨Nat.le_refl _, Nat.le_refl _⟩ (Nat.le_of_ble_eq_true rfl) (D_X12_keep_0.at 28 rfl) (fun _ => rfl) T (fun r13 h14 T b15 => ?_)
    refine J_aload_n 54 rfl 0 0 rfl ⟨by decide, by decide⟩ (D_X12_keep_0.at 29 rfl) ?_
    refine J_iload 56 rfl 4 4 rfl (D_X12_keep_0.at 30 rfl) ?_
    refine J_callV (d' := 1) (sr := fun z => [vI z]) (as := [vI a4]) (st := []) (o := 68) 59 rfl ok_X12_stonesTold im_X12_stonesTold se_X12_stonesTold ml_12_566 isC_12 ob_68 (Ob.lt ob_68) rfl (by decide) ⟨Nat.le_refl _, Nat.le_refl _⟩ (Nat.le_of_ble_eq_true rfl) (D_X12_keep_0.at 31 rfl) (fun _ => rfl) T (fun r16 h17 T b18 => ?_)
    exact J_iret rfl (D_X12_keep_0.at 32 rfl) T
  replace T := T.2 c32
  refine J_aload_n 34 rfl 0 0 rfl ⟨by decide, by decide⟩ (D_X12_keep_0.at 16 rfl) ?_
  refine J_iload 36 rfl 4 4 rfl (D_X12_keep_0.at 17 rfl) ?_
  refine J_callV (d' := 2) (K1 := fun z h0 => rok (some .boolean) z → JG w true m_X12_keep 7 NT NT 39 [(0, vR 68), (1, vI a1), (2, vI a2), (3, vI a3), (4, vI a4)] [vI z] h0 _) (sr := fun z => [vI z]) (as := [vI a4]) (st := []) (o := 68) 39 rfl ok_X12_isReach im_X12_isReach se_X12_isReach ml_12_499 isC_12 ob_68 (Ob.lt ob_68) rfl (by decide) ⟨Nat.le_refl _, Nat.le_refl _⟩ (Nat.le_of_ble_eq_true rfl) (D_X12_keep_0.at 18 rfl) (fun _ => rfl) (CGm_of2 (by decide) (by decide) trivial (Nat.le_of_ble_eq_true rfl) ?_) (fun _ _ kq hb => kq hb)
  refine J_iload_n 1 rfl 1 1 rfl (D_X12_isReach_0.at 0 rfl) ?_
  obtain ⟨s19, T⟩ := T
  refine J_i2l 2 rfl s19 (D_X12_isReach_0.at 1 rfl) ?_
  refine J_lconst (z := 0) 3 rfl rfl (D_X12_isReach_0.at 2 rfl) ?_
  refine J_aload_n 4 rfl 0 0 rfl ⟨by decide, by decide⟩ (D_X12_isReach_0.at 3 rfl) ?_
  refine J_getI (z := (h 68 36)) 7 rfl fl_12_356 rfl ob_68 (Ob.lt ob_68) (D_X12_isReach_0.at 4 rfl) rfl ?_
  refine J_iconst 8 rfl (D_X12_isReach_0.at 5 rfl) ?_
  refine J_isub 9 rfl (D_X12_isReach_0.at 6 rfl) ?_
  obtain ⟨s20, T⟩ := T
  refine J_i2l 10 rfl s20 (D_X12_isReach_0.at 7 rfl) ?_
  refine J_callS (d' := 1) (K1 := fun z h0 => rok (some .boolean) z → JG w true m_X12_isReach 2 NT NT 13 [(0, vR 68), (1, vI a4)] [vI z] h0 _) (sr := fun z => [vI z]) (as := [vL a4, vL 0, vL ((h 68 36) - 1)]) (st := []) 13 rfl ok_X12_isIn sm_X12_isIn ml_12_267 rfl (by decide) ⟨Nat.le_refl _, Nat.le_refl _⟩ (Nat.le_of_ble_eq_true rfl) (D_X12_isReach_0.at 8 rfl) (fun _ => rfl) (CGm_of2 (by decide) (by decide) trivial (Nat.le_of_ble_eq_true rfl) ?_) (fun _ _ kq hb => kq hb)
  refine J_lload_n 1 rfl 0 0 rfl (D_X12_isIn_0.at 0 rfl) ?_
  refine J_lload_n 2 rfl 2 1 rfl (D_X12_isIn_0.at 1 rfl) ?_
  obtain ⟨s21, T⟩ := T
  refine J_lcmp_lt 6 rfl 17 s21 ⟨by decide, by decide⟩ (D_X12_isIn_0.at 2 rfl) (D_X12_isIn_0.at 3 rfl) (by decide) (fun c31 => ?_) (fun c31 => ?_)
  · replace T := T.1 c31
    refine J_iconst 18 rfl (D_X12_isIn_0.at 10 rfl) ?_
    refine J_zret rfl (Or.inl rfl) (D_X12_isIn_0.at 11 rfl) (fun _ => ?_)
    refine J_zret rfl (Or.inl rfl) (D_X12_isReach_0.at 9 rfl) (fun _ => ?_)
    refine J_if_ne 42 rfl 44 ⟨by decide, by decide⟩ (D_X12_keep_0.at 19 rfl) (by decide) (fun c => absurd c (by decide)) (fun _ => ?_)
    refine J_iconst 43 rfl (D_X12_keep_0.at 20 rfl) ?_
    exact J_iret rfl (D_X12_keep_0.at 21 rfl) T
  replace T := T.2 c31
  refine J_lload_n 7 rfl 0 0 rfl (D_X12_isIn_0.at 4 rfl) ?_
  refine J_lload 9 rfl 4 2 rfl (D_X12_isIn_0.at 5 rfl) ?_
  obtain ⟨s22, T⟩ := T
  obtain ⟨s23, T⟩ := T
  refine J_lcmp_gt 13 rfl 17 s22 s23 (D_X12_isIn_0.at 6 rfl) (D_X12_isIn_0.at 7 rfl) (by decide) (fun c30 => ?_) (fun c30 => ?_)
  · replace T := T.1 c30
    refine J_iconst 18 rfl (D_X12_isIn_0.at 10 rfl) ?_
    refine J_zret rfl (Or.inl rfl) (D_X12_isIn_0.at 11 rfl) (fun _ => ?_)
    refine J_zret rfl (Or.inl rfl) (D_X12_isReach_0.at 9 rfl) (fun _ => ?_)
    refine J_if_ne 42 rfl 44 ⟨by decide, by decide⟩ (D_X12_keep_0.at 19 rfl) (by decide) (fun c => absurd c (by decide)) (fun _ => ?_)
    refine J_iconst 43 rfl (D_X12_keep_0.at 20 rfl) ?_
    exact J_iret rfl (D_X12_keep_0.at 21 rfl) T
  replace T := T.2 c30
  refine J_iconst 14 rfl (D_X12_isIn_0.at 8 rfl) ?_
  refine J_goto 18 (D_X12_isIn_0.at 9 rfl) (by decide) ?_
  refine J_zret rfl (Or.inr rfl) (D_X12_isIn_0.at 11 rfl) (fun _ => ?_)
  refine J_zret rfl (Or.inr rfl) (D_X12_isReach_0.at 9 rfl) (fun _ => ?_)
  refine J_if_ne 42 rfl 44 ⟨by decide, by decide⟩ (D_X12_keep_0.at 19 rfl) (by decide) (fun _ => ?_) (fun c => absurd (by decide) c)
  refine J_aload_n 45 rfl 0 0 rfl ⟨by decide, by decide⟩ (D_X12_keep_0.at 22 rfl) ?_
  refine J_iconst 46 rfl (D_X12_keep_0.at 23 rfl) ?_
  refine J_iconst 47 rfl (D_X12_keep_0.at 24 rfl) ?_
  refine J_iload_n 48 rfl 1 1 rfl (D_X12_keep_0.at 25 rfl) ?_
  refine J_iload_n 49 rfl 2 2 rfl (D_X12_keep_0.at 26 rfl) ?_
  refine J_iload_n 50 rfl 3 3 rfl (D_X12_keep_0.at 27 rfl) ?_
  refine J_callV (d' := 6) (sr := fun z => []) (as := [vI (-1), vI (-1), vI a1, vI a2, vI a3]) (st := []) (o := 68) 53 rfl ok_X12_seeksStones im_X12_seeksStones se_X12_seeksStones ml_12_562 isC_12 ob_68 (Ob.lt ob_68) rfl (by decide) ⟨Nat.le_refl _, Nat.le_refl _⟩ (Nat.le_of_ble_eq_true rfl) (D_X12_keep_0.at 28 rfl) (fun _ => rfl) T (fun r24 h25 T b26 => ?_)
  refine J_aload_n 54 rfl 0 0 rfl ⟨by decide, by decide⟩ (D_X12_keep_0.at 29 rfl) ?_
  refine J_iload 56 rfl 4 4 rfl (D_X12_keep_0.at 30 rfl) ?_
  refine J_callV (d' := 1) (sr := fun z => [vI z]) (as := [vI a4]) (st := []) (o := 68) 59 rfl ok_X12_stonesTold im_X12_stonesTold se_X12_stonesTold ml_12_566 isC_12 ob_68 (Ob.lt ob_68) rfl (by decide) ⟨Nat.le_refl _, Nat.le_refl _⟩ (Nat.le_of_ble_eq_true rfl) (D_X12_keep_0.at 31 rfl) (fun _ => rfl) T (fun r27 h28 T b29 => ?_)
  exact J_iret rfl (D_X12_keep_0.at 32 rfl) T
theorem c_X12_levels {w : Wd} {h : Hp} {K : Int → Hp → Prop} (T : (inR (h 68 67)) ∧ ((((h 68 67) ≠ 0) → (L_X12_levels_13 w 0 0 h K)) ∧ (¬ ((h 68 67) ≠ 0) → (K (-1) h)))) : C_X12_levels w h K := by
  refine CGm_of2 (by decide) (by decide) trivial (Nat.le_of_ble_eq_true rfl) ?_
  refine J_aload_n 1 rfl 0 0 rfl ⟨by decide, by decide⟩ (D_X12_levels_0.at 0 rfl) ?_
  refine J_getI (z := (h 68 67)) 4 rfl fl_12_362 rfl ob_68 (Ob.lt ob_68) (D_X12_levels_0.at 1 rfl) rfl ?_
  obtain ⟨s1, T⟩ := T
  refine J_if_ne 7 rfl 9 s1 (D_X12_levels_0.at 2 rfl) (by decide) (fun c2 => ?_) (fun c2 => ?_)
  · replace T := T.1 c2
    refine J_iconst 10 rfl (D_X12_levels_0.at 5 rfl) ?_
    refine J_istore_n (lv' := [(1, vI 0), (0, vR 68)]) 11 rfl 1 (by decide) rfl (D_X12_levels_0.at 6 rfl) ?_
    refine J_iconst 12 rfl (D_X12_levels_0.at 7 rfl) ?_
    refine J_istore_n (lv' := [(2, vI 0), (1, vI 0), (0, vR 68)]) 13 rfl 2 (by decide) rfl (D_X12_levels_0.at 8 rfl) ?_
    exact J_sub (lv' := [(0, vR 68), (1, vI 0), (2, vI 0)]) [2, 1, 0] rfl T
  replace T := T.2 c2
  refine J_iconst 8 rfl (D_X12_levels_0.at 3 rfl) ?_
  exact J_iret rfl (D_X12_levels_0.at 4 rfl) T
theorem l_X12_levels_13 {w : Wd} {v1 v2 : Int} {h : Hp} {K : Int → Hp → Prop} (T : (inR v2) ∧ (((v2 > 9) → (K v1 h)) ∧ (¬ (v2 > 9) → (C_X12_wouldBe w v2 h (fun _ h5 => C_X12_isAsFound w h5 (fun r7 h8 => (r7 = 0 ∨ r7 = 1) → ((r7 = 0) → (L_X12_levels_13 w v1 (v2 + 1) h8 K)) ∧ (¬ (r7 = 0) → ((0 ≤ v2 ∧ v2 < 32) ∧ (L_X12_levels_13 w (iorI v1 (1 * 2 ^ (Int.toNat v2))) (v2 + 1) h8 K))))))))) : L_X12_levels_13 w v1 v2 h K := by
  unfold L_X12_levels_13
  refine J_iload_n 14 rfl 2 2 rfl (D_X12_levels_0.at 9 rfl) ?_
  refine J_bipush 16 rfl ⟨by decide, by decide⟩ (D_X12_levels_0.at 10 rfl) ?_
  obtain ⟨s3, T⟩ := T
  refine J_icmp_gt 19 rfl 43 s3 ⟨by decide, by decide⟩ (D_X12_levels_0.at 11 rfl) (by decide) (fun c12 => ?_) (fun c12 => ?_)
  · replace T := T.1 c12
    refine J_iload_n 44 rfl 1 1 rfl (D_X12_levels_0.at 26 rfl) ?_
    exact J_iret rfl (D_X12_levels_0.at 27 rfl) T
  replace T := T.2 c12
  refine J_aload_n 20 rfl 0 0 rfl ⟨by decide, by decide⟩ (D_X12_levels_0.at 12 rfl) ?_
  refine J_iload_n 21 rfl 2 2 rfl (D_X12_levels_0.at 13 rfl) ?_
  refine J_callV (d' := 6) (sr := fun z => []) (as := [vI v2]) (st := []) (o := 68) 24 rfl ok_X12_wouldBe im_X12_wouldBe se_X12_wouldBe ml_12_459 isC_12 ob_68 (Ob.lt ob_68) rfl (by decide) ⟨Nat.le_refl _, Nat.le_refl _⟩ (Nat.le_of_ble_eq_true rfl) (D_X12_levels_0.at 14 rfl) (fun _ => rfl) T (fun r4 h5 T b6 => ?_)
  refine J_aload_n 25 rfl 0 0 rfl ⟨by decide, by decide⟩ (D_X12_levels_0.at 15 rfl) ?_
  refine J_callV (d' := 4) (sr := fun z => [vI z]) (as := []) (st := []) (o := 68) 28 rfl ok_X12_isAsFound im_X12_isAsFound se_X12_isAsFound ml_12_571 isC_12 ob_68 (Ob.lt ob_68) rfl (by decide) ⟨Nat.le_refl _, Nat.le_refl _⟩ (Nat.le_of_ble_eq_true rfl) (D_X12_levels_0.at 16 rfl) (fun _ => rfl) T (fun r7 h8 T b9 => ?_)
  replace T := T b9
  refine J_if_eq 31 rfl 37 (inR_b b9) (D_X12_levels_0.at 17 rfl) (by decide) (fun c11 => ?_) (fun c11 => ?_)
  · replace T := T.1 c11
    refine J_iinc (v := (v2 + 1)) (lv' := [(2, vI (v2 + 1)), (0, vR 68), (1, vI v1)]) 40 rfl 2 2 1 rfl rfl (by decide) rfl (D_X12_levels_0.at 24 rfl) ?_
    refine J_goto 13 (D_X12_levels_0.at 25 rfl) (by decide) ?_
    exact J_sub (lv' := [(0, vR 68), (1, vI v1), (2, vI (v2 + 1))]) [1, 2, 0] rfl T
  replace T := T.2 c11
  refine J_iload_n 32 rfl 1 1 rfl (D_X12_levels_0.at 18 rfl) ?_
  refine J_iconst 33 rfl (D_X12_levels_0.at 19 rfl) ?_
  refine J_iload_n 34 rfl 2 2 rfl (D_X12_levels_0.at 20 rfl) ?_
  obtain ⟨s10, T⟩ := T
  refine J_ishl 35 rfl s10 (D_X12_levels_0.at 21 rfl) ?_
  refine J_ior 36 rfl (D_X12_levels_0.at 22 rfl) ?_
  refine J_istore_n (lv' := [(1, vI (iorI v1 (1 * 2 ^ (Int.toNat v2)))), (0, vR 68), (2, vI v2)]) 37 rfl 1 (by decide) rfl (D_X12_levels_0.at 23 rfl) ?_
  refine J_iinc (v := (v2 + 1)) (lv' := [(2, vI (v2 + 1)), (1, vI (iorI v1 (1 * 2 ^ (Int.toNat v2)))), (0, vR 68)]) 40 rfl 2 2 1 rfl rfl (by decide) rfl (D_X12_levels_0.at 24 rfl) ?_
  refine J_goto 13 (D_X12_levels_0.at 25 rfl) (by decide) ?_
  exact J_sub (lv' := [(0, vR 68), (1, vI (iorI v1 (1 * 2 ^ (Int.toNat v2)))), (2, vI (v2 + 1))]) [2, 1, 0] rfl T
theorem c_X12_statementTold {w : Wd} {h : Hp} {K : Int → Hp → Prop} (T : (inR (h 68 42)) ∧ ((((h 68 42) ≠ 70) → (C_X12_takes w 72 h (fun r2 h3 => (r2 = 0 ∨ r2 = 1) → ((r2 = 0) → (C_X12_takes w 74 h3 (fun r5 h6 => (r5 = 0 ∨ r5 = 1) → ((r5 = 0) → (C_X12_takes w 75 h6 (fun r8 h9 => (r8 = 0 ∨ r8 = 1) → ((r8 = 0) → (C_X12_takes w 76 h9 (fun r11 h12 => (r11 = 0 ∨ r11 = 1) → ((r11 = 0) → (C_X12_takes w 80 h12 (fun r14 h15 => (r14 = 0 ∨ r14 = 1) → ((r14 = 0) → (C_X12_takes w 81 h15 (fun r17 h18 => (r17 = 0 ∨ r17 = 1) → ((r17 = 0) → (C_X12_takes w 82 h18 (fun r20 h21 => (r20 = 0 ∨ r20 = 1) → ((r20 = 0) → (C_X12_takes w 83 h21 (fun r23 h24 => (r23 = 0 ∨ r23 = 1) → ((r23 = 0) → (C_X12_asks w 84 h24 (fun _ h27 => C_X12_number w 0 50 h27 (fun r29 h30 => ∀ h32 : Hp, h32 = hu h30 97 2 r29 → L_X12_statementTold_215 w h32 K)))) ∧ (¬ (r23 = 0) → (C_X12_number w 1 99 h24 (fun r34 h35 => ∀ h37 : Hp, h37 = hu h35 97 1 r34 → L_X12_statementTold_215 w h37 K)))))) ∧ (¬ (r20 = 0) → (C_X12_number w 1 99 h21 (fun r40 h41 => ∀ h43 : Hp, h43 = hu h41 97 0 r40 → L_X12_statementTold_215 w h43 K)))))) ∧ (¬ (r17 = 0) → (C_X12_sumIsTold w 1 (h 68 2) h18 (fun _ h47 => L_X12_statementTold_215 w h47 K)))))) ∧ (¬ (r14 = 0) → (C_X12_sumIsTold w 0 (h 68 2) h15 (fun _ h51 => L_X12_statementTold_215 w h51 K)))))) ∧ (¬ (r11 = 0) → (C_X12_bankTold w (h 68 2) h12 (fun _ h55 => L_X12_statementTold_215 w h55 K)))))) ∧ (¬ (r8 = 0) → (C_X12_newNamed w 1 5 (h 68 2) h9 (fun _ h59 => L_X12_statementTold_215 w h59 K)))))) ∧ (¬ (r5 = 0) → (C_X12_newNamed w 0 5 (h 68 2) h6 (fun _ h63 => L_X12_statementTold_215 w h63 K)))))) ∧ (¬ (r2 = 0) → (C_X12_slopeTold w h3 (fun _ h67 => L_X12_statementTold_215 w h67 K)))))) ∧ (¬ ((h 68 42) ≠ 70) → (C_X12_fail w 5 (h 68 2) h (fun _ h71 => K 0 h71))))) : C_X12_statementTold w h K := by
  refine CGm_of2 (by decide) (by decide) trivial (Nat.le_of_ble_eq_true rfl) ?_
  refine J_aload_n 1 rfl 0 0 rfl ⟨by decide, by decide⟩ (D_X12_statementTold_0.at 0 rfl) ?_
  refine J_getI (z := (h 68 2)) 4 rfl fl_12_233 rfl ob_68 (Ob.lt ob_68) (D_X12_statementTold_0.at 1 rfl) rfl ?_
  refine J_istore_n (lv' := [(1, vI (h 68 2)), (0, vR 68)]) 5 rfl 1 (by decide) rfl (D_X12_statementTold_0.at 2 rfl) ?_
  refine J_aload_n 6 rfl 0 1 rfl ⟨by decide, by decide⟩ (D_X12_statementTold_0.at 3 rfl) ?_
  refine J_getI (z := (h 68 42)) 9 rfl fl_12_327 rfl ob_68 (Ob.lt ob_68) (D_X12_statementTold_0.at 4 rfl) rfl ?_
  refine J_bipush 11 rfl ⟨by decide, by decide⟩ (D_X12_statementTold_0.at 5 rfl) ?_
  obtain ⟨s1, T⟩ := T
  refine J_icmp_ne 14 rfl 21 s1 ⟨by decide, by decide⟩ (D_X12_statementTold_0.at 6 rfl) (by decide) (fun c73 => ?_) (fun c73 => ?_)
  · replace T := T.1 c73
    refine J_aload_n 22 rfl 0 1 rfl ⟨by decide, by decide⟩ (D_X12_statementTold_0.at 12 rfl) ?_
    refine J_aload_n 23 rfl 0 1 rfl ⟨by decide, by decide⟩ (D_X12_statementTold_0.at 13 rfl) ?_
    refine J_getF (ov := 72) (dd := 1004) 26 rfl fl_12_24 rfl (by decide) rfl ob_68 (Ob.lt ob_68) (D_X12_statementTold_0.at 14 rfl) ?_
    refine J_callV (d' := 3) (sr := fun z => [vI z]) (as := [vR 72]) (st := []) (o := 68) 29 rfl ok_X12_takes im_X12_takes se_X12_takes ml_12_254 isC_12 ob_68 (Ob.lt ob_68) rfl (by decide) ⟨Nat.le_refl _, Nat.le_refl _⟩ (Nat.le_of_ble_eq_true rfl) (D_X12_statementTold_0.at 15 rfl) (fun _ => rfl) T (fun r2 h3 T b4 => ?_)
    replace T := T b4
    refine J_if_eq 32 rfl 39 (inR_b b4) (D_X12_statementTold_0.at 16 rfl) (by decide) (fun c69 => ?_) (fun c69 => ?_)
    · replace T := T.1 c69
      refine J_aload_n 40 rfl 0 1 rfl ⟨by decide, by decide⟩ (D_X12_statementTold_0.at 20 rfl) ?_
      refine J_aload_n 41 rfl 0 1 rfl ⟨by decide, by decide⟩ (D_X12_statementTold_0.at 21 rfl) ?_
      refine J_getF (ov := 74) (dd := 1006) 44 rfl fl_12_30 rfl (by decide) rfl ob_68 (Ob.lt ob_68) (D_X12_statementTold_0.at 22 rfl) ?_
      refine J_callV (d' := 3) (sr := fun z => [vI z]) (as := [vR 74]) (st := []) (o := 68) 47 rfl ok_X12_takes im_X12_takes se_X12_takes ml_12_254 isC_12 ob_68 (Ob.lt ob_68) rfl (by decide) ⟨Nat.le_refl _, Nat.le_refl _⟩ (Nat.le_of_ble_eq_true rfl) (D_X12_statementTold_0.at 23 rfl) (fun _ => rfl) T (fun r5 h6 T b7 => ?_)
      replace T := T b7
      refine J_if_eq 50 rfl 60 (inR_b b7) (D_X12_statementTold_0.at 24 rfl) (by decide) (fun c65 => ?_) (fun c65 => ?_)
      · replace T := T.1 c65
        refine J_aload_n 61 rfl 0 1 rfl ⟨by decide, by decide⟩ (D_X12_statementTold_0.at 31 rfl) ?_
        refine J_aload_n 62 rfl 0 1 rfl ⟨by decide, by decide⟩ (D_X12_statementTold_0.at 32 rfl) ?_
        refine J_getF (ov := 75) (dd := 1007) 65 rfl fl_12_33 rfl (by decide) rfl ob_68 (Ob.lt ob_68) (D_X12_statementTold_0.at 33 rfl) ?_
        refine J_callV (d' := 3) (sr := fun z => [vI z]) (as := [vR 75]) (st := []) (o := 68) 68 rfl ok_X12_takes im_X12_takes se_X12_takes ml_12_254 isC_12 ob_68 (Ob.lt ob_68) rfl (by decide) ⟨Nat.le_refl _, Nat.le_refl _⟩ (Nat.le_of_ble_eq_true rfl) (D_X12_statementTold_0.at 34 rfl) (fun _ => rfl) T (fun r8 h9 T b10 => ?_)
        replace T := T b10
        refine J_if_eq 71 rfl 81 (inR_b b10) (D_X12_statementTold_0.at 35 rfl) (by decide) (fun c61 => ?_) (fun c61 => ?_)
        · replace T := T.1 c61
          refine J_aload_n 82 rfl 0 1 rfl ⟨by decide, by decide⟩ (D_X12_statementTold_0.at 42 rfl) ?_
          refine J_aload_n 83 rfl 0 1 rfl ⟨by decide, by decide⟩ (D_X12_statementTold_0.at 43 rfl) ?_
          refine J_getF (ov := 76) (dd := 1008) 86 rfl fl_12_36 rfl (by decide) rfl ob_68 (Ob.lt ob_68) (D_X12_statementTold_0.at 44 rfl) ?_
          refine J_callV (d' := 3) (sr := fun z => [vI z]) (as := [vR 76]) (st := []) (o := 68) 89 rfl ok_X12_takes im_X12_takes se_X12_takes ml_12_254 isC_12 ob_68 (Ob.lt ob_68) rfl (by decide) ⟨Nat.le_refl _, Nat.le_refl _⟩ (Nat.le_of_ble_eq_true rfl) (D_X12_statementTold_0.at 45 rfl) (fun _ => rfl) T (fun r11 h12 T b13 => ?_)
          replace T := T b13
          refine J_if_eq 92 rfl 100 (inR_b b13) (D_X12_statementTold_0.at 46 rfl) (by decide) (fun c57 => ?_) (fun c57 => ?_)
          · replace T := T.1 c57
            refine J_aload_n 101 rfl 0 1 rfl ⟨by decide, by decide⟩ (D_X12_statementTold_1.at 3 rfl) ?_
            refine J_aload_n 102 rfl 0 1 rfl ⟨by decide, by decide⟩ (D_X12_statementTold_1.at 4 rfl) ?_
            refine J_getF (ov := 80) (dd := 1012) 105 rfl fl_12_48 rfl (by decide) rfl ob_68 (Ob.lt ob_68) (D_X12_statementTold_1.at 5 rfl) ?_
            refine J_callV (d' := 3) (sr := fun z => [vI z]) (as := [vR 80]) (st := []) (o := 68) 108 rfl ok_X12_takes im_X12_takes se_X12_takes ml_12_254 isC_12 ob_68 (Ob.lt ob_68) rfl (by decide) ⟨Nat.le_refl _, Nat.le_refl _⟩ (Nat.le_of_ble_eq_true rfl) (D_X12_statementTold_1.at 6 rfl) (fun _ => rfl) T (fun r14 h15 T b16 => ?_)
            replace T := T b16
            refine J_if_eq 111 rfl 120 (inR_b b16) (D_X12_statementTold_1.at 7 rfl) (by decide) (fun c53 => ?_) (fun c53 => ?_)
            · replace T := T.1 c53
              refine J_aload_n 121 rfl 0 1 rfl ⟨by decide, by decide⟩ (D_X12_statementTold_1.at 13 rfl) ?_
              refine J_aload_n 122 rfl 0 1 rfl ⟨by decide, by decide⟩ (D_X12_statementTold_1.at 14 rfl) ?_
              refine J_getF (ov := 81) (dd := 1013) 125 rfl fl_12_51 rfl (by decide) rfl ob_68 (Ob.lt ob_68) (D_X12_statementTold_1.at 15 rfl) ?_
              refine J_callV (d' := 3) (sr := fun z => [vI z]) (as := [vR 81]) (st := []) (o := 68) 128 rfl ok_X12_takes im_X12_takes se_X12_takes ml_12_254 isC_12 ob_68 (Ob.lt ob_68) rfl (by decide) ⟨Nat.le_refl _, Nat.le_refl _⟩ (Nat.le_of_ble_eq_true rfl) (D_X12_statementTold_1.at 16 rfl) (fun _ => rfl) T (fun r17 h18 T b19 => ?_)
              replace T := T b19
              refine J_if_eq 131 rfl 140 (inR_b b19) (D_X12_statementTold_1.at 17 rfl) (by decide) (fun c49 => ?_) (fun c49 => ?_)
              · replace T := T.1 c49
                refine J_aload_n 141 rfl 0 1 rfl ⟨by decide, by decide⟩ (D_X12_statementTold_1.at 23 rfl) ?_
                refine J_aload_n 142 rfl 0 1 rfl ⟨by decide, by decide⟩ (D_X12_statementTold_1.at 24 rfl) ?_
                refine J_getF (ov := 82) (dd := 1014) 145 rfl fl_12_54 rfl (by decide) rfl ob_68 (Ob.lt ob_68) (D_X12_statementTold_1.at 25 rfl) ?_
                refine J_callV (d' := 3) (sr := fun z => [vI z]) (as := [vR 82]) (st := []) (o := 68) 148 rfl ok_X12_takes im_X12_takes se_X12_takes ml_12_254 isC_12 ob_68 (Ob.lt ob_68) rfl (by decide) ⟨Nat.le_refl _, Nat.le_refl _⟩ (Nat.le_of_ble_eq_true rfl) (D_X12_statementTold_1.at 26 rfl) (fun _ => rfl) T (fun r20 h21 T b22 => ?_)
                replace T := T b22
                refine J_if_eq 151 rfl 167 (inR_b b22) (D_X12_statementTold_1.at 27 rfl) (by decide) (fun c45 => ?_) (fun c45 => ?_)
                · replace T := T.1 c45
                  refine J_aload_n 168 rfl 0 1 rfl ⟨by decide, by decide⟩ (D_X12_statementTold_1.at 37 rfl) ?_
                  refine J_aload_n 169 rfl 0 1 rfl ⟨by decide, by decide⟩ (D_X12_statementTold_1.at 38 rfl) ?_
                  refine J_getF (ov := 83) (dd := 1015) 172 rfl fl_12_57 rfl (by decide) rfl ob_68 (Ob.lt ob_68) (D_X12_statementTold_1.at 39 rfl) ?_
                  refine J_callV (d' := 3) (sr := fun z => [vI z]) (as := [vR 83]) (st := []) (o := 68) 175 rfl ok_X12_takes im_X12_takes se_X12_takes ml_12_254 isC_12 ob_68 (Ob.lt ob_68) rfl (by decide) ⟨Nat.le_refl _, Nat.le_refl _⟩ (Nat.le_of_ble_eq_true rfl) (D_X12_statementTold_1.at 40 rfl) (fun _ => rfl) T (fun r23 h24 T b25 => ?_)
                  replace T := T b25
                  refine J_if_eq 178 rfl 194 (inR_b b25) (D_X12_statementTold_1.at 41 rfl) (by decide) (fun c39 => ?_) (fun c39 => ?_)
                  · replace T := T.1 c39
                    refine J_aload_n 195 rfl 0 1 rfl ⟨by decide, by decide⟩ (D_X12_statementTold_2.at 3 rfl) ?_
                    refine J_aload_n 196 rfl 0 1 rfl ⟨by decide, by decide⟩ (D_X12_statementTold_2.at 4 rfl) ?_
                    refine J_getF (ov := 84) (dd := 1016) 199 rfl fl_12_60 rfl (by decide) rfl ob_68 (Ob.lt ob_68) (D_X12_statementTold_2.at 5 rfl) ?_
                    refine J_callV (d' := 4) (sr := fun z => []) (as := [vR 84]) (st := []) (o := 68) 202 rfl ok_X12_asks im_X12_asks se_X12_asks ml_12_301 isC_12 ob_68 (Ob.lt ob_68) rfl (by decide) ⟨Nat.le_refl _, Nat.le_refl _⟩ (Nat.le_of_ble_eq_true rfl) (D_X12_statementTold_2.at 6 rfl) (fun _ => rfl) T (fun r26 h27 T b28 => ?_)
                    refine J_aload_n 203 rfl 0 1 rfl ⟨by decide, by decide⟩ (D_X12_statementTold_2.at 7 rfl) ?_
                    refine J_getF (ov := 97) (dd := 1029) 206 rfl fl_12_100 rfl (by decide) rfl ob_68 (Ob.lt ob_68) (D_X12_statementTold_2.at 8 rfl) ?_
                    refine J_iconst 207 rfl (D_X12_statementTold_2.at 9 rfl) ?_
                    refine J_aload_n 208 rfl 0 1 rfl ⟨by decide, by decide⟩ (D_X12_statementTold_2.at 10 rfl) ?_
                    refine J_iconst 209 rfl (D_X12_statementTold_2.at 11 rfl) ?_
                    refine J_bipush 211 rfl ⟨by decide, by decide⟩ (D_X12_statementTold_2.at 12 rfl) ?_
                    refine J_callV (d' := 2) (sr := fun z => [vI z, vI 2, vR 97]) (as := [vI 0, vI 50]) (st := [vI 2, vR 97]) (o := 68) 214 rfl ok_X12_number im_X12_number se_X12_number ml_12_297 isC_12 ob_68 (Ob.lt ob_68) rfl (by decide) ⟨Nat.le_refl _, Nat.le_refl _⟩ (Nat.le_of_ble_eq_true rfl) (D_X12_statementTold_2.at 13 rfl) (fun _ => rfl) T (fun r29 h30 T b31 => ?_)
                    refine J_iastH 215 rfl ar_97 (Ar.lt ar_97) ⟨by decide, by decide⟩ trivial (D_X12_statementTold_2.at 14 rfl) (fun h32 e33 => ?_)
                    replace T := T h32 e33
                    exact J_sub (lv' := [(0, vR 68)]) [1] rfl T
                  replace T := T.2 c39
                  refine J_aload_n 179 rfl 0 1 rfl ⟨by decide, by decide⟩ (D_X12_statementTold_1.at 42 rfl) ?_
                  refine J_getF (ov := 97) (dd := 1029) 182 rfl fl_12_100 rfl (by decide) rfl ob_68 (Ob.lt ob_68) (D_X12_statementTold_1.at 43 rfl) ?_
                  refine J_iconst 183 rfl (D_X12_statementTold_1.at 44 rfl) ?_
                  refine J_aload_n 184 rfl 0 1 rfl ⟨by decide, by decide⟩ (D_X12_statementTold_1.at 45 rfl) ?_
                  refine J_iconst 185 rfl (D_X12_statementTold_1.at 46 rfl) ?_
                  refine J_bipush 187 rfl ⟨by decide, by decide⟩ (D_X12_statementTold_1.at 47 rfl) ?_
                  refine J_callV (d' := 2) (sr := fun z => [vI z, vI 1, vR 97]) (as := [vI 1, vI 99]) (st := [vI 1, vR 97]) (o := 68) 190 rfl ok_X12_number im_X12_number se_X12_number ml_12_297 isC_12 ob_68 (Ob.lt ob_68) rfl (by decide) ⟨Nat.le_refl _, Nat.le_refl _⟩ (Nat.le_of_ble_eq_true rfl) (D_X12_statementTold_2.at 0 rfl) (fun _ => rfl) T (fun r34 h35 T b36 => ?_)
                  refine J_iastH 191 rfl ar_97 (Ar.lt ar_97) ⟨by decide, by decide⟩ trivial (D_X12_statementTold_2.at 1 rfl) (fun h37 e38 => ?_)
                  replace T := T h37 e38
                  refine J_goto 215 (D_X12_statementTold_2.at 2 rfl) (by decide) ?_
                  exact J_sub (lv' := [(0, vR 68)]) [1] rfl T
                replace T := T.2 c45
                refine J_aload_n 152 rfl 0 1 rfl ⟨by decide, by decide⟩ (D_X12_statementTold_1.at 28 rfl) ?_
                refine J_getF (ov := 97) (dd := 1029) 155 rfl fl_12_100 rfl (by decide) rfl ob_68 (Ob.lt ob_68) (D_X12_statementTold_1.at 29 rfl) ?_
                refine J_iconst 156 rfl (D_X12_statementTold_1.at 30 rfl) ?_
                refine J_aload_n 157 rfl 0 1 rfl ⟨by decide, by decide⟩ (D_X12_statementTold_1.at 31 rfl) ?_
                refine J_iconst 158 rfl (D_X12_statementTold_1.at 32 rfl) ?_
                refine J_bipush 160 rfl ⟨by decide, by decide⟩ (D_X12_statementTold_1.at 33 rfl) ?_
                refine J_callV (d' := 2) (sr := fun z => [vI z, vI 0, vR 97]) (as := [vI 1, vI 99]) (st := [vI 0, vR 97]) (o := 68) 163 rfl ok_X12_number im_X12_number se_X12_number ml_12_297 isC_12 ob_68 (Ob.lt ob_68) rfl (by decide) ⟨Nat.le_refl _, Nat.le_refl _⟩ (Nat.le_of_ble_eq_true rfl) (D_X12_statementTold_1.at 34 rfl) (fun _ => rfl) T (fun r40 h41 T b42 => ?_)
                refine J_iastH 164 rfl ar_97 (Ar.lt ar_97) ⟨by decide, by decide⟩ trivial (D_X12_statementTold_1.at 35 rfl) (fun h43 e44 => ?_)
                replace T := T h43 e44
                refine J_goto 215 (D_X12_statementTold_1.at 36 rfl) (by decide) ?_
                exact J_sub (lv' := [(0, vR 68)]) [1] rfl T
              replace T := T.2 c49
              refine J_aload_n 132 rfl 0 1 rfl ⟨by decide, by decide⟩ (D_X12_statementTold_1.at 18 rfl) ?_
              refine J_iconst 133 rfl (D_X12_statementTold_1.at 19 rfl) ?_
              refine J_iload_n 134 rfl 1 0 rfl (D_X12_statementTold_1.at 20 rfl) ?_
              refine J_callV (d' := 7) (sr := fun z => []) (as := [vI 1, vI (h 68 2)]) (st := []) (o := 68) 137 rfl ok_X12_sumIsTold im_X12_sumIsTold se_X12_sumIsTold ml_12_341 isC_12 ob_68 (Ob.lt ob_68) rfl (by decide) ⟨Nat.le_refl _, Nat.le_refl _⟩ (Nat.le_of_ble_eq_true rfl) (D_X12_statementTold_1.at 21 rfl) (fun _ => rfl) T (fun r46 h47 T b48 => ?_)
              refine J_goto 215 (D_X12_statementTold_1.at 22 rfl) (by decide) ?_
              exact J_sub (lv' := [(0, vR 68)]) [1] rfl T
            replace T := T.2 c53
            refine J_aload_n 112 rfl 0 1 rfl ⟨by decide, by decide⟩ (D_X12_statementTold_1.at 8 rfl) ?_
            refine J_iconst 113 rfl (D_X12_statementTold_1.at 9 rfl) ?_
            refine J_iload_n 114 rfl 1 0 rfl (D_X12_statementTold_1.at 10 rfl) ?_
            refine J_callV (d' := 7) (sr := fun z => []) (as := [vI 0, vI (h 68 2)]) (st := []) (o := 68) 117 rfl ok_X12_sumIsTold im_X12_sumIsTold se_X12_sumIsTold ml_12_341 isC_12 ob_68 (Ob.lt ob_68) rfl (by decide) ⟨Nat.le_refl _, Nat.le_refl _⟩ (Nat.le_of_ble_eq_true rfl) (D_X12_statementTold_1.at 11 rfl) (fun _ => rfl) T (fun r50 h51 T b52 => ?_)
            refine J_goto 215 (D_X12_statementTold_1.at 12 rfl) (by decide) ?_
            exact J_sub (lv' := [(0, vR 68)]) [1] rfl T
          replace T := T.2 c57
          refine J_aload_n 93 rfl 0 1 rfl ⟨by decide, by decide⟩ (D_X12_statementTold_0.at 47 rfl) ?_
          refine J_iload_n 94 rfl 1 0 rfl (D_X12_statementTold_1.at 0 rfl) ?_
          refine J_callV (d' := 6) (sr := fun z => []) (as := [vI (h 68 2)]) (st := []) (o := 68) 97 rfl ok_X12_bankTold im_X12_bankTold se_X12_bankTold ml_12_337 isC_12 ob_68 (Ob.lt ob_68) rfl (by decide) ⟨Nat.le_refl _, Nat.le_refl _⟩ (Nat.le_of_ble_eq_true rfl) (D_X12_statementTold_1.at 1 rfl) (fun _ => rfl) T (fun r54 h55 T b56 => ?_)
          refine J_goto 215 (D_X12_statementTold_1.at 2 rfl) (by decide) ?_
          exact J_sub (lv' := [(0, vR 68)]) [1] rfl T
        replace T := T.2 c61
        refine J_aload_n 72 rfl 0 1 rfl ⟨by decide, by decide⟩ (D_X12_statementTold_0.at 36 rfl) ?_
        refine J_iconst 73 rfl (D_X12_statementTold_0.at 37 rfl) ?_
        refine J_iconst 74 rfl (D_X12_statementTold_0.at 38 rfl) ?_
        refine J_iload_n 75 rfl 1 0 rfl (D_X12_statementTold_0.at 39 rfl) ?_
        refine J_callV (d' := 6) (sr := fun z => []) (as := [vI 1, vI 5, vI (h 68 2)]) (st := []) (o := 68) 78 rfl ok_X12_newNamed im_X12_newNamed se_X12_newNamed ml_12_333 isC_12 ob_68 (Ob.lt ob_68) rfl (by decide) ⟨Nat.le_refl _, Nat.le_refl _⟩ (Nat.le_of_ble_eq_true rfl) (D_X12_statementTold_0.at 40 rfl) (fun _ => rfl) T (fun r58 h59 T b60 => ?_)
        refine J_goto 215 (D_X12_statementTold_0.at 41 rfl) (by decide) ?_
        exact J_sub (lv' := [(0, vR 68)]) [1] rfl T
      replace T := T.2 c65
      refine J_aload_n 51 rfl 0 1 rfl ⟨by decide, by decide⟩ (D_X12_statementTold_0.at 25 rfl) ?_
      refine J_iconst 52 rfl (D_X12_statementTold_0.at 26 rfl) ?_
      refine J_iconst 53 rfl (D_X12_statementTold_0.at 27 rfl) ?_
      refine J_iload_n 54 rfl 1 0 rfl (D_X12_statementTold_0.at 28 rfl) ?_
      refine J_callV (d' := 6) (sr := fun z => []) (as := [vI 0, vI 5, vI (h 68 2)]) (st := []) (o := 68) 57 rfl ok_X12_newNamed im_X12_newNamed se_X12_newNamed ml_12_333 isC_12 ob_68 (Ob.lt ob_68) rfl (by decide) ⟨Nat.le_refl _, Nat.le_refl _⟩ (Nat.le_of_ble_eq_true rfl) (D_X12_statementTold_0.at 29 rfl) (fun _ => rfl) T (fun r62 h63 T b64 => ?_)
      refine J_goto 215 (D_X12_statementTold_0.at 30 rfl) (by decide) ?_
      exact J_sub (lv' := [(0, vR 68)]) [1] rfl T
    replace T := T.2 c69
    refine J_aload_n 33 rfl 0 1 rfl ⟨by decide, by decide⟩ (D_X12_statementTold_0.at 17 rfl) ?_
    refine J_callV (d' := 5) (sr := fun z => []) (as := []) (st := []) (o := 68) 36 rfl ok_X12_slopeTold im_X12_slopeTold se_X12_slopeTold ml_12_330 isC_12 ob_68 (Ob.lt ob_68) rfl (by decide) ⟨Nat.le_refl _, Nat.le_refl _⟩ (Nat.le_of_ble_eq_true rfl) (D_X12_statementTold_0.at 18 rfl) (fun _ => rfl) T (fun r66 h67 T b68 => ?_)
    refine J_goto 215 (D_X12_statementTold_0.at 19 rfl) (by decide) ?_
    exact J_sub (lv' := [(0, vR 68)]) [1] rfl T
  replace T := T.2 c73
  refine J_aload_n 15 rfl 0 1 rfl ⟨by decide, by decide⟩ (D_X12_statementTold_0.at 7 rfl) ?_
  refine J_iconst 16 rfl (D_X12_statementTold_0.at 8 rfl) ?_
  refine J_iload_n 17 rfl 1 0 rfl (D_X12_statementTold_0.at 9 rfl) ?_
  refine J_callV (d' := 1) (sr := fun z => []) (as := [vI 5, vI (h 68 2)]) (st := []) (o := 68) 20 rfl ok_X12_fail im_X12_fail se_X12_fail ml_12_257 isC_12 ob_68 (Ob.lt ob_68) rfl (by decide) ⟨Nat.le_refl _, Nat.le_refl _⟩ (Nat.le_of_ble_eq_true rfl) (D_X12_statementTold_0.at 10 rfl) (fun _ => rfl) T (fun r70 h71 T b72 => ?_)
  exact J_vret rfl (D_X12_statementTold_0.at 11 rfl) T
theorem l_X12_statementTold_215 {w : Wd} {h : Hp} {K : Int → Hp → Prop} (T : C_X12_asksSign w 59 h (fun _ h75 => ∀ h77 : Hp, h77 = hu h75 68 42 ((h75 68 42) + 1) → K 0 h77)) : L_X12_statementTold_215 w h K := by
  unfold L_X12_statementTold_215
  refine J_aload_n 216 rfl 0 0 rfl ⟨by decide, by decide⟩ (D_X12_statementTold_2.at 15 rfl) ?_
  refine J_bipush 218 rfl ⟨by decide, by decide⟩ (D_X12_statementTold_2.at 16 rfl) ?_
  refine J_callV (d' := 3) (sr := fun z => []) (as := [vI 59]) (st := []) (o := 68) 221 rfl ok_X12_asksSign im_X12_asksSign se_X12_asksSign ml_12_344 isC_12 ob_68 (Ob.lt ob_68) rfl (by decide) ⟨Nat.le_refl _, Nat.le_refl _⟩ (Nat.le_of_ble_eq_true rfl) (D_X12_statementTold_2.at 17 rfl) (fun _ => rfl) T (fun r74 h75 T b76 => ?_)
  refine J_aload_n 222 rfl 0 0 rfl ⟨by decide, by decide⟩ (D_X12_statementTold_2.at 18 rfl) ?_
  refine J_dup 223 rfl rfl (D_X12_statementTold_2.at 19 rfl) ?_
  refine J_getI (z := (h75 68 42)) 226 rfl fl_12_327 rfl ob_68 (Ob.lt ob_68) (D_X12_statementTold_2.at 20 rfl) rfl ?_
  refine J_iconst 227 rfl (D_X12_statementTold_2.at 21 rfl) ?_
  refine J_iadd 228 rfl (D_X12_statementTold_2.at 22 rfl) ?_
  refine J_putI 231 rfl fl_12_327 rfl rfl ob_68 (Ob.lt ob_68) (D_X12_statementTold_2.at 23 rfl) (fun h77 e78 => ?_)
  replace T := T h77 e78
  exact J_vret rfl (D_X12_statementTold_2.at 24 rfl) T
theorem c_X12_flood {w : Wd} {a1 : Int} {h : Hp} {K : Int → Hp → Prop} (T : (inR (h 68 36)) ∧ ((((h 68 36) = 0) → (∀ h2 : Hp, h2 = hu h 70 2 ((h 70 2) + 1) → K (-1) h2)) ∧ (¬ ((h 68 36) = 0) → ((inR a1) ∧ ((inL a1) ∧ (((a1 < 0) → (∀ h6 : Hp, h6 = hu h 70 2 ((h 70 2) + 1) → K (-1) h6)) ∧ (¬ (a1 < 0) → ((inL a1) ∧ (((a1 > 9) → (∀ h9 : Hp, h9 = hu h 70 2 ((h 70 2) + 1) → K (-1) h9)) ∧ (¬ (a1 > 9) → ((inR (h 104 0)) ∧ ((((h 104 0) ≠ 999) → (C_X12_keeps w h (fun _ h13 => C_X12_yearGoes w a1 h13 (fun r15 h16 => K r15 h16)))) ∧ (¬ ((h 104 0) ≠ 999) → (∀ h18 : Hp, h18 = hu h 70 2 ((h 70 2) + 1) → K (-1) h18)))))))))))))) : C_X12_flood w a1 h K := by
  refine CGm_of2 (by decide) (by decide) trivial (Nat.le_of_ble_eq_true rfl) ?_
  refine J_aload_n 1 rfl 0 0 rfl ⟨by decide, by decide⟩ (D_X12_flood_0.at 0 rfl) ?_
  refine J_getI (z := (h 68 36)) 4 rfl fl_12_356 rfl ob_68 (Ob.lt ob_68) (D_X12_flood_0.at 1 rfl) rfl ?_
  obtain ⟨s1, T⟩ := T
  refine J_if_eq 7 rfl 26 s1 (D_X12_flood_0.at 2 rfl) (by decide) (fun c23 => ?_) (fun c23 => ?_)
  · replace T := T.1 c23
    refine J_aload_n 27 rfl 0 0 rfl ⟨by decide, by decide⟩ (D_X12_flood_0.at 12 rfl) ?_
    refine J_getF (ov := 70) (dd := 1002) 30 rfl fl_12_17 rfl (by decide) rfl ob_68 (Ob.lt ob_68) (D_X12_flood_0.at 13 rfl) ?_
    refine J_iconst 31 rfl (D_X12_flood_0.at 14 rfl) ?_
    refine J_dup2 32 rfl rfl rfl (D_X12_flood_0.at 15 rfl) ?_
    refine J_iald 33 rfl ar_70 (Ar.lt ar_70) ⟨by decide, by decide⟩ (D_X12_flood_0.at 16 rfl) ?_
    refine J_iconst 34 rfl (D_X12_flood_0.at 17 rfl) ?_
    refine J_iadd 35 rfl (D_X12_flood_0.at 18 rfl) ?_
    refine J_iastH 36 rfl ar_70 (Ar.lt ar_70) ⟨by decide, by decide⟩ trivial (D_X12_flood_0.at 19 rfl) (fun h2 e3 => ?_)
    replace T := T h2 e3
    refine J_iconst 37 rfl (D_X12_flood_0.at 20 rfl) ?_
    exact J_iret rfl (D_X12_flood_0.at 21 rfl) T
  replace T := T.2 c23
  refine J_iload_n 8 rfl 1 1 rfl (D_X12_flood_0.at 3 rfl) ?_
  refine J_callS (d' := 2) (K1 := fun z h0 => rok (some .boolean) z → JG w true m_X12_flood 8 NT NT 11 [(0, vR 68), (1, vI a1)] [vI z] h0 _) (sr := fun z => [vI z]) (as := [vI a1]) (st := []) 11 rfl ok_X12_isLevel sm_X12_isLevel ml_12_514 rfl (by decide) ⟨Nat.le_refl _, Nat.le_refl _⟩ (Nat.le_of_ble_eq_true rfl) (D_X12_flood_0.at 4 rfl) (fun _ => rfl) (CGm_of2 (by decide) (by decide) trivial (Nat.le_of_ble_eq_true rfl) ?_) (fun _ _ kq hb => kq hb)
  refine J_iload_n 1 rfl 0 0 rfl (D_X12_isLevel_0.at 0 rfl) ?_
  obtain ⟨s4, T⟩ := T
  refine J_i2l 2 rfl s4 (D_X12_isLevel_0.at 1 rfl) ?_
  refine J_lconst (z := 0) 3 rfl rfl (D_X12_isLevel_0.at 2 rfl) ?_
  refine J_ldc2 6 rfl ko_12_425 (D_X12_isLevel_0.at 3 rfl) ?_
  refine J_callS (d' := 1) (K1 := fun z h0 => rok (some .boolean) z → JG w true m_X12_isLevel 2 NT NT 9 [(0, vI a1)] [vI z] h0 _) (sr := fun z => [vI z]) (as := [vL a1, vL 0, vL 9]) (st := []) 9 rfl ok_X12_isIn sm_X12_isIn ml_12_267 rfl (by decide) ⟨Nat.le_refl _, Nat.le_refl _⟩ (Nat.le_of_ble_eq_true rfl) (D_X12_isLevel_0.at 4 rfl) (fun _ => rfl) (CGm_of2 (by decide) (by decide) trivial (Nat.le_of_ble_eq_true rfl) ?_) (fun _ _ kq hb => kq hb)
  refine J_lload_n 1 rfl 0 0 rfl (D_X12_isIn_0.at 0 rfl) ?_
  refine J_lload_n 2 rfl 2 1 rfl (D_X12_isIn_0.at 1 rfl) ?_
  obtain ⟨s5, T⟩ := T
  refine J_lcmp_lt 6 rfl 17 s5 ⟨by decide, by decide⟩ (D_X12_isIn_0.at 2 rfl) (D_X12_isIn_0.at 3 rfl) (by decide) (fun c22 => ?_) (fun c22 => ?_)
  · replace T := T.1 c22
    refine J_iconst 18 rfl (D_X12_isIn_0.at 10 rfl) ?_
    refine J_zret rfl (Or.inl rfl) (D_X12_isIn_0.at 11 rfl) (fun _ => ?_)
    refine J_zret rfl (Or.inl rfl) (D_X12_isLevel_0.at 5 rfl) (fun _ => ?_)
    refine J_if_eq 14 rfl 26 ⟨by decide, by decide⟩ (D_X12_flood_0.at 5 rfl) (by decide) (fun _ => ?_) (fun c => absurd (by decide) c)
    refine J_aload_n 27 rfl 0 0 rfl ⟨by decide, by decide⟩ (D_X12_flood_0.at 12 rfl) ?_
    refine J_getF (ov := 70) (dd := 1002) 30 rfl fl_12_17 rfl (by decide) rfl ob_68 (Ob.lt ob_68) (D_X12_flood_0.at 13 rfl) ?_
    refine J_iconst 31 rfl (D_X12_flood_0.at 14 rfl) ?_
    refine J_dup2 32 rfl rfl rfl (D_X12_flood_0.at 15 rfl) ?_
    refine J_iald 33 rfl ar_70 (Ar.lt ar_70) ⟨by decide, by decide⟩ (D_X12_flood_0.at 16 rfl) ?_
    refine J_iconst 34 rfl (D_X12_flood_0.at 17 rfl) ?_
    refine J_iadd 35 rfl (D_X12_flood_0.at 18 rfl) ?_
    refine J_iastH 36 rfl ar_70 (Ar.lt ar_70) ⟨by decide, by decide⟩ trivial (D_X12_flood_0.at 19 rfl) (fun h6 e7 => ?_)
    replace T := T h6 e7
    refine J_iconst 37 rfl (D_X12_flood_0.at 20 rfl) ?_
    exact J_iret rfl (D_X12_flood_0.at 21 rfl) T
  replace T := T.2 c22
  refine J_lload_n 7 rfl 0 0 rfl (D_X12_isIn_0.at 4 rfl) ?_
  refine J_lload 9 rfl 4 2 rfl (D_X12_isIn_0.at 5 rfl) ?_
  obtain ⟨s8, T⟩ := T
  refine J_lcmp_gt 13 rfl 17 s8 ⟨by decide, by decide⟩ (D_X12_isIn_0.at 6 rfl) (D_X12_isIn_0.at 7 rfl) (by decide) (fun c21 => ?_) (fun c21 => ?_)
  · replace T := T.1 c21
    refine J_iconst 18 rfl (D_X12_isIn_0.at 10 rfl) ?_
    refine J_zret rfl (Or.inl rfl) (D_X12_isIn_0.at 11 rfl) (fun _ => ?_)
    refine J_zret rfl (Or.inl rfl) (D_X12_isLevel_0.at 5 rfl) (fun _ => ?_)
    refine J_if_eq 14 rfl 26 ⟨by decide, by decide⟩ (D_X12_flood_0.at 5 rfl) (by decide) (fun _ => ?_) (fun c => absurd (by decide) c)
    refine J_aload_n 27 rfl 0 0 rfl ⟨by decide, by decide⟩ (D_X12_flood_0.at 12 rfl) ?_
    refine J_getF (ov := 70) (dd := 1002) 30 rfl fl_12_17 rfl (by decide) rfl ob_68 (Ob.lt ob_68) (D_X12_flood_0.at 13 rfl) ?_
    refine J_iconst 31 rfl (D_X12_flood_0.at 14 rfl) ?_
    refine J_dup2 32 rfl rfl rfl (D_X12_flood_0.at 15 rfl) ?_
    refine J_iald 33 rfl ar_70 (Ar.lt ar_70) ⟨by decide, by decide⟩ (D_X12_flood_0.at 16 rfl) ?_
    refine J_iconst 34 rfl (D_X12_flood_0.at 17 rfl) ?_
    refine J_iadd 35 rfl (D_X12_flood_0.at 18 rfl) ?_
    refine J_iastH 36 rfl ar_70 (Ar.lt ar_70) ⟨by decide, by decide⟩ trivial (D_X12_flood_0.at 19 rfl) (fun h9 e10 => ?_)
    replace T := T h9 e10
    refine J_iconst 37 rfl (D_X12_flood_0.at 20 rfl) ?_
    exact J_iret rfl (D_X12_flood_0.at 21 rfl) T
  replace T := T.2 c21
  refine J_iconst 14 rfl (D_X12_isIn_0.at 8 rfl) ?_
  refine J_goto 18 (D_X12_isIn_0.at 9 rfl) (by decide) ?_
  refine J_zret rfl (Or.inr rfl) (D_X12_isIn_0.at 11 rfl) (fun _ => ?_)
  refine J_zret rfl (Or.inr rfl) (D_X12_isLevel_0.at 5 rfl) (fun _ => ?_)
  refine J_if_eq 14 rfl 26 ⟨by decide, by decide⟩ (D_X12_flood_0.at 5 rfl) (by decide) (fun c => absurd c (by decide)) (fun _ => ?_)
  refine J_aload_n 15 rfl 0 0 rfl ⟨by decide, by decide⟩ (D_X12_flood_0.at 6 rfl) ?_
  refine J_getF (ov := 104) (dd := 1036) 18 rfl fl_12_121 rfl (by decide) rfl ob_68 (Ob.lt ob_68) (D_X12_flood_0.at 7 rfl) ?_
  refine J_iconst 19 rfl (D_X12_flood_0.at 8 rfl) ?_
  refine J_iald 20 rfl ar_104 (Ar.lt ar_104) ⟨by decide, by decide⟩ (D_X12_flood_0.at 9 rfl) ?_
  refine J_sipush 23 rfl ⟨by decide, by decide⟩ (D_X12_flood_0.at 10 rfl) ?_
  obtain ⟨s11, T⟩ := T
  refine J_icmp_ne 26 rfl 38 s11 ⟨by decide, by decide⟩ (D_X12_flood_0.at 11 rfl) (by decide) (fun c20 => ?_) (fun c20 => ?_)
  · replace T := T.1 c20
    refine J_aload_n 39 rfl 0 0 rfl ⟨by decide, by decide⟩ (D_X12_flood_0.at 22 rfl) ?_
    refine J_callV (d' := 1) (sr := fun z => []) (as := []) (st := []) (o := 68) 42 rfl ok_X12_keeps im_X12_keeps se_X12_keeps ml_12_529 isC_12 ob_68 (Ob.lt ob_68) rfl (by decide) ⟨Nat.le_refl _, Nat.le_refl _⟩ (Nat.le_of_ble_eq_true rfl) (D_X12_flood_0.at 23 rfl) (fun _ => rfl) T (fun r12 h13 T b14 => ?_)
    refine J_aload_n 43 rfl 0 0 rfl ⟨by decide, by decide⟩ (D_X12_flood_0.at 24 rfl) ?_
    refine J_iload_n 44 rfl 1 1 rfl (D_X12_flood_0.at 25 rfl) ?_
    refine J_callV (d' := 7) (sr := fun z => [vI z]) (as := [vI a1]) (st := []) (o := 68) 47 rfl ok_X12_yearGoes im_X12_yearGoes se_X12_yearGoes ml_12_532 isC_12 ob_68 (Ob.lt ob_68) rfl (by decide) ⟨Nat.le_refl _, Nat.le_refl _⟩ (Nat.le_of_ble_eq_true rfl) (D_X12_flood_0.at 26 rfl) (fun _ => rfl) T (fun r15 h16 T b17 => ?_)
    exact J_iret rfl (D_X12_flood_0.at 27 rfl) T
  replace T := T.2 c20
  refine J_aload_n 27 rfl 0 0 rfl ⟨by decide, by decide⟩ (D_X12_flood_0.at 12 rfl) ?_
  refine J_getF (ov := 70) (dd := 1002) 30 rfl fl_12_17 rfl (by decide) rfl ob_68 (Ob.lt ob_68) (D_X12_flood_0.at 13 rfl) ?_
  refine J_iconst 31 rfl (D_X12_flood_0.at 14 rfl) ?_
  refine J_dup2 32 rfl rfl rfl (D_X12_flood_0.at 15 rfl) ?_
  refine J_iald 33 rfl ar_70 (Ar.lt ar_70) ⟨by decide, by decide⟩ (D_X12_flood_0.at 16 rfl) ?_
  refine J_iconst 34 rfl (D_X12_flood_0.at 17 rfl) ?_
  refine J_iadd 35 rfl (D_X12_flood_0.at 18 rfl) ?_
  refine J_iastH 36 rfl ar_70 (Ar.lt ar_70) ⟨by decide, by decide⟩ trivial (D_X12_flood_0.at 19 rfl) (fun h18 e19 => ?_)
  replace T := T h18 e19
  refine J_iconst 37 rfl (D_X12_flood_0.at 20 rfl) ?_
  exact J_iret rfl (D_X12_flood_0.at 21 rfl) T
theorem c_X12_years {w : Wd} {a1 : Int} {h : Hp} {K : Int → Hp → Prop} (T : (inR (h 68 36)) ∧ ((((h 68 36) = 0) → (∀ h2 : Hp, h2 = hu h 70 2 ((h 70 2) + 1) → K (-1) h2)) ∧ (¬ ((h 68 36) = 0) → ((inR a1) ∧ ((inL a1) ∧ (((a1 < 1) → (∀ h6 : Hp, h6 = hu h 70 2 ((h 70 2) + 1) → K (-1) h6)) ∧ (¬ (a1 < 1) → ((inL a1) ∧ (((a1 > 50) → (∀ h9 : Hp, h9 = hu h 70 2 ((h 70 2) + 1) → K (-1) h9)) ∧ (¬ (a1 > 50) → ((inR ((h 104 0) + a1)) ∧ (((((h 104 0) + a1) ≤ 999) → (C_X12_keeps w h (fun _ h13 => L_X12_years_53 w a1 0 0 h13 K))) ∧ (¬ (((h 104 0) + a1) ≤ 999) → (∀ h15 : Hp, h15 = hu h 70 2 ((h 70 2) + 1) → K (-1) h15)))))))))))))) : C_X12_years w a1 h K := by
  refine CGm_of2 (by decide) (by decide) trivial (Nat.le_of_ble_eq_true rfl) ?_
  refine J_aload_n 1 rfl 0 0 rfl ⟨by decide, by decide⟩ (D_X12_years_0.at 0 rfl) ?_
  refine J_getI (z := (h 68 36)) 4 rfl fl_12_356 rfl ob_68 (Ob.lt ob_68) (D_X12_years_0.at 1 rfl) rfl ?_
  obtain ⟨s1, T⟩ := T
  refine J_if_eq 7 rfl 33 s1 (D_X12_years_0.at 2 rfl) (by decide) (fun c20 => ?_) (fun c20 => ?_)
  · replace T := T.1 c20
    refine J_aload_n 34 rfl 0 0 rfl ⟨by decide, by decide⟩ (D_X12_years_0.at 17 rfl) ?_
    refine J_getF (ov := 70) (dd := 1002) 37 rfl fl_12_17 rfl (by decide) rfl ob_68 (Ob.lt ob_68) (D_X12_years_0.at 18 rfl) ?_
    refine J_iconst 38 rfl (D_X12_years_0.at 19 rfl) ?_
    refine J_dup2 39 rfl rfl rfl (D_X12_years_0.at 20 rfl) ?_
    refine J_iald 40 rfl ar_70 (Ar.lt ar_70) ⟨by decide, by decide⟩ (D_X12_years_0.at 21 rfl) ?_
    refine J_iconst 41 rfl (D_X12_years_0.at 22 rfl) ?_
    refine J_iadd 42 rfl (D_X12_years_0.at 23 rfl) ?_
    refine J_iastH 43 rfl ar_70 (Ar.lt ar_70) ⟨by decide, by decide⟩ trivial (D_X12_years_0.at 24 rfl) (fun h2 e3 => ?_)
    replace T := T h2 e3
    refine J_iconst 44 rfl (D_X12_years_0.at 25 rfl) ?_
    exact J_iret rfl (D_X12_years_0.at 26 rfl) T
  replace T := T.2 c20
  refine J_iload_n 8 rfl 1 1 rfl (D_X12_years_0.at 3 rfl) ?_
  obtain ⟨s4, T⟩ := T
  refine J_i2l 9 rfl s4 (D_X12_years_0.at 4 rfl) ?_
  refine J_lconst (z := 1) 10 rfl rfl (D_X12_years_0.at 5 rfl) ?_
  refine J_ldc2 13 rfl ko_12_543 (D_X12_years_0.at 6 rfl) ?_
  refine J_callS (d' := 1) (K1 := fun z h0 => rok (some .boolean) z → JG w true m_X12_years 8 NT NT 16 [(0, vR 68), (1, vI a1)] [vI z] h0 _) (sr := fun z => [vI z]) (as := [vL a1, vL 1, vL 50]) (st := []) 16 rfl ok_X12_isIn sm_X12_isIn ml_12_267 rfl (by decide) ⟨Nat.le_refl _, Nat.le_refl _⟩ (Nat.le_of_ble_eq_true rfl) (D_X12_years_0.at 7 rfl) (fun _ => rfl) (CGm_of2 (by decide) (by decide) trivial (Nat.le_of_ble_eq_true rfl) ?_) (fun _ _ kq hb => kq hb)
  refine J_lload_n 1 rfl 0 0 rfl (D_X12_isIn_0.at 0 rfl) ?_
  refine J_lload_n 2 rfl 2 1 rfl (D_X12_isIn_0.at 1 rfl) ?_
  obtain ⟨s5, T⟩ := T
  refine J_lcmp_lt 6 rfl 17 s5 ⟨by decide, by decide⟩ (D_X12_isIn_0.at 2 rfl) (D_X12_isIn_0.at 3 rfl) (by decide) (fun c19 => ?_) (fun c19 => ?_)
  · replace T := T.1 c19
    refine J_iconst 18 rfl (D_X12_isIn_0.at 10 rfl) ?_
    refine J_zret rfl (Or.inl rfl) (D_X12_isIn_0.at 11 rfl) (fun _ => ?_)
    refine J_if_eq 19 rfl 33 ⟨by decide, by decide⟩ (D_X12_years_0.at 8 rfl) (by decide) (fun _ => ?_) (fun c => absurd (by decide) c)
    refine J_aload_n 34 rfl 0 0 rfl ⟨by decide, by decide⟩ (D_X12_years_0.at 17 rfl) ?_
    refine J_getF (ov := 70) (dd := 1002) 37 rfl fl_12_17 rfl (by decide) rfl ob_68 (Ob.lt ob_68) (D_X12_years_0.at 18 rfl) ?_
    refine J_iconst 38 rfl (D_X12_years_0.at 19 rfl) ?_
    refine J_dup2 39 rfl rfl rfl (D_X12_years_0.at 20 rfl) ?_
    refine J_iald 40 rfl ar_70 (Ar.lt ar_70) ⟨by decide, by decide⟩ (D_X12_years_0.at 21 rfl) ?_
    refine J_iconst 41 rfl (D_X12_years_0.at 22 rfl) ?_
    refine J_iadd 42 rfl (D_X12_years_0.at 23 rfl) ?_
    refine J_iastH 43 rfl ar_70 (Ar.lt ar_70) ⟨by decide, by decide⟩ trivial (D_X12_years_0.at 24 rfl) (fun h6 e7 => ?_)
    replace T := T h6 e7
    refine J_iconst 44 rfl (D_X12_years_0.at 25 rfl) ?_
    exact J_iret rfl (D_X12_years_0.at 26 rfl) T
  replace T := T.2 c19
  refine J_lload_n 7 rfl 0 0 rfl (D_X12_isIn_0.at 4 rfl) ?_
  refine J_lload 9 rfl 4 2 rfl (D_X12_isIn_0.at 5 rfl) ?_
  obtain ⟨s8, T⟩ := T
  refine J_lcmp_gt 13 rfl 17 s8 ⟨by decide, by decide⟩ (D_X12_isIn_0.at 6 rfl) (D_X12_isIn_0.at 7 rfl) (by decide) (fun c18 => ?_) (fun c18 => ?_)
  · replace T := T.1 c18
    refine J_iconst 18 rfl (D_X12_isIn_0.at 10 rfl) ?_
    refine J_zret rfl (Or.inl rfl) (D_X12_isIn_0.at 11 rfl) (fun _ => ?_)
    refine J_if_eq 19 rfl 33 ⟨by decide, by decide⟩ (D_X12_years_0.at 8 rfl) (by decide) (fun _ => ?_) (fun c => absurd (by decide) c)
    refine J_aload_n 34 rfl 0 0 rfl ⟨by decide, by decide⟩ (D_X12_years_0.at 17 rfl) ?_
    refine J_getF (ov := 70) (dd := 1002) 37 rfl fl_12_17 rfl (by decide) rfl ob_68 (Ob.lt ob_68) (D_X12_years_0.at 18 rfl) ?_
    refine J_iconst 38 rfl (D_X12_years_0.at 19 rfl) ?_
    refine J_dup2 39 rfl rfl rfl (D_X12_years_0.at 20 rfl) ?_
    refine J_iald 40 rfl ar_70 (Ar.lt ar_70) ⟨by decide, by decide⟩ (D_X12_years_0.at 21 rfl) ?_
    refine J_iconst 41 rfl (D_X12_years_0.at 22 rfl) ?_
    refine J_iadd 42 rfl (D_X12_years_0.at 23 rfl) ?_
    refine J_iastH 43 rfl ar_70 (Ar.lt ar_70) ⟨by decide, by decide⟩ trivial (D_X12_years_0.at 24 rfl) (fun h9 e10 => ?_)
    replace T := T h9 e10
    refine J_iconst 44 rfl (D_X12_years_0.at 25 rfl) ?_
    exact J_iret rfl (D_X12_years_0.at 26 rfl) T
  replace T := T.2 c18
  refine J_iconst 14 rfl (D_X12_isIn_0.at 8 rfl) ?_
  refine J_goto 18 (D_X12_isIn_0.at 9 rfl) (by decide) ?_
  refine J_zret rfl (Or.inr rfl) (D_X12_isIn_0.at 11 rfl) (fun _ => ?_)
  refine J_if_eq 19 rfl 33 ⟨by decide, by decide⟩ (D_X12_years_0.at 8 rfl) (by decide) (fun c => absurd c (by decide)) (fun _ => ?_)
  refine J_aload_n 20 rfl 0 0 rfl ⟨by decide, by decide⟩ (D_X12_years_0.at 9 rfl) ?_
  refine J_getF (ov := 104) (dd := 1036) 23 rfl fl_12_121 rfl (by decide) rfl ob_68 (Ob.lt ob_68) (D_X12_years_0.at 10 rfl) ?_
  refine J_iconst 24 rfl (D_X12_years_0.at 11 rfl) ?_
  refine J_iald 25 rfl ar_104 (Ar.lt ar_104) ⟨by decide, by decide⟩ (D_X12_years_0.at 12 rfl) ?_
  refine J_iload_n 26 rfl 1 1 rfl (D_X12_years_0.at 13 rfl) ?_
  refine J_iadd 27 rfl (D_X12_years_0.at 14 rfl) ?_
  refine J_sipush 30 rfl ⟨by decide, by decide⟩ (D_X12_years_0.at 15 rfl) ?_
  obtain ⟨s11, T⟩ := T
  refine J_icmp_le 33 rfl 45 s11 ⟨by decide, by decide⟩ (D_X12_years_0.at 16 rfl) (by decide) (fun c17 => ?_) (fun c17 => ?_)
  · replace T := T.1 c17
    refine J_aload_n 46 rfl 0 0 rfl ⟨by decide, by decide⟩ (D_X12_years_0.at 27 rfl) ?_
    refine J_callV (d' := 1) (sr := fun z => []) (as := []) (st := []) (o := 68) 49 rfl ok_X12_keeps im_X12_keeps se_X12_keeps ml_12_529 isC_12 ob_68 (Ob.lt ob_68) rfl (by decide) ⟨Nat.le_refl _, Nat.le_refl _⟩ (Nat.le_of_ble_eq_true rfl) (D_X12_years_0.at 28 rfl) (fun _ => rfl) T (fun r12 h13 T b14 => ?_)
    refine J_iconst 50 rfl (D_X12_years_0.at 29 rfl) ?_
    refine J_istore_n (lv' := [(2, vI 0), (0, vR 68), (1, vI a1)]) 51 rfl 2 (by decide) rfl (D_X12_years_0.at 30 rfl) ?_
    refine J_iconst 52 rfl (D_X12_years_0.at 31 rfl) ?_
    refine J_istore_n (lv' := [(3, vI 0), (2, vI 0), (0, vR 68), (1, vI a1)]) 53 rfl 3 (by decide) rfl (D_X12_years_0.at 32 rfl) ?_
    exact J_sub (lv' := [(0, vR 68), (1, vI a1), (2, vI 0), (3, vI 0)]) [2, 3, 1, 0] rfl T
  replace T := T.2 c17
  refine J_aload_n 34 rfl 0 0 rfl ⟨by decide, by decide⟩ (D_X12_years_0.at 17 rfl) ?_
  refine J_getF (ov := 70) (dd := 1002) 37 rfl fl_12_17 rfl (by decide) rfl ob_68 (Ob.lt ob_68) (D_X12_years_0.at 18 rfl) ?_
  refine J_iconst 38 rfl (D_X12_years_0.at 19 rfl) ?_
  refine J_dup2 39 rfl rfl rfl (D_X12_years_0.at 20 rfl) ?_
  refine J_iald 40 rfl ar_70 (Ar.lt ar_70) ⟨by decide, by decide⟩ (D_X12_years_0.at 21 rfl) ?_
  refine J_iconst 41 rfl (D_X12_years_0.at 22 rfl) ?_
  refine J_iadd 42 rfl (D_X12_years_0.at 23 rfl) ?_
  refine J_iastH 43 rfl ar_70 (Ar.lt ar_70) ⟨by decide, by decide⟩ trivial (D_X12_years_0.at 24 rfl) (fun h15 e16 => ?_)
  replace T := T h15 e16
  refine J_iconst 44 rfl (D_X12_years_0.at 25 rfl) ?_
  exact J_iret rfl (D_X12_years_0.at 26 rfl) T
theorem l_X12_years_53 {w : Wd} {v1 v2 v3 : Int} {h : Hp} {K : Int → Hp → Prop} (T : (inR v3) ∧ ((inR v1) ∧ (((v3 ≥ v1) → (K v2 h)) ∧ (¬ (v3 ≥ v1) → (C_X12_drawOf w 10 h (fun r23 h24 => C_X12_yearGoes w r23 h24 (fun r26 h27 => L_X12_years_53 w v1 (v2 + r26) (v3 + 1) h27 K))))))) : L_X12_years_53 w v1 v2 v3 h K := by
  unfold L_X12_years_53
  refine J_iload_n 54 rfl 3 3 rfl (D_X12_years_0.at 33 rfl) ?_
  refine J_iload_n 55 rfl 1 1 rfl (D_X12_years_0.at 34 rfl) ?_
  obtain ⟨s21, T⟩ := T
  obtain ⟨s22, T⟩ := T
  refine J_icmp_ge 58 rfl 77 s21 s22 (D_X12_years_0.at 35 rfl) (by decide) (fun c29 => ?_) (fun c29 => ?_)
  · replace T := T.1 c29
    refine J_iload_n 78 rfl 2 2 rfl (D_X12_years_0.at 46 rfl) ?_
    exact J_iret rfl (D_X12_years_0.at 47 rfl) T
  replace T := T.2 c29
  refine J_iload_n 59 rfl 2 2 rfl (D_X12_years_0.at 36 rfl) ?_
  refine J_aload_n 60 rfl 0 0 rfl ⟨by decide, by decide⟩ (D_X12_years_0.at 37 rfl) ?_
  refine J_aload_n 61 rfl 0 0 rfl ⟨by decide, by decide⟩ (D_X12_years_0.at 38 rfl) ?_
  refine J_bipush 63 rfl ⟨by decide, by decide⟩ (D_X12_years_0.at 39 rfl) ?_
  refine J_callV (d' := 1) (sr := fun z => [vI z, vR 68, vI v2]) (as := [vI 10]) (st := [vR 68, vI v2]) (o := 68) 66 rfl ok_X12_drawOf im_X12_drawOf se_X12_drawOf ml_12_545 isC_12 ob_68 (Ob.lt ob_68) rfl (by decide) ⟨Nat.le_refl _, Nat.le_refl _⟩ (Nat.le_of_ble_eq_true rfl) (D_X12_years_0.at 40 rfl) (fun _ => rfl) T (fun r23 h24 T b25 => ?_)
  refine J_callV (d' := 7) (sr := fun z => [vI z, vI v2]) (as := [vI r23]) (st := [vI v2]) (o := 68) 69 rfl ok_X12_yearGoes im_X12_yearGoes se_X12_yearGoes ml_12_532 isC_12 ob_68 (Ob.lt ob_68) rfl (by decide) ⟨Nat.le_refl _, Nat.le_refl _⟩ (Nat.le_of_ble_eq_true rfl) (D_X12_years_0.at 41 rfl) (fun _ => rfl) T (fun r26 h27 T b28 => ?_)
  refine J_iadd 70 rfl (D_X12_years_0.at 42 rfl) ?_
  refine J_istore_n (lv' := [(2, vI (v2 + r26)), (0, vR 68), (1, vI v1), (3, vI v3)]) 71 rfl 2 (by decide) rfl (D_X12_years_0.at 43 rfl) ?_
  refine J_iinc (v := (v3 + 1)) (lv' := [(3, vI (v3 + 1)), (2, vI (v2 + r26)), (0, vR 68), (1, vI v1)]) 74 rfl 3 3 1 rfl rfl (by decide) rfl (D_X12_years_0.at 44 rfl) ?_
  refine J_goto 53 (D_X12_years_0.at 45 rfl) (by decide) ?_
  exact J_sub (lv' := [(0, vR 68), (1, vI v1), (2, vI (v2 + r26)), (3, vI (v3 + 1))]) [2, 3, 1, 0] rfl T
theorem c_X12_until {w : Wd} {a1 a2 a3 : Int} {h : Hp} {K : Int → Hp → Prop} (T : (inR a1) ∧ ((inR ((h 93 3) - 1)) ∧ ((inL a1) ∧ (((a1 < 0) → (L_X12_until_23 w h K)) ∧ (¬ (a1 < 0) → ((inL a1) ∧ ((inL ((h 93 3) - 1)) ∧ (((a1 > ((h 93 3) - 1)) → (L_X12_until_23 w h K)) ∧ (¬ (a1 > ((h 93 3) - 1)) → ((inR a2) ∧ ((inR ((h 68 36) - 1)) ∧ ((inL a2) ∧ (((a2 < 0) → (L_X12_until_23 w h K)) ∧ (¬ (a2 < 0) → ((inL a2) ∧ ((inL ((h 68 36) - 1)) ∧ (((a2 > ((h 68 36) - 1)) → (L_X12_until_23 w h K)) ∧ (¬ (a2 > ((h 68 36) - 1)) → ((inR a3) ∧ ((inL a3) ∧ (((a3 < 0) → (L_X12_until_23 w h K)) ∧ (¬ (a3 < 0) → ((inL a3) ∧ (((a3 > 9) → (L_X12_until_23 w h K)) ∧ (¬ (a3 > 9) → (L_X12_until_28 w a1 a2 a3 0 h K)))))))))))))))))))))))))) : C_X12_until w a1 a2 a3 h K := by
  refine CGm_of2 (by decide) (by decide) trivial (Nat.le_of_ble_eq_true rfl) ?_
  refine J_aload_n 1 rfl 0 0 rfl ⟨by decide, by decide⟩ (D_X12_until_0.at 0 rfl) ?_
  refine J_iload_n 2 rfl 1 1 rfl (D_X12_until_0.at 1 rfl) ?_
  refine J_callV (d' := 2) (K1 := fun z h0 => rok (some .boolean) z → JG w true m_X12_until 8 NT NT 5 [(0, vR 68), (1, vI a1), (2, vI a2), (3, vI a3)] [vI z] h0 _) (sr := fun z => [vI z]) (as := [vI a1]) (st := []) (o := 68) 5 rfl ok_X12_isOwner im_X12_isOwner se_X12_isOwner ml_12_508 isC_12 ob_68 (Ob.lt ob_68) rfl (by decide) ⟨Nat.le_refl _, Nat.le_refl _⟩ (Nat.le_of_ble_eq_true rfl) (D_X12_until_0.at 2 rfl) (fun _ => rfl) (CGm_of2 (by decide) (by decide) trivial (Nat.le_of_ble_eq_true rfl) ?_) (fun _ _ kq hb => kq hb)
  refine J_iload_n 1 rfl 1 1 rfl (D_X12_isOwner_0.at 0 rfl) ?_
  obtain ⟨s1, T⟩ := T
  refine J_i2l 2 rfl s1 (D_X12_isOwner_0.at 1 rfl) ?_
  refine J_lconst (z := 0) 3 rfl rfl (D_X12_isOwner_0.at 2 rfl) ?_
  refine J_aload_n 4 rfl 0 0 rfl ⟨by decide, by decide⟩ (D_X12_isOwner_0.at 3 rfl) ?_
  refine J_callV (d' := 1) (K1 := fun z h0 => rok (some .int) z → JG w true m_X12_isOwner 2 NT NT 7 [(0, vR 68), (1, vI a1)] [vI z, vL 0, vL a1] h0 _) (sr := fun z => [vI z, vL 0, vL a1]) (as := []) (st := [vL 0, vL a1]) (o := 68) 7 rfl ok_X12_ownerMany im_X12_ownerMany se_X12_ownerMany ml_12_422 isC_12 ob_68 (Ob.lt ob_68) rfl (by decide) ⟨Nat.le_refl _, Nat.le_refl _⟩ (Nat.le_of_ble_eq_true rfl) (D_X12_isOwner_0.at 4 rfl) (fun _ => rfl) (CGm_of2 (by decide) (by decide) trivial (Nat.le_of_ble_eq_true rfl) ?_) (fun _ _ kq hb => kq hb)
  refine J_aload_n 1 rfl 0 0 rfl ⟨by decide, by decide⟩ (D_X12_ownerMany_0.at 0 rfl) ?_
  refine J_getF (ov := 93) (dd := 1025) 4 rfl fl_12_87 rfl (by decide) rfl ob_68 (Ob.lt ob_68) (D_X12_ownerMany_0.at 1 rfl) ?_
  refine J_iconst 5 rfl (D_X12_ownerMany_0.at 2 rfl) ?_
  refine J_iald 6 rfl ar_93 (Ar.lt ar_93) ⟨by decide, by decide⟩ (D_X12_ownerMany_0.at 3 rfl) ?_
  refine J_iret rfl (D_X12_ownerMany_0.at 4 rfl) (fun _ => ?_)
  refine J_iconst 8 rfl (D_X12_isOwner_0.at 5 rfl) ?_
  refine J_isub 9 rfl (D_X12_isOwner_0.at 6 rfl) ?_
  obtain ⟨s2, T⟩ := T
  refine J_i2l 10 rfl s2 (D_X12_isOwner_0.at 7 rfl) ?_
  refine J_callS (d' := 1) (K1 := fun z h0 => rok (some .boolean) z → JG w true m_X12_isOwner 2 NT NT 13 [(0, vR 68), (1, vI a1)] [vI z] h0 _) (sr := fun z => [vI z]) (as := [vL a1, vL 0, vL ((h 93 3) - 1)]) (st := []) 13 rfl ok_X12_isIn sm_X12_isIn ml_12_267 rfl (by decide) ⟨Nat.le_refl _, Nat.le_refl _⟩ (Nat.le_of_ble_eq_true rfl) (D_X12_isOwner_0.at 8 rfl) (fun _ => rfl) (CGm_of2 (by decide) (by decide) trivial (Nat.le_of_ble_eq_true rfl) ?_) (fun _ _ kq hb => kq hb)
  refine J_lload_n 1 rfl 0 0 rfl (D_X12_isIn_0.at 0 rfl) ?_
  refine J_lload_n 2 rfl 2 1 rfl (D_X12_isIn_0.at 1 rfl) ?_
  obtain ⟨s3, T⟩ := T
  refine J_lcmp_lt 6 rfl 17 s3 ⟨by decide, by decide⟩ (D_X12_isIn_0.at 2 rfl) (D_X12_isIn_0.at 3 rfl) (by decide) (fun c19 => ?_) (fun c19 => ?_)
  · replace T := T.1 c19
    refine J_iconst 18 rfl (D_X12_isIn_0.at 10 rfl) ?_
    refine J_zret rfl (Or.inl rfl) (D_X12_isIn_0.at 11 rfl) (fun _ => ?_)
    refine J_zret rfl (Or.inl rfl) (D_X12_isOwner_0.at 9 rfl) (fun _ => ?_)
    refine J_if_eq 8 rfl 23 ⟨by decide, by decide⟩ (D_X12_until_0.at 3 rfl) (by decide) (fun _ => ?_) (fun c => absurd (by decide) c)
    exact J_sub (lv' := []) [] rfl T
  replace T := T.2 c19
  refine J_lload_n 7 rfl 0 0 rfl (D_X12_isIn_0.at 4 rfl) ?_
  refine J_lload 9 rfl 4 2 rfl (D_X12_isIn_0.at 5 rfl) ?_
  obtain ⟨s4, T⟩ := T
  obtain ⟨s5, T⟩ := T
  refine J_lcmp_gt 13 rfl 17 s4 s5 (D_X12_isIn_0.at 6 rfl) (D_X12_isIn_0.at 7 rfl) (by decide) (fun c18 => ?_) (fun c18 => ?_)
  · replace T := T.1 c18
    refine J_iconst 18 rfl (D_X12_isIn_0.at 10 rfl) ?_
    refine J_zret rfl (Or.inl rfl) (D_X12_isIn_0.at 11 rfl) (fun _ => ?_)
    refine J_zret rfl (Or.inl rfl) (D_X12_isOwner_0.at 9 rfl) (fun _ => ?_)
    refine J_if_eq 8 rfl 23 ⟨by decide, by decide⟩ (D_X12_until_0.at 3 rfl) (by decide) (fun _ => ?_) (fun c => absurd (by decide) c)
    exact J_sub (lv' := []) [] rfl T
  replace T := T.2 c18
  refine J_iconst 14 rfl (D_X12_isIn_0.at 8 rfl) ?_
  refine J_goto 18 (D_X12_isIn_0.at 9 rfl) (by decide) ?_
  refine J_zret rfl (Or.inr rfl) (D_X12_isIn_0.at 11 rfl) (fun _ => ?_)
  refine J_zret rfl (Or.inr rfl) (D_X12_isOwner_0.at 9 rfl) (fun _ => ?_)
  refine J_if_eq 8 rfl 23 ⟨by decide, by decide⟩ (D_X12_until_0.at 3 rfl) (by decide) (fun c => absurd c (by decide)) (fun _ => ?_)
  refine J_aload_n 9 rfl 0 0 rfl ⟨by decide, by decide⟩ (D_X12_until_0.at 4 rfl) ?_
  refine J_iload_n 10 rfl 2 2 rfl (D_X12_until_0.at 5 rfl) ?_
  refine J_callV (d' := 2) (K1 := fun z h0 => rok (some .boolean) z → JG w true m_X12_until 8 NT NT 13 [(0, vR 68), (1, vI a1), (2, vI a2), (3, vI a3)] [vI z] h0 _) (sr := fun z => [vI z]) (as := [vI a2]) (st := []) (o := 68) 13 rfl ok_X12_isReach im_X12_isReach se_X12_isReach ml_12_499 isC_12 ob_68 (Ob.lt ob_68) rfl (by decide) ⟨Nat.le_refl _, Nat.le_refl _⟩ (Nat.le_of_ble_eq_true rfl) (D_X12_until_0.at 6 rfl) (fun _ => rfl) (CGm_of2 (by decide) (by decide) trivial (Nat.le_of_ble_eq_true rfl) ?_) (fun _ _ kq hb => kq hb)
  refine J_iload_n 1 rfl 1 1 rfl (D_X12_isReach_0.at 0 rfl) ?_
  obtain ⟨s6, T⟩ := T
  refine J_i2l 2 rfl s6 (D_X12_isReach_0.at 1 rfl) ?_
  refine J_lconst (z := 0) 3 rfl rfl (D_X12_isReach_0.at 2 rfl) ?_
  refine J_aload_n 4 rfl 0 0 rfl ⟨by decide, by decide⟩ (D_X12_isReach_0.at 3 rfl) ?_
  refine J_getI (z := (h 68 36)) 7 rfl fl_12_356 rfl ob_68 (Ob.lt ob_68) (D_X12_isReach_0.at 4 rfl) rfl ?_
  refine J_iconst 8 rfl (D_X12_isReach_0.at 5 rfl) ?_
  refine J_isub 9 rfl (D_X12_isReach_0.at 6 rfl) ?_
  obtain ⟨s7, T⟩ := T
  refine J_i2l 10 rfl s7 (D_X12_isReach_0.at 7 rfl) ?_
  refine J_callS (d' := 1) (K1 := fun z h0 => rok (some .boolean) z → JG w true m_X12_isReach 2 NT NT 13 [(0, vR 68), (1, vI a2)] [vI z] h0 _) (sr := fun z => [vI z]) (as := [vL a2, vL 0, vL ((h 68 36) - 1)]) (st := []) 13 rfl ok_X12_isIn sm_X12_isIn ml_12_267 rfl (by decide) ⟨Nat.le_refl _, Nat.le_refl _⟩ (Nat.le_of_ble_eq_true rfl) (D_X12_isReach_0.at 8 rfl) (fun _ => rfl) (CGm_of2 (by decide) (by decide) trivial (Nat.le_of_ble_eq_true rfl) ?_) (fun _ _ kq hb => kq hb)
  refine J_lload_n 1 rfl 0 0 rfl (D_X12_isIn_0.at 0 rfl) ?_
  refine J_lload_n 2 rfl 2 1 rfl (D_X12_isIn_0.at 1 rfl) ?_
  obtain ⟨s8, T⟩ := T
  refine J_lcmp_lt 6 rfl 17 s8 ⟨by decide, by decide⟩ (D_X12_isIn_0.at 2 rfl) (D_X12_isIn_0.at 3 rfl) (by decide) (fun c17 => ?_) (fun c17 => ?_)
  · replace T := T.1 c17
    refine J_iconst 18 rfl (D_X12_isIn_0.at 10 rfl) ?_
    refine J_zret rfl (Or.inl rfl) (D_X12_isIn_0.at 11 rfl) (fun _ => ?_)
    refine J_zret rfl (Or.inl rfl) (D_X12_isReach_0.at 9 rfl) (fun _ => ?_)
    refine J_if_eq 16 rfl 23 ⟨by decide, by decide⟩ (D_X12_until_0.at 7 rfl) (by decide) (fun _ => ?_) (fun c => absurd (by decide) c)
    exact J_sub (lv' := []) [] rfl T
  replace T := T.2 c17
  refine J_lload_n 7 rfl 0 0 rfl (D_X12_isIn_0.at 4 rfl) ?_
  refine J_lload 9 rfl 4 2 rfl (D_X12_isIn_0.at 5 rfl) ?_
  obtain ⟨s9, T⟩ := T
  obtain ⟨s10, T⟩ := T
  refine J_lcmp_gt 13 rfl 17 s9 s10 (D_X12_isIn_0.at 6 rfl) (D_X12_isIn_0.at 7 rfl) (by decide) (fun c16 => ?_) (fun c16 => ?_)
  · replace T := T.1 c16
    refine J_iconst 18 rfl (D_X12_isIn_0.at 10 rfl) ?_
    refine J_zret rfl (Or.inl rfl) (D_X12_isIn_0.at 11 rfl) (fun _ => ?_)
    refine J_zret rfl (Or.inl rfl) (D_X12_isReach_0.at 9 rfl) (fun _ => ?_)
    refine J_if_eq 16 rfl 23 ⟨by decide, by decide⟩ (D_X12_until_0.at 7 rfl) (by decide) (fun _ => ?_) (fun c => absurd (by decide) c)
    exact J_sub (lv' := []) [] rfl T
  replace T := T.2 c16
  refine J_iconst 14 rfl (D_X12_isIn_0.at 8 rfl) ?_
  refine J_goto 18 (D_X12_isIn_0.at 9 rfl) (by decide) ?_
  refine J_zret rfl (Or.inr rfl) (D_X12_isIn_0.at 11 rfl) (fun _ => ?_)
  refine J_zret rfl (Or.inr rfl) (D_X12_isReach_0.at 9 rfl) (fun _ => ?_)
  refine J_if_eq 16 rfl 23 ⟨by decide, by decide⟩ (D_X12_until_0.at 7 rfl) (by decide) (fun c => absurd c (by decide)) (fun _ => ?_)
  refine J_iload_n 17 rfl 3 3 rfl (D_X12_until_0.at 8 rfl) ?_
  refine J_callS (d' := 2) (K1 := fun z h0 => rok (some .boolean) z → JG w true m_X12_until 8 NT NT 20 [(0, vR 68), (1, vI a1), (2, vI a2), (3, vI a3)] [vI z] h0 _) (sr := fun z => [vI z]) (as := [vI a3]) (st := []) 20 rfl ok_X12_isLevel sm_X12_isLevel ml_12_514 rfl (by decide) ⟨Nat.le_refl _, Nat.le_refl _⟩ (Nat.le_of_ble_eq_true rfl) (D_X12_until_0.at 9 rfl) (fun _ => rfl) (CGm_of2 (by decide) (by decide) trivial (Nat.le_of_ble_eq_true rfl) ?_) (fun _ _ kq hb => kq hb)
  refine J_iload_n 1 rfl 0 0 rfl (D_X12_isLevel_0.at 0 rfl) ?_
  obtain ⟨s11, T⟩ := T
  refine J_i2l 2 rfl s11 (D_X12_isLevel_0.at 1 rfl) ?_
  refine J_lconst (z := 0) 3 rfl rfl (D_X12_isLevel_0.at 2 rfl) ?_
  refine J_ldc2 6 rfl ko_12_425 (D_X12_isLevel_0.at 3 rfl) ?_
  refine J_callS (d' := 1) (K1 := fun z h0 => rok (some .boolean) z → JG w true m_X12_isLevel 2 NT NT 9 [(0, vI a3)] [vI z] h0 _) (sr := fun z => [vI z]) (as := [vL a3, vL 0, vL 9]) (st := []) 9 rfl ok_X12_isIn sm_X12_isIn ml_12_267 rfl (by decide) ⟨Nat.le_refl _, Nat.le_refl _⟩ (Nat.le_of_ble_eq_true rfl) (D_X12_isLevel_0.at 4 rfl) (fun _ => rfl) (CGm_of2 (by decide) (by decide) trivial (Nat.le_of_ble_eq_true rfl) ?_) (fun _ _ kq hb => kq hb)
  refine J_lload_n 1 rfl 0 0 rfl (D_X12_isIn_0.at 0 rfl) ?_
  refine J_lload_n 2 rfl 2 1 rfl (D_X12_isIn_0.at 1 rfl) ?_
  obtain ⟨s12, T⟩ := T
  refine J_lcmp_lt 6 rfl 17 s12 ⟨by decide, by decide⟩ (D_X12_isIn_0.at 2 rfl) (D_X12_isIn_0.at 3 rfl) (by decide) (fun c15 => ?_) (fun c15 => ?_)
  · replace T := T.1 c15
    refine J_iconst 18 rfl (D_X12_isIn_0.at 10 rfl) ?_
    refine J_zret rfl (Or.inl rfl) (D_X12_isIn_0.at 11 rfl) (fun _ => ?_)
    refine J_zret rfl (Or.inl rfl) (D_X12_isLevel_0.at 5 rfl) (fun _ => ?_)
    refine J_if_ne 23 rfl 25 ⟨by decide, by decide⟩ (D_X12_until_0.at 10 rfl) (by decide) (fun c => absurd c (by decide)) (fun _ => ?_)
    exact J_sub (lv' := []) [] rfl T
  replace T := T.2 c15
  refine J_lload_n 7 rfl 0 0 rfl (D_X12_isIn_0.at 4 rfl) ?_
  refine J_lload 9 rfl 4 2 rfl (D_X12_isIn_0.at 5 rfl) ?_
  obtain ⟨s13, T⟩ := T
  refine J_lcmp_gt 13 rfl 17 s13 ⟨by decide, by decide⟩ (D_X12_isIn_0.at 6 rfl) (D_X12_isIn_0.at 7 rfl) (by decide) (fun c14 => ?_) (fun c14 => ?_)
  · replace T := T.1 c14
    refine J_iconst 18 rfl (D_X12_isIn_0.at 10 rfl) ?_
    refine J_zret rfl (Or.inl rfl) (D_X12_isIn_0.at 11 rfl) (fun _ => ?_)
    refine J_zret rfl (Or.inl rfl) (D_X12_isLevel_0.at 5 rfl) (fun _ => ?_)
    refine J_if_ne 23 rfl 25 ⟨by decide, by decide⟩ (D_X12_until_0.at 10 rfl) (by decide) (fun c => absurd c (by decide)) (fun _ => ?_)
    exact J_sub (lv' := []) [] rfl T
  replace T := T.2 c14
  refine J_iconst 14 rfl (D_X12_isIn_0.at 8 rfl) ?_
  refine J_goto 18 (D_X12_isIn_0.at 9 rfl) (by decide) ?_
  refine J_zret rfl (Or.inr rfl) (D_X12_isIn_0.at 11 rfl) (fun _ => ?_)
  refine J_zret rfl (Or.inr rfl) (D_X12_isLevel_0.at 5 rfl) (fun _ => ?_)
  refine J_if_ne 23 rfl 25 ⟨by decide, by decide⟩ (D_X12_until_0.at 10 rfl) (by decide) (fun _ => ?_) (fun c => absurd (by decide) c)
  refine J_iconst 26 rfl (D_X12_until_0.at 13 rfl) ?_
  refine J_istore (lv' := [(4, vI 0), (0, vR 68), (1, vI a1), (2, vI a2), (3, vI a3)]) 28 rfl 4 (by decide) rfl (D_X12_until_0.at 14 rfl) ?_
  exact J_sub (lv' := [(0, vR 68), (1, vI a1), (2, vI a2), (3, vI a3), (4, vI 0)]) [1, 2, 3, 4, 0] rfl T
theorem l_X12_until_28 {w : Wd} {v1 v2 v3 v4 : Int} {h : Hp} {K : Int → Hp → Prop} (T : (inR v4) ∧ (((v4 ≥ 109) → (L_X12_until_58 w v1 v2 v3 0 h K)) ∧ (¬ (v4 ≥ 109) → ((0 ≤ v4 ∧ v4 < 109) ∧ ((0 ≤ v4 ∧ v4 < 109) ∧ (∀ h23 : Hp, h23 = hu h 114 v4 (h 104 v4) → L_X12_until_28 w v1 v2 v3 (v4 + 1) h23 K)))))) : L_X12_until_28 w v1 v2 v3 v4 h K := by
  unfold L_X12_until_28
  refine J_iload 30 rfl 4 4 rfl (D_X12_until_0.at 15 rfl) ?_
  refine J_bipush 32 rfl ⟨by decide, by decide⟩ (D_X12_until_0.at 16 rfl) ?_
  obtain ⟨s20, T⟩ := T
  refine J_icmp_ge 35 rfl 55 s20 ⟨by decide, by decide⟩ (D_X12_until_0.at 17 rfl) (by decide) (fun c25 => ?_) (fun c25 => ?_)
  · replace T := T.1 c25
    refine J_iconst 56 rfl (D_X12_until_0.at 28 rfl) ?_
    refine J_istore (lv' := [(4, vI 0), (0, vR 68), (1, vI v1), (2, vI v2), (3, vI v3)]) 58 rfl 4 (by decide) rfl (D_X12_until_0.at 29 rfl) ?_
    exact J_sub (lv' := [(0, vR 68), (1, vI v1), (2, vI v2), (3, vI v3), (4, vI 0)]) [1, 2, 3, 4, 0] rfl T
  replace T := T.2 c25
  refine J_aload_n 36 rfl 0 0 rfl ⟨by decide, by decide⟩ (D_X12_until_0.at 18 rfl) ?_
  refine J_getF (ov := 114) (dd := 1046) 39 rfl fl_12_155 rfl (by decide) rfl ob_68 (Ob.lt ob_68) (D_X12_until_0.at 19 rfl) ?_
  refine J_iload 41 rfl 4 4 rfl (D_X12_until_0.at 20 rfl) ?_
  refine J_aload_n 42 rfl 0 0 rfl ⟨by decide, by decide⟩ (D_X12_until_0.at 21 rfl) ?_
  refine J_getF (ov := 104) (dd := 1036) 45 rfl fl_12_121 rfl (by decide) rfl ob_68 (Ob.lt ob_68) (D_X12_until_0.at 22 rfl) ?_
  refine J_iload 47 rfl 4 4 rfl (D_X12_until_0.at 23 rfl) ?_
  obtain ⟨s21, T⟩ := T
  refine J_iald 48 rfl ar_104 (Ar.lt ar_104) s21 (D_X12_until_0.at 24 rfl) ?_
  obtain ⟨s22, T⟩ := T
  refine J_iastH 49 rfl ar_114 (Ar.lt ar_114) s22 trivial (D_X12_until_0.at 25 rfl) (fun h23 e24 => ?_)
  replace T := T h23 e24
  refine J_iinc (v := (v4 + 1)) (lv' := [(4, vI (v4 + 1)), (0, vR 68), (1, vI v1), (2, vI v2), (3, vI v3)]) 52 rfl 4 4 1 rfl rfl (by decide) rfl (D_X12_until_0.at 26 rfl) ?_
  refine J_goto 28 (D_X12_until_0.at 27 rfl) (by decide) ?_
  exact J_sub (lv' := [(0, vR 68), (1, vI v1), (2, vI v2), (3, vI v3), (4, vI (v4 + 1))]) [1, 2, 3, 4, 0] rfl T
theorem l_X12_until_58 {w : Wd} {v1 v2 v3 v4 : Int} {h : Hp} {K : Int → Hp → Prop} (T : (inR v4) ∧ (((v4 ≥ 20) → (L_X12_until_107 w v1 v2 v4 h K)) ∧ (¬ (v4 ≥ 20) → ((inR (h 104 0)) ∧ ((((h 104 0) ≥ 999) → (L_X12_until_107 w v1 v2 v4 h K)) ∧ (¬ ((h 104 0) ≥ 999) → (C_X12_majorityIn w v2 h (fun r28 h29 => (inR r28) ∧ ((inR v1) ∧ (((r28 = v1) → (L_X12_until_107 w v1 v2 v4 h29 K)) ∧ (¬ (r28 = v1) → (C_X12_yearGoes w v3 h29 (fun r33 h34 => (inR r33) ∧ (((r33 ≥ 0) → (L_X12_until_58 w v1 v2 v3 (v4 + 1) h34 K)) ∧ (¬ (r33 ≥ 0) → (L_X12_until_58 w v1 v2 v3 (v4 + 0) h34 K)))))))))))))))) : L_X12_until_58 w v1 v2 v3 v4 h K := by
  unfold L_X12_until_58
  refine J_iload 60 rfl 4 4 rfl (D_X12_until_0.at 30 rfl) ?_
  refine J_bipush 62 rfl ⟨by decide, by decide⟩ (D_X12_until_0.at 31 rfl) ?_
  obtain ⟨s26, T⟩ := T
  refine J_icmp_ge 65 rfl 107 s26 ⟨by decide, by decide⟩ (D_X12_until_0.at 32 rfl) (by decide) (fun c40 => ?_) (fun c40 => ?_)
  · replace T := T.1 c40
    exact J_sub (lv' := [(0, vR 68), (1, vI v1), (2, vI v2), (4, vI v4)]) [0, 1, 2, 4] rfl T
  replace T := T.2 c40
  refine J_aload_n 66 rfl 0 0 rfl ⟨by decide, by decide⟩ (D_X12_until_0.at 33 rfl) ?_
  refine J_getF (ov := 104) (dd := 1036) 69 rfl fl_12_121 rfl (by decide) rfl ob_68 (Ob.lt ob_68) (D_X12_until_0.at 34 rfl) ?_
  refine J_iconst 70 rfl (D_X12_until_0.at 35 rfl) ?_
  refine J_iald 71 rfl ar_104 (Ar.lt ar_104) ⟨by decide, by decide⟩ (D_X12_until_0.at 36 rfl) ?_
  refine J_sipush 74 rfl ⟨by decide, by decide⟩ (D_X12_until_0.at 37 rfl) ?_
  obtain ⟨s27, T⟩ := T
  refine J_icmp_ge 77 rfl 107 s27 ⟨by decide, by decide⟩ (D_X12_until_0.at 38 rfl) (by decide) (fun c39 => ?_) (fun c39 => ?_)
  · replace T := T.1 c39
    exact J_sub (lv' := [(0, vR 68), (1, vI v1), (2, vI v2), (4, vI v4)]) [0, 1, 2, 4] rfl T
  replace T := T.2 c39
  refine J_aload_n 78 rfl 0 0 rfl ⟨by decide, by decide⟩ (D_X12_until_0.at 39 rfl) ?_
  refine J_iload_n 79 rfl 2 2 rfl (D_X12_until_0.at 40 rfl) ?_
  refine J_callV (d' := 3) (sr := fun z => [vI z]) (as := [vI v2]) (st := []) (o := 68) 82 rfl ok_X12_majorityIn im_X12_majorityIn se_X12_majorityIn ml_12_502 isC_12 ob_68 (Ob.lt ob_68) rfl (by decide) ⟨Nat.le_refl _, Nat.le_refl _⟩ (Nat.le_of_ble_eq_true rfl) (D_X12_until_0.at 41 rfl) (fun _ => rfl) T (fun r28 h29 T b30 => ?_)
  refine J_iload_n 83 rfl 1 1 rfl (D_X12_until_0.at 42 rfl) ?_
  obtain ⟨s31, T⟩ := T
  obtain ⟨s32, T⟩ := T
  refine J_icmp_eq 86 rfl 107 s31 s32 (D_X12_until_0.at 43 rfl) (by decide) (fun c38 => ?_) (fun c38 => ?_)
  · replace T := T.1 c38
    exact J_sub (lv' := [(0, vR 68), (1, vI v1), (2, vI v2), (4, vI v4)]) [0, 1, 2, 4] rfl T
  replace T := T.2 c38
  refine J_iload 88 rfl 4 4 rfl (D_X12_until_0.at 44 rfl) ?_
  refine J_aload_n 89 rfl 0 0 rfl ⟨by decide, by decide⟩ (D_X12_until_0.at 45 rfl) ?_
  refine J_iload_n 90 rfl 3 3 rfl (D_X12_until_0.at 46 rfl) ?_
  refine J_callV (d' := 7) (sr := fun z => [vI z, vI v4]) (as := [vI v3]) (st := [vI v4]) (o := 68) 93 rfl ok_X12_yearGoes im_X12_yearGoes se_X12_yearGoes ml_12_532 isC_12 ob_68 (Ob.lt ob_68) rfl (by decide) ⟨Nat.le_refl _, Nat.le_refl _⟩ (Nat.le_of_ble_eq_true rfl) (D_X12_until_0.at 47 rfl) (fun _ => rfl) T (fun r33 h34 T b35 => ?_)
  obtain ⟨s36, T⟩ := T
  refine J_if_ge 96 rfl 100 s36 (D_X12_until_1.at 0 rfl) (by decide) (fun c37 => ?_) (fun c37 => ?_)
  · replace T := T.1 c37
    refine J_iconst 101 rfl (D_X12_until_1.at 3 rfl) ?_
    refine J_iadd 102 rfl (D_X12_until_1.at 4 rfl) ?_
    refine J_istore (lv' := [(4, vI (v4 + 1)), (0, vR 68), (1, vI v1), (2, vI v2), (3, vI v3)]) 104 rfl 4 (by decide) rfl (D_X12_until_1.at 5 rfl) ?_
    refine J_goto 58 (D_X12_until_1.at 6 rfl) (by decide) ?_
    exact J_sub (lv' := [(0, vR 68), (1, vI v1), (2, vI v2), (3, vI v3), (4, vI (v4 + 1))]) [1, 2, 3, 4, 0] rfl T
  replace T := T.2 c37
  refine J_iconst 97 rfl (D_X12_until_1.at 1 rfl) ?_
  refine J_goto 101 (D_X12_until_1.at 2 rfl) (by decide) ?_
  refine J_iadd 102 rfl (D_X12_until_1.at 4 rfl) ?_
  refine J_istore (lv' := [(4, vI (v4 + 0)), (0, vR 68), (1, vI v1), (2, vI v2), (3, vI v3)]) 104 rfl 4 (by decide) rfl (D_X12_until_1.at 5 rfl) ?_
  refine J_goto 58 (D_X12_until_1.at 6 rfl) (by decide) ?_
  exact J_sub (lv' := [(0, vR 68), (1, vI v1), (2, vI v2), (3, vI v3), (4, vI (v4 + 0))]) [1, 2, 3, 4, 0] rfl T
theorem l_X12_until_107 {w : Wd} {v1 v2 v4 : Int} {h : Hp} {K : Int → Hp → Prop} (T : C_X12_majorityIn w v2 h (fun r41 h42 => (inR r41) ∧ ((inR v1) ∧ (((r41 ≠ v1) → (L_X12_until_126 w v4 0 0 h42 K)) ∧ (¬ (r41 ≠ v1) → (L_X12_until_126 w v4 1 0 h42 K)))))) : L_X12_until_107 w v1 v2 v4 h K := by
  unfold L_X12_until_107
  refine J_aload_n 108 rfl 0 0 rfl ⟨by decide, by decide⟩ (D_X12_until_1.at 7 rfl) ?_
  refine J_iload_n 109 rfl 2 2 rfl (D_X12_until_1.at 8 rfl) ?_
  refine J_callV (d' := 3) (sr := fun z => [vI z]) (as := [vI v2]) (st := []) (o := 68) 112 rfl ok_X12_majorityIn im_X12_majorityIn se_X12_majorityIn ml_12_502 isC_12 ob_68 (Ob.lt ob_68) rfl (by decide) ⟨Nat.le_refl _, Nat.le_refl _⟩ (Nat.le_of_ble_eq_true rfl) (D_X12_until_1.at 9 rfl) (fun _ => rfl) T (fun r41 h42 T b43 => ?_)
  refine J_iload_n 113 rfl 1 1 rfl (D_X12_until_1.at 10 rfl) ?_
  obtain ⟨s44, T⟩ := T
  obtain ⟨s45, T⟩ := T
  refine J_icmp_ne 116 rfl 120 s44 s45 (D_X12_until_1.at 11 rfl) (by decide) (fun c46 => ?_) (fun c46 => ?_)
  · replace T := T.1 c46
    refine J_iconst 121 rfl (D_X12_until_1.at 14 rfl) ?_
    refine J_istore (lv' := [(5, vI 0), (0, vR 68), (1, vI v1), (2, vI v2), (4, vI v4)]) 123 rfl 5 (by decide) rfl (D_X12_until_1.at 15 rfl) ?_
    refine J_iconst 124 rfl (D_X12_until_1.at 16 rfl) ?_
    refine J_istore (lv' := [(6, vI 0), (5, vI 0), (0, vR 68), (1, vI v1), (2, vI v2), (4, vI v4)]) 126 rfl 6 (by decide) rfl (D_X12_until_1.at 17 rfl) ?_
    exact J_sub (lv' := [(0, vR 68), (4, vI v4), (5, vI 0), (6, vI 0)]) [2, 5, 1, 0] rfl T
  replace T := T.2 c46
  refine J_iconst 117 rfl (D_X12_until_1.at 12 rfl) ?_
  refine J_goto 121 (D_X12_until_1.at 13 rfl) (by decide) ?_
  refine J_istore (lv' := [(5, vI 1), (0, vR 68), (1, vI v1), (2, vI v2), (4, vI v4)]) 123 rfl 5 (by decide) rfl (D_X12_until_1.at 15 rfl) ?_
  refine J_iconst 124 rfl (D_X12_until_1.at 16 rfl) ?_
  refine J_istore (lv' := [(6, vI 0), (5, vI 1), (0, vR 68), (1, vI v1), (2, vI v2), (4, vI v4)]) 126 rfl 6 (by decide) rfl (D_X12_until_1.at 17 rfl) ?_
  exact J_sub (lv' := [(0, vR 68), (4, vI v4), (5, vI 1), (6, vI 0)]) [2, 5, 1, 0] rfl T
theorem l_X12_until_126 {w : Wd} {v4 v5 v6 : Int} {h : Hp} {K : Int → Hp → Prop} (T : (inR v6) ∧ (((v6 ≥ 109) → ((inR v5) ∧ (((v5 = 0) → (K (-1) h)) ∧ (¬ (v5 = 0) → (K v4 h))))) ∧ (¬ (v6 ≥ 109) → ((0 ≤ v6 ∧ v6 < 109) ∧ ((0 ≤ v6 ∧ v6 < 109) ∧ (∀ h52 : Hp, h52 = hu h 104 v6 (h 114 v6) → L_X12_until_126 w v4 v5 (v6 + 1) h52 K)))))) : L_X12_until_126 w v4 v5 v6 h K := by
  unfold L_X12_until_126
  refine J_iload 128 rfl 6 3 rfl (D_X12_until_1.at 18 rfl) ?_
  refine J_bipush 130 rfl ⟨by decide, by decide⟩ (D_X12_until_1.at 19 rfl) ?_
  obtain ⟨s47, T⟩ := T
  refine J_icmp_ge 133 rfl 153 s47 ⟨by decide, by decide⟩ (D_X12_until_1.at 20 rfl) (by decide) (fun c54 => ?_) (fun c54 => ?_)
  · replace T := T.1 c54
    refine J_iload 155 rfl 5 2 rfl (D_X12_until_1.at 31 rfl) ?_
    obtain ⟨s48, T⟩ := T
    refine J_if_eq 158 rfl 163 s48 (D_X12_until_1.at 32 rfl) (by decide) (fun c49 => ?_) (fun c49 => ?_)
    · replace T := T.1 c49
      refine J_iconst 164 rfl (D_X12_until_1.at 35 rfl) ?_
      exact J_iret rfl (D_X12_until_1.at 36 rfl) T
    replace T := T.2 c49
    refine J_iload 160 rfl 4 1 rfl (D_X12_until_1.at 33 rfl) ?_
    refine J_goto 164 (D_X12_until_1.at 34 rfl) (by decide) ?_
    exact J_iret rfl (D_X12_until_1.at 36 rfl) T
  replace T := T.2 c54
  refine J_aload_n 134 rfl 0 0 rfl ⟨by decide, by decide⟩ (D_X12_until_1.at 21 rfl) ?_
  refine J_getF (ov := 104) (dd := 1036) 137 rfl fl_12_121 rfl (by decide) rfl ob_68 (Ob.lt ob_68) (D_X12_until_1.at 22 rfl) ?_
  refine J_iload 139 rfl 6 3 rfl (D_X12_until_1.at 23 rfl) ?_
  refine J_aload_n 140 rfl 0 0 rfl ⟨by decide, by decide⟩ (D_X12_until_1.at 24 rfl) ?_
  refine J_getF (ov := 114) (dd := 1046) 143 rfl fl_12_155 rfl (by decide) rfl ob_68 (Ob.lt ob_68) (D_X12_until_1.at 25 rfl) ?_
  refine J_iload 145 rfl 6 3 rfl (D_X12_until_1.at 26 rfl) ?_
  obtain ⟨s50, T⟩ := T
  refine J_iald 146 rfl ar_114 (Ar.lt ar_114) s50 (D_X12_until_1.at 27 rfl) ?_
  obtain ⟨s51, T⟩ := T
  refine J_iastH 147 rfl ar_104 (Ar.lt ar_104) s51 trivial (D_X12_until_1.at 28 rfl) (fun h52 e53 => ?_)
  replace T := T h52 e53
  refine J_iinc (v := (v6 + 1)) (lv' := [(6, vI (v6 + 1)), (0, vR 68), (4, vI v4), (5, vI v5)]) 150 rfl 6 3 1 rfl rfl (by decide) rfl (D_X12_until_1.at 29 rfl) ?_
  refine J_goto 126 (D_X12_until_1.at 30 rfl) (by decide) ?_
  exact J_sub (lv' := [(0, vR 68), (4, vI v4), (5, vI v5), (6, vI (v6 + 1))]) [1, 2, 3, 0] rfl T
theorem l_X12_until_23 {w : Wd} {h : Hp} {K : Int → Hp → Prop} (T : K (-1) h) : L_X12_until_23 w h K := by
  unfold L_X12_until_23
  refine J_iconst 24 rfl (D_X12_until_0.at 11 rfl) ?_
  exact J_iret rfl (D_X12_until_0.at 12 rfl) T
theorem c_X12_river {w : Wd} {h : Hp} {K : Int → Hp → Prop} (T : ∀ h1 : Hp, h1 = hu h 68 3 (h 68 1) → ∀ h3 : Hp, h3 = hu h1 68 1 0 → ∀ h5 : Hp, h5 = hu h3 68 2 0 → ∀ h7 : Hp, h7 = hu h5 68 4 (-1) → ∀ h9 : Hp, h9 = hu h7 68 5 0 → ∀ h11 : Hp, h11 = hu h9 68 6 (-1) → ∀ h13 : Hp, h13 = hu h11 68 44 0 → L_X12_river_40 w 0 h13 K) : C_X12_river w h K := by
  refine CGm_of2 (by decide) (by decide) trivial (Nat.le_of_ble_eq_true rfl) ?_
  refine J_aload_n 1 rfl 0 0 rfl ⟨by decide, by decide⟩ (D_X12_river_0.at 0 rfl) ?_
  refine J_aload_n 2 rfl 0 0 rfl ⟨by decide, by decide⟩ (D_X12_river_0.at 1 rfl) ?_
  refine J_getI (z := (h 68 1)) 5 rfl fl_12_224 rfl ob_68 (Ob.lt ob_68) (D_X12_river_0.at 2 rfl) rfl ?_
  refine J_putI 8 rfl fl_12_236 rfl rfl ob_68 (Ob.lt ob_68) (D_X12_river_0.at 3 rfl) (fun h1 e2 => ?_)
  replace T := T h1 e2
  refine J_aload_n 9 rfl 0 0 rfl ⟨by decide, by decide⟩ (D_X12_river_0.at 4 rfl) ?_
  refine J_iconst 10 rfl (D_X12_river_0.at 5 rfl) ?_
  refine J_putI 13 rfl fl_12_224 rfl rfl ob_68 (Ob.lt ob_68) (D_X12_river_0.at 6 rfl) (fun h3 e4 => ?_)
  replace T := T h3 e4
  refine J_aload_n 14 rfl 0 0 rfl ⟨by decide, by decide⟩ (D_X12_river_0.at 7 rfl) ?_
  refine J_iconst 15 rfl (D_X12_river_0.at 8 rfl) ?_
  refine J_putI 18 rfl fl_12_233 rfl rfl ob_68 (Ob.lt ob_68) (D_X12_river_0.at 9 rfl) (fun h5 e6 => ?_)
  replace T := T h5 e6
  refine J_aload_n 19 rfl 0 0 rfl ⟨by decide, by decide⟩ (D_X12_river_0.at 10 rfl) ?_
  refine J_iconst 20 rfl (D_X12_river_0.at 11 rfl) ?_
  refine J_putI 23 rfl fl_12_247 rfl rfl ob_68 (Ob.lt ob_68) (D_X12_river_0.at 12 rfl) (fun h7 e8 => ?_)
  replace T := T h7 e8
  refine J_aload_n 24 rfl 0 0 rfl ⟨by decide, by decide⟩ (D_X12_river_0.at 13 rfl) ?_
  refine J_iconst 25 rfl (D_X12_river_0.at 14 rfl) ?_
  refine J_putI 28 rfl fl_12_227 rfl rfl ob_68 (Ob.lt ob_68) (D_X12_river_0.at 15 rfl) (fun h9 e10 => ?_)
  replace T := T h9 e10
  refine J_aload_n 29 rfl 0 0 rfl ⟨by decide, by decide⟩ (D_X12_river_0.at 16 rfl) ?_
  refine J_iconst 30 rfl (D_X12_river_0.at 17 rfl) ?_
  refine J_putI 33 rfl fl_12_230 rfl rfl ob_68 (Ob.lt ob_68) (D_X12_river_0.at 18 rfl) (fun h11 e12 => ?_)
  replace T := T h11 e12
  refine J_aload_n 34 rfl 0 0 rfl ⟨by decide, by decide⟩ (D_X12_river_0.at 19 rfl) ?_
  refine J_iconst 35 rfl (D_X12_river_0.at 20 rfl) ?_
  refine J_putI 38 rfl fl_12_312 rfl rfl ob_68 (Ob.lt ob_68) (D_X12_river_0.at 21 rfl) (fun h13 e14 => ?_)
  replace T := T h13 e14
  refine J_iconst 39 rfl (D_X12_river_0.at 22 rfl) ?_
  refine J_istore_n (lv' := [(1, vI 0), (0, vR 68)]) 40 rfl 1 (by decide) rfl (D_X12_river_0.at 23 rfl) ?_
  exact J_sub (lv' := [(0, vR 68), (1, vI 0)]) [1, 0] rfl T
theorem l_X12_river_40 {w : Wd} {v1 : Int} {h : Hp} {K : Int → Hp → Prop} (T : (inR v1) ∧ (((v1 ≥ 3) → (L_X12_river_60 w 0 h K)) ∧ (¬ (v1 ≥ 3) → ((0 ≤ v1 ∧ v1 < 6) ∧ (∀ h17 : Hp, h17 = hu h 93 v1 0 → L_X12_river_40 w (v1 + 1) h17 K))))) : L_X12_river_40 w v1 h K := by
  unfold L_X12_river_40
  refine J_iload_n 41 rfl 1 1 rfl (D_X12_river_0.at 24 rfl) ?_
  refine J_iconst 42 rfl (D_X12_river_0.at 25 rfl) ?_
  obtain ⟨s15, T⟩ := T
  refine J_icmp_ge 45 rfl 58 s15 ⟨by decide, by decide⟩ (D_X12_river_0.at 26 rfl) (by decide) (fun c19 => ?_) (fun c19 => ?_)
  · replace T := T.1 c19
    refine J_iconst 59 rfl (D_X12_river_0.at 34 rfl) ?_
    refine J_istore_n (lv' := [(1, vI 0), (0, vR 68)]) 60 rfl 1 (by decide) rfl (D_X12_river_0.at 35 rfl) ?_
    exact J_sub (lv' := [(0, vR 68), (1, vI 0)]) [1, 0] rfl T
  replace T := T.2 c19
  refine J_aload_n 46 rfl 0 0 rfl ⟨by decide, by decide⟩ (D_X12_river_0.at 27 rfl) ?_
  refine J_getF (ov := 93) (dd := 1025) 49 rfl fl_12_87 rfl (by decide) rfl ob_68 (Ob.lt ob_68) (D_X12_river_0.at 28 rfl) ?_
  refine J_iload_n 50 rfl 1 1 rfl (D_X12_river_0.at 29 rfl) ?_
  refine J_iconst 51 rfl (D_X12_river_0.at 30 rfl) ?_
  obtain ⟨s16, T⟩ := T
  refine J_iastH 52 rfl ar_93 (Ar.lt ar_93) s16 trivial (D_X12_river_0.at 31 rfl) (fun h17 e18 => ?_)
  replace T := T h17 e18
  refine J_iinc (v := (v1 + 1)) (lv' := [(1, vI (v1 + 1)), (0, vR 68)]) 55 rfl 1 1 1 rfl rfl (by decide) rfl (D_X12_river_0.at 32 rfl) ?_
  refine J_goto 40 (D_X12_river_0.at 33 rfl) (by decide) ?_
  exact J_sub (lv' := [(0, vR 68), (1, vI (v1 + 1))]) [1, 0] rfl T
theorem l_X12_river_60 {w : Wd} {v1 : Int} {h : Hp} {K : Int → Hp → Prop} (T : (inR v1) ∧ (((v1 ≥ 8) → (∀ h21 : Hp, h21 = hu h 97 0 10 → ∀ h23 : Hp, h23 = hu h21 97 1 20 → ∀ h25 : Hp, h25 = hu h23 97 2 0 → ∀ h27 : Hp, h27 = hu h25 98 0 (-1) → ∀ h29 : Hp, h29 = hu h27 98 1 (-1) → C_X12_asks w 71 h29 (fun _ h32 => C_X12_number w 3 8 h32 (fun r34 h35 => ∀ h37 : Hp, h37 = hu h35 68 35 r34 → C_X12_asksSign w 59 h37 (fun _ h40 => ∀ h42 : Hp, h42 = hu h40 68 42 1 → L_X12_river_146 w h42 K))))) ∧ (¬ (v1 ≥ 8) → ((0 ≤ v1 ∧ v1 < 16) ∧ (∀ h45 : Hp, h45 = hu h 95 v1 0 → L_X12_river_60 w (v1 + 1) h45 K))))) : L_X12_river_60 w v1 h K := by
  unfold L_X12_river_60
  refine J_iload_n 61 rfl 1 1 rfl (D_X12_river_0.at 36 rfl) ?_
  refine J_bipush 63 rfl ⟨by decide, by decide⟩ (D_X12_river_0.at 37 rfl) ?_
  obtain ⟨s20, T⟩ := T
  refine J_icmp_ge 66 rfl 79 s20 ⟨by decide, by decide⟩ (D_X12_river_0.at 38 rfl) (by decide) (fun c47 => ?_) (fun c47 => ?_)
  · replace T := T.1 c47
    refine J_aload_n 80 rfl 0 0 rfl ⟨by decide, by decide⟩ (D_X12_river_0.at 46 rfl) ?_
    refine J_getF (ov := 97) (dd := 1029) 83 rfl fl_12_100 rfl (by decide) rfl ob_68 (Ob.lt ob_68) (D_X12_river_0.at 47 rfl) ?_
    refine J_iconst 84 rfl (D_X12_river_1.at 0 rfl) ?_
    refine J_bipush 86 rfl ⟨by decide, by decide⟩ (D_X12_river_1.at 1 rfl) ?_
    refine J_iastH 87 rfl ar_97 (Ar.lt ar_97) ⟨by decide, by decide⟩ trivial (D_X12_river_1.at 2 rfl) (fun h21 e22 => ?_)
    replace T := T h21 e22
    refine J_aload_n 88 rfl 0 0 rfl ⟨by decide, by decide⟩ (D_X12_river_1.at 3 rfl) ?_
    refine J_getF (ov := 97) (dd := 1029) 91 rfl fl_12_100 rfl (by decide) rfl ob_68 (Ob.lt ob_68) (D_X12_river_1.at 4 rfl) ?_
    refine J_iconst 92 rfl (D_X12_river_1.at 5 rfl) ?_
    refine J_bipush 94 rfl ⟨by decide, by decide⟩ (D_X12_river_1.at 6 rfl) ?_
    refine J_iastH 95 rfl ar_97 (Ar.lt ar_97) ⟨by decide, by decide⟩ trivial (D_X12_river_1.at 7 rfl) (fun h23 e24 => ?_)
    replace T := T h23 e24
    refine J_aload_n 96 rfl 0 0 rfl ⟨by decide, by decide⟩ (D_X12_river_1.at 8 rfl) ?_
    refine J_getF (ov := 97) (dd := 1029) 99 rfl fl_12_100 rfl (by decide) rfl ob_68 (Ob.lt ob_68) (D_X12_river_1.at 9 rfl) ?_
    refine J_iconst 100 rfl (D_X12_river_1.at 10 rfl) ?_
    refine J_iconst 101 rfl (D_X12_river_1.at 11 rfl) ?_
    refine J_iastH 102 rfl ar_97 (Ar.lt ar_97) ⟨by decide, by decide⟩ trivial (D_X12_river_1.at 12 rfl) (fun h25 e26 => ?_)
    replace T := T h25 e26
    refine J_aload_n 103 rfl 0 0 rfl ⟨by decide, by decide⟩ (D_X12_river_1.at 13 rfl) ?_
    refine J_getF (ov := 98) (dd := 1030) 106 rfl fl_12_103 rfl (by decide) rfl ob_68 (Ob.lt ob_68) (D_X12_river_1.at 14 rfl) ?_
    refine J_iconst 107 rfl (D_X12_river_1.at 15 rfl) ?_
    refine J_iconst 108 rfl (D_X12_river_1.at 16 rfl) ?_
    refine J_iastH 109 rfl ar_98 (Ar.lt ar_98) ⟨by decide, by decide⟩ trivial (D_X12_river_1.at 17 rfl) (fun h27 e28 => ?_)
    replace T := T h27 e28
    refine J_aload_n 110 rfl 0 0 rfl ⟨by decide, by decide⟩ (D_X12_river_1.at 18 rfl) ?_
    refine J_getF (ov := 98) (dd := 1030) 113 rfl fl_12_103 rfl (by decide) rfl ob_68 (Ob.lt ob_68) (D_X12_river_1.at 19 rfl) ?_
    refine J_iconst 114 rfl (D_X12_river_1.at 20 rfl) ?_
    refine J_iconst 115 rfl (D_X12_river_1.at 21 rfl) ?_
    refine J_iastH 116 rfl ar_98 (Ar.lt ar_98) ⟨by decide, by decide⟩ trivial (D_X12_river_1.at 22 rfl) (fun h29 e30 => ?_)
    replace T := T h29 e30
    refine J_aload_n 117 rfl 0 0 rfl ⟨by decide, by decide⟩ (D_X12_river_1.at 23 rfl) ?_
    refine J_aload_n 118 rfl 0 0 rfl ⟨by decide, by decide⟩ (D_X12_river_1.at 24 rfl) ?_
    refine J_getF (ov := 71) (dd := 1003) 121 rfl fl_12_20 rfl (by decide) rfl ob_68 (Ob.lt ob_68) (D_X12_river_1.at 25 rfl) ?_
    refine J_callV (d' := 4) (sr := fun z => []) (as := [vR 71]) (st := []) (o := 68) 124 rfl ok_X12_asks im_X12_asks se_X12_asks ml_12_301 isC_12 ob_68 (Ob.lt ob_68) rfl (by decide) ⟨Nat.le_refl _, Nat.le_refl _⟩ (Nat.le_of_ble_eq_true rfl) (D_X12_river_1.at 26 rfl) (fun _ => rfl) T (fun r31 h32 T b33 => ?_)
    refine J_aload_n 125 rfl 0 0 rfl ⟨by decide, by decide⟩ (D_X12_river_1.at 27 rfl) ?_
    refine J_aload_n 126 rfl 0 0 rfl ⟨by decide, by decide⟩ (D_X12_river_1.at 28 rfl) ?_
    refine J_iconst 127 rfl (D_X12_river_1.at 29 rfl) ?_
    refine J_bipush 129 rfl ⟨by decide, by decide⟩ (D_X12_river_1.at 30 rfl) ?_
    refine J_callV (d' := 2) (sr := fun z => [vI z, vR 68]) (as := [vI 3, vI 8]) (st := [vR 68]) (o := 68) 132 rfl ok_X12_number im_X12_number se_X12_number ml_12_297 isC_12 ob_68 (Ob.lt ob_68) rfl (by decide) ⟨Nat.le_refl _, Nat.le_refl _⟩ (Nat.le_of_ble_eq_true rfl) (D_X12_river_1.at 31 rfl) (fun _ => rfl) T (fun r34 h35 T b36 => ?_)
    refine J_putI 135 rfl fl_12_305 rfl rfl ob_68 (Ob.lt ob_68) (D_X12_river_1.at 32 rfl) (fun h37 e38 => ?_)
    replace T := T h37 e38
    refine J_aload_n 136 rfl 0 0 rfl ⟨by decide, by decide⟩ (D_X12_river_1.at 33 rfl) ?_
    refine J_bipush 138 rfl ⟨by decide, by decide⟩ (D_X12_river_1.at 34 rfl) ?_
    refine J_callV (d' := 3) (sr := fun z => []) (as := [vI 59]) (st := []) (o := 68) 141 rfl ok_X12_asksSign im_X12_asksSign se_X12_asksSign ml_12_344 isC_12 ob_68 (Ob.lt ob_68) rfl (by decide) ⟨Nat.le_refl _, Nat.le_refl _⟩ (Nat.le_of_ble_eq_true rfl) (D_X12_river_1.at 35 rfl) (fun _ => rfl) T (fun r39 h40 T b41 => ?_)
    refine J_aload_n 142 rfl 0 0 rfl ⟨by decide, by decide⟩ (D_X12_river_1.at 36 rfl) ?_
    refine J_iconst 143 rfl (D_X12_river_1.at 37 rfl) ?_
    refine J_putI 146 rfl fl_12_327 rfl rfl ob_68 (Ob.lt ob_68) (D_X12_river_1.at 38 rfl) (fun h42 e43 => ?_)
    replace T := T h42 e43
    exact J_sub (lv' := [(0, vR 68)]) [0] rfl T
  replace T := T.2 c47
  refine J_aload_n 67 rfl 0 0 rfl ⟨by decide, by decide⟩ (D_X12_river_0.at 39 rfl) ?_
  refine J_getF (ov := 95) (dd := 1027) 70 rfl fl_12_94 rfl (by decide) rfl ob_68 (Ob.lt ob_68) (D_X12_river_0.at 40 rfl) ?_
  refine J_iload_n 71 rfl 1 1 rfl (D_X12_river_0.at 41 rfl) ?_
  refine J_iconst 72 rfl (D_X12_river_0.at 42 rfl) ?_
  obtain ⟨s44, T⟩ := T
  refine J_iastH 73 rfl ar_95 (Ar.lt ar_95) s44 trivial (D_X12_river_0.at 43 rfl) (fun h45 e46 => ?_)
  replace T := T h45 e46
  refine J_iinc (v := (v1 + 1)) (lv' := [(1, vI (v1 + 1)), (0, vR 68)]) 76 rfl 1 1 1 rfl rfl (by decide) rfl (D_X12_river_0.at 44 rfl) ?_
  refine J_goto 60 (D_X12_river_0.at 45 rfl) (by decide) ?_
  exact J_sub (lv' := [(0, vR 68), (1, vI (v1 + 1))]) [1, 0] rfl T
theorem l_X12_river_146 {w : Wd} {h : Hp} {K : Int → Hp → Prop} (T : (inR (h 68 5)) ∧ ((((h 68 5) ≠ 0) → (∀ h49 : Hp, h49 = hu h 68 7 (h 68 5) → ∀ h51 : Hp, h51 = hu h49 68 8 (h49 68 6) → (inR (h51 68 5)) ∧ ((((h51 68 5) = 0) → (C_X12_stands w h51 (fun _ h55 => K (h55 68 42) h55))) ∧ (¬ ((h51 68 5) = 0) → (∀ h57 : Hp, h57 = hu h51 70 1 ((h51 70 1) + 1) → K (-1) h57))))) ∧ (¬ ((h 68 5) ≠ 0) → (C_X12_look w h (fun r60 h61 => (inR r60) ∧ (((r60 = (-1)) → (∀ h64 : Hp, h64 = hu h61 68 7 (h61 68 5) → ∀ h66 : Hp, h66 = hu h64 68 8 (h64 68 6) → (inR (h66 68 5)) ∧ ((((h66 68 5) = 0) → (C_X12_stands w h66 (fun _ h70 => K (h70 68 42) h70))) ∧ (¬ ((h66 68 5) = 0) → (∀ h72 : Hp, h72 = hu h66 70 1 ((h66 70 1) + 1) → K (-1) h72))))) ∧ (¬ (r60 = (-1)) → (C_X12_statementTold w h61 (fun _ h76 => L_X12_river_146 w h76 K))))))))) : L_X12_river_146 w h K := by
  unfold L_X12_river_146
  refine J_aload_n 147 rfl 0 0 rfl ⟨by decide, by decide⟩ (D_X12_river_1.at 39 rfl) ?_
  refine J_getI (z := (h 68 5)) 150 rfl fl_12_227 rfl ob_68 (Ob.lt ob_68) (D_X12_river_1.at 40 rfl) rfl ?_
  obtain ⟨s48, T⟩ := T
  refine J_if_ne 153 rfl 168 s48 (D_X12_river_1.at 41 rfl) (by decide) (fun c79 => ?_) (fun c79 => ?_)
  · replace T := T.1 c79
    refine J_aload_n 169 rfl 0 0 rfl ⟨by decide, by decide⟩ (D_X12_river_2.at 1 rfl) ?_
    refine J_aload_n 170 rfl 0 0 rfl ⟨by decide, by decide⟩ (D_X12_river_2.at 2 rfl) ?_
    refine J_getI (z := (h 68 5)) 173 rfl fl_12_227 rfl ob_68 (Ob.lt ob_68) (D_X12_river_2.at 3 rfl) rfl ?_
    refine J_putI 176 rfl fl_12_350 rfl rfl ob_68 (Ob.lt ob_68) (D_X12_river_2.at 4 rfl) (fun h49 e50 => ?_)
    replace T := T h49 e50
    refine J_aload_n 177 rfl 0 0 rfl ⟨by decide, by decide⟩ (D_X12_river_2.at 5 rfl) ?_
    refine J_aload_n 178 rfl 0 0 rfl ⟨by decide, by decide⟩ (D_X12_river_2.at 6 rfl) ?_
    refine J_getI (z := (h49 68 6)) 181 rfl fl_12_230 rfl ob_68 (Ob.lt ob_68) (D_X12_river_2.at 7 rfl) rfl ?_
    refine J_putI 184 rfl fl_12_13 rfl rfl ob_68 (Ob.lt ob_68) (D_X12_river_2.at 8 rfl) (fun h51 e52 => ?_)
    replace T := T h51 e52
    refine J_aload_n 185 rfl 0 0 rfl ⟨by decide, by decide⟩ (D_X12_river_2.at 9 rfl) ?_
    refine J_getI (z := (h51 68 5)) 188 rfl fl_12_227 rfl ob_68 (Ob.lt ob_68) (D_X12_river_2.at 10 rfl) rfl ?_
    obtain ⟨s53, T⟩ := T
    refine J_if_eq 191 rfl 203 s53 (D_X12_river_2.at 11 rfl) (by decide) (fun c59 => ?_) (fun c59 => ?_)
    · replace T := T.1 c59
      refine J_aload_n 204 rfl 0 0 rfl ⟨by decide, by decide⟩ (D_X12_river_2.at 22 rfl) ?_
      refine J_callV (d' := 1) (sr := fun z => []) (as := []) (st := []) (o := 68) 207 rfl ok_X12_stands im_X12_stands se_X12_stands ml_12_353 isC_12 ob_68 (Ob.lt ob_68) rfl (by decide) ⟨Nat.le_refl _, Nat.le_refl _⟩ (Nat.le_of_ble_eq_true rfl) (D_X12_river_2.at 23 rfl) (fun _ => rfl) T (fun r54 h55 T b56 => ?_)
      refine J_aload_n 208 rfl 0 0 rfl ⟨by decide, by decide⟩ (D_X12_river_2.at 24 rfl) ?_
      refine J_getI (z := (h55 68 42)) 211 rfl fl_12_327 rfl ob_68 (Ob.lt ob_68) (D_X12_river_2.at 25 rfl) rfl ?_
      exact J_iret rfl (D_X12_river_2.at 26 rfl) T
    replace T := T.2 c59
    refine J_aload_n 192 rfl 0 0 rfl ⟨by decide, by decide⟩ (D_X12_river_2.at 12 rfl) ?_
    refine J_getF (ov := 70) (dd := 1002) 195 rfl fl_12_17 rfl (by decide) rfl ob_68 (Ob.lt ob_68) (D_X12_river_2.at 13 rfl) ?_
    refine J_iconst 196 rfl (D_X12_river_2.at 14 rfl) ?_
    refine J_dup2 197 rfl rfl rfl (D_X12_river_2.at 15 rfl) ?_
    refine J_iald 198 rfl ar_70 (Ar.lt ar_70) ⟨by decide, by decide⟩ (D_X12_river_2.at 16 rfl) ?_
    refine J_iconst 199 rfl (D_X12_river_2.at 17 rfl) ?_
    refine J_iadd 200 rfl (D_X12_river_2.at 18 rfl) ?_
    refine J_iastH 201 rfl ar_70 (Ar.lt ar_70) ⟨by decide, by decide⟩ trivial (D_X12_river_2.at 19 rfl) (fun h57 e58 => ?_)
    replace T := T h57 e58
    refine J_iconst 202 rfl (D_X12_river_2.at 20 rfl) ?_
    exact J_iret rfl (D_X12_river_2.at 21 rfl) T
  replace T := T.2 c79
  refine J_aload_n 154 rfl 0 0 rfl ⟨by decide, by decide⟩ (D_X12_river_1.at 42 rfl) ?_
  refine J_callV (d' := 1) (sr := fun z => [vI z]) (as := []) (st := []) (o := 68) 157 rfl ok_X12_look im_X12_look se_X12_look ml_12_239 isC_12 ob_68 (Ob.lt ob_68) rfl (by decide) ⟨Nat.le_refl _, Nat.le_refl _⟩ (Nat.le_of_ble_eq_true rfl) (D_X12_river_1.at 43 rfl) (fun _ => rfl) T (fun r60 h61 T b62 => ?_)
  refine J_iconst 158 rfl (D_X12_river_1.at 44 rfl) ?_
  obtain ⟨s63, T⟩ := T
  refine J_icmp_eq 161 rfl 168 s63 ⟨by decide, by decide⟩ (D_X12_river_1.at 45 rfl) (by decide) (fun c78 => ?_) (fun c78 => ?_)
  · replace T := T.1 c78
    refine J_aload_n 169 rfl 0 0 rfl ⟨by decide, by decide⟩ (D_X12_river_2.at 1 rfl) ?_
    refine J_aload_n 170 rfl 0 0 rfl ⟨by decide, by decide⟩ (D_X12_river_2.at 2 rfl) ?_
    refine J_getI (z := (h61 68 5)) 173 rfl fl_12_227 rfl ob_68 (Ob.lt ob_68) (D_X12_river_2.at 3 rfl) rfl ?_
    refine J_putI 176 rfl fl_12_350 rfl rfl ob_68 (Ob.lt ob_68) (D_X12_river_2.at 4 rfl) (fun h64 e65 => ?_)
    replace T := T h64 e65
    refine J_aload_n 177 rfl 0 0 rfl ⟨by decide, by decide⟩ (D_X12_river_2.at 5 rfl) ?_
    refine J_aload_n 178 rfl 0 0 rfl ⟨by decide, by decide⟩ (D_X12_river_2.at 6 rfl) ?_
    refine J_getI (z := (h64 68 6)) 181 rfl fl_12_230 rfl ob_68 (Ob.lt ob_68) (D_X12_river_2.at 7 rfl) rfl ?_
    refine J_putI 184 rfl fl_12_13 rfl rfl ob_68 (Ob.lt ob_68) (D_X12_river_2.at 8 rfl) (fun h66 e67 => ?_)
    replace T := T h66 e67
    refine J_aload_n 185 rfl 0 0 rfl ⟨by decide, by decide⟩ (D_X12_river_2.at 9 rfl) ?_
    refine J_getI (z := (h66 68 5)) 188 rfl fl_12_227 rfl ob_68 (Ob.lt ob_68) (D_X12_river_2.at 10 rfl) rfl ?_
    obtain ⟨s68, T⟩ := T
    refine J_if_eq 191 rfl 203 s68 (D_X12_river_2.at 11 rfl) (by decide) (fun c74 => ?_) (fun c74 => ?_)
    · replace T := T.1 c74
      refine J_aload_n 204 rfl 0 0 rfl ⟨by decide, by decide⟩ (D_X12_river_2.at 22 rfl) ?_
      refine J_callV (d' := 1) (sr := fun z => []) (as := []) (st := []) (o := 68) 207 rfl ok_X12_stands im_X12_stands se_X12_stands ml_12_353 isC_12 ob_68 (Ob.lt ob_68) rfl (by decide) ⟨Nat.le_refl _, Nat.le_refl _⟩ (Nat.le_of_ble_eq_true rfl) (D_X12_river_2.at 23 rfl) (fun _ => rfl) T (fun r69 h70 T b71 => ?_)
      refine J_aload_n 208 rfl 0 0 rfl ⟨by decide, by decide⟩ (D_X12_river_2.at 24 rfl) ?_
      refine J_getI (z := (h70 68 42)) 211 rfl fl_12_327 rfl ob_68 (Ob.lt ob_68) (D_X12_river_2.at 25 rfl) rfl ?_
      exact J_iret rfl (D_X12_river_2.at 26 rfl) T
    replace T := T.2 c74
    refine J_aload_n 192 rfl 0 0 rfl ⟨by decide, by decide⟩ (D_X12_river_2.at 12 rfl) ?_
    refine J_getF (ov := 70) (dd := 1002) 195 rfl fl_12_17 rfl (by decide) rfl ob_68 (Ob.lt ob_68) (D_X12_river_2.at 13 rfl) ?_
    refine J_iconst 196 rfl (D_X12_river_2.at 14 rfl) ?_
    refine J_dup2 197 rfl rfl rfl (D_X12_river_2.at 15 rfl) ?_
    refine J_iald 198 rfl ar_70 (Ar.lt ar_70) ⟨by decide, by decide⟩ (D_X12_river_2.at 16 rfl) ?_
    refine J_iconst 199 rfl (D_X12_river_2.at 17 rfl) ?_
    refine J_iadd 200 rfl (D_X12_river_2.at 18 rfl) ?_
    refine J_iastH 201 rfl ar_70 (Ar.lt ar_70) ⟨by decide, by decide⟩ trivial (D_X12_river_2.at 19 rfl) (fun h72 e73 => ?_)
    replace T := T h72 e73
    refine J_iconst 202 rfl (D_X12_river_2.at 20 rfl) ?_
    exact J_iret rfl (D_X12_river_2.at 21 rfl) T
  replace T := T.2 c78
  refine J_aload_n 162 rfl 0 0 rfl ⟨by decide, by decide⟩ (D_X12_river_1.at 46 rfl) ?_
  refine J_callV (d' := 8) (sr := fun z => []) (as := []) (st := []) (o := 68) 165 rfl ok_X12_statementTold im_X12_statementTold se_X12_statementTold ml_12_347 isC_12 ob_68 (Ob.lt ob_68) rfl (by decide) ⟨Nat.le_refl _, Nat.le_refl _⟩ (Nat.le_of_ble_eq_true rfl) (D_X12_river_1.at 47 rfl) (fun _ => rfl) T (fun r75 h76 T b77 => ?_)
  refine J_goto 146 (D_X12_river_2.at 0 rfl) (by decide) ?_
  exact T
