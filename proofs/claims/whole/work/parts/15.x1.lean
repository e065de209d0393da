def C_X7_clear (w : Wd) (o : Int) (h : Hp) (K : Int → Hp → Prop) : Prop := CGm w true m_X7_clear 1 NT NT [vR o] h K
def L_X7_clear_26 (w : Wd) (o v1 : Int) (h : Hp) (K : Int → Hp → Prop) : Prop := JG w true m_X7_clear 1 NT NT 26 [(0, vR o), (1, vI v1)] [] h K
def L_X7_clear_50 (w : Wd) (o v1 : Int) (h : Hp) (K : Int → Hp → Prop) : Prop := JG w true m_X7_clear 1 NT NT 50 [(0, vR o), (1, vI v1)] [] h K
def C_X10_append (w : Wd) (a1 : Int) (h : Hp) (K : Int → Hp → Prop) : Prop := CGm w true m_X10_append 1 NT NT [vR 1, vI a1] h K
def L_X10_append_3 (w : Wd) (v1 v2 : Int) (h : Hp) (K : Int → Hp → Prop) : Prop := JG w true m_X10_append 1 NT NT 3 [(0, vR 1), (1, vI v1), (2, vI v2)] [] h K
def C_X10_begin (w : Wd) (h : Hp) (K : Int → Hp → Prop) : Prop := CGm w true m_X10_begin 1 NT NT [vR 1] h K
def C_X10_next (w : Wd) (h : Hp) (K : Int → Hp → Prop) : Prop := CGm w true m_X10_next 1 NT NT [vR 1] h K
def L_X10_next_0 (w : Wd) (h : Hp) (K : Int → Hp → Prop) : Prop := JG w true m_X10_next 1 NT NT 0 [(0, vR 1)] [] h K
def C_X10_fail (w : Wd) (a1 a2 : Int) (h : Hp) (K : Int → Hp → Prop) : Prop := CGm w true m_X10_fail 1 NT NT [vR 1, vI a1, vI a2] h K
def C_X10_byteAt (w : Wd) (a1 : Int) (h : Hp) (K : Int → Hp → Prop) : Prop := CGm w true m_X10_byteAt 1 NT NT [vR 1, vI a1] h K
def C_X10_isLetter (w : Wd) (a1 : Int) (h : Hp) (K : Int → Hp → Prop) : Prop := CGm w true m_X10_isLetter 1 NT NT [vI a1] h K
def C_X10_isGlued (w : Wd) (h : Hp) (K : Int → Hp → Prop) : Prop := CGm w true m_X10_isGlued 1 NT NT [vR 1] h K
def C_X10_isDigit (w : Wd) (a1 : Int) (h : Hp) (K : Int → Hp → Prop) : Prop := CGm w true m_X10_isDigit 1 NT NT [vI a1] h K
def C_X7_hasReach (w : Wd) (o a1 : Int) (h : Hp) (K : Int → Hp → Prop) : Prop := CGm w true m_X7_hasReach 1 NT NT [vR o, vI a1] h K
def C_X4_isFull (w : Wd) (o : Int) (h : Hp) (K : Int → Hp → Prop) : Prop := CGm w true m_X4_isFull 1 NT NT [vR o] h K
def C_X10_packedLetter (w : Wd) (a1 a2 : Int) (h : Hp) (K : Int → Hp → Prop) : Prop := CGm w true m_X10_packedLetter 1 NT NT [vI a1, vI a2] h K
def C_X4_indexOf (w : Wd) (o a1 : Int) (h : Hp) (K : Int → Hp → Prop) : Prop := CGm w true m_X4_indexOf 1 NT NT [vR o, vI a1] h K
def L_X4_indexOf_2 (w : Wd) (o v1 v2 : Int) (h : Hp) (K : Int → Hp → Prop) : Prop := JG w true m_X4_indexOf 1 NT NT 2 [(0, vR o), (1, vI v1), (2, vI v2)] [] h K
def C_X7_hasBank (w : Wd) (o a1 : Int) (h : Hp) (K : Int → Hp → Prop) : Prop := CGm w true m_X7_hasBank 1 NT NT [vR o, vI a1] h K
def C_X1_isTold (w : Wd) (o : Int) (h : Hp) (K : Int → Hp → Prop) : Prop := CGm w true m_X1_isTold 1 NT NT [vR o] h K
def C_X1_put (w : Wd) (o a1 : Int) (h : Hp) (K : Int → Hp → Prop) : Prop := CGm w true m_X1_put 1 NT NT [vR o, vI a1] h K
def C_X9_clear (w : Wd) (o a1 : Int) (h : Hp) (K : Int → Hp → Prop) : Prop := CGm w true m_X9_clear 1 NT NT [vR o, vR a1] h K
def L_X9_clear_7 (w : Wd) (o v1 v2 : Int) (h : Hp) (K : Int → Hp → Prop) : Prop := JG w true m_X9_clear 1 NT NT 7 [(0, vR o), (1, vR v1), (2, vI v2)] [] h K
def L_X9_clear_31 (w : Wd) (o v1 v2 : Int) (h : Hp) (K : Int → Hp → Prop) : Prop := JG w true m_X9_clear 1 NT NT 31 [(0, vR o), (1, vR v1), (2, vI v2)] [] h K
def L_X9_clear_55 (w : Wd) (o v1 v2 : Int) (h : Hp) (K : Int → Hp → Prop) : Prop := JG w true m_X9_clear 1 NT NT 55 [(0, vR o), (1, vR v1), (2, vI v2)] [] h K
def C_X5_clear (w : Wd) (h : Hp) (K : Int → Hp → Prop) : Prop := CGm w true m_X5_clear 1 NT NT [vR 50] h K
def C_X11_total (w : Wd) (a1 : Int) (h : Hp) (K : Int → Hp → Prop) : Prop := CGm w true m_X11_total 1 NT NT [vR a1] h K
def L_X11_total_4 (w : Wd) (v0 v1 v2 : Int) (h : Hp) (K : Int → Hp → Prop) : Prop := JG w true m_X11_total 1 NT NT 4 [(0, vR v0), (1, vI v1), (2, vI v2)] [] h K
def C_X4_letterOf (w : Wd) (o a1 a2 : Int) (h : Hp) (K : Int → Hp → Prop) : Prop := CGm w true m_X4_letterOf 1 NT NT [vR o, vI a1, vI a2] h K
def C_X11_cell (w : Wd) (a1 a2 : Int) (h : Hp) (K : Int → Hp → Prop) : Prop := CGm w true m_X11_cell 1 NT NT [vI a1, vI a2] h K
def C_X7_hasOwner (w : Wd) (o a1 : Int) (h : Hp) (K : Int → Hp → Prop) : Prop := CGm w true m_X7_hasOwner 1 NT NT [vR o, vI a1] h K
def C_X11_thousandths (w : Wd) (a1 a2 : Int) (h : Hp) (K : Int → Hp → Prop) : Prop := CGm w true m_X11_thousandths 1 NT NT [vI a1, vI a2] h K
def C_X7_hasColour (w : Wd) (o a1 : Int) (h : Hp) (K : Int → Hp → Prop) : Prop := CGm w true m_X7_hasColour 1 NT NT [vR o, vI a1] h K
def C_X11_isLevel (w : Wd) (a1 : Int) (h : Hp) (K : Int → Hp → Prop) : Prop := CGm w true m_X11_isLevel 1 NT NT [vI a1] h K
def C_X0_aim (w : Wd) (a1 a2 a3 : Int) (h : Hp) (K : Int → Hp → Prop) : Prop := CGm w true m_X0_aim 1 NT NT [vR 61, vR a1, vR a2, vI a3] h K
def C_X0_flowIn (w : Wd) (a1 : Int) (h : Hp) (K : Int → Hp → Prop) : Prop := CGm w true m_X0_flowIn 1 NT NT [vR 61, vI a1] h K
def C_X6_push (w : Wd) (a1 : Int) (h : Hp) (K : Int → Hp → Prop) : Prop := CGm w true m_X6_push 1 NT NT [vR 52, vI a1] h K
def C_X6_entry (w : Wd) (a1 a2 : Int) (h : Hp) (K : Int → Hp → Prop) : Prop := CGm w true m_X6_entry 1 NT NT [vR a1, vI a2] h K
def C_X6_pop (w : Wd) (h : Hp) (K : Int → Hp → Prop) : Prop := CGm w true m_X6_pop 1 NT NT [vR 52] h K
def C_X11_within (w : Wd) (a1 a2 a3 : Int) (h : Hp) (K : Int → Hp → Prop) : Prop := CGm w true m_X11_within 1 NT NT [vL a1, vI a2, vI a3] h K
def C_X0_taken (w : Wd) (h : Hp) (K : Int → Hp → Prop) : Prop := CGm w true m_X0_taken 1 NT NT [vR 61] h K
def L_X0_taken_4 (w : Wd) (v1 v2 : Int) (h : Hp) (K : Int → Hp → Prop) : Prop := JG w true m_X0_taken 1 NT NT 4 [(0, vR 61), (1, vI v1), (2, vI v2)] [] h K
def C_X5_store (w : Wd) (a1 : Int) (h : Hp) (K : Int → Hp → Prop) : Prop := CGm w true m_X5_store 1 NT NT [vR 50, vR a1] h K
def C_X9_payInterest (w : Wd) (o a1 : Int) (h : Hp) (K : Int → Hp → Prop) : Prop := CGm w true m_X9_payInterest 1 NT NT [vR o, vI a1] h K
def L_X9_payInterest_2 (w : Wd) (o v1 v2 : Int) (h : Hp) (K : Int → Hp → Prop) : Prop := JG w true m_X9_payInterest 1 NT NT 2 [(0, vR o), (1, vI v1), (2, vI v2)] [] h K
def C_X5_giveBack (w : Wd) (a1 : Int) (h : Hp) (K : Int → Hp → Prop) : Prop := CGm w true m_X5_giveBack 1 NT NT [vR 50, vR a1] h K
def C_X3_begin (w : Wd) (h : Hp) (K : Int → Hp → Prop) : Prop := CGm w true m_X3_begin 1 NT NT [vR 66] h K
def L_X3_begin_7 (w : Wd) (v1 : Int) (h : Hp) (K : Int → Hp → Prop) : Prop := JG w true m_X3_begin 1 NT NT 7 [(0, vR 66), (1, vI v1)] [] h K
def C_X3_countUp (w : Wd) (a1 : Int) (h : Hp) (K : Int → Hp → Prop) : Prop := CGm w true m_X3_countUp 1 NT NT [vR 66, vI a1] h K
def L_X3_countUp_2 (w : Wd) (v2 : Int) (h : Hp) (K : Int → Hp → Prop) : Prop := JG w true m_X3_countUp 1 NT NT 2 [(0, vR 66), (2, vI v2)] [] h K
def C_X3_answer (w : Wd) (a1 : Int) (h : Hp) (K : Int → Hp → Prop) : Prop := CGm w true m_X3_answer 1 NT NT [vR 66, vI a1] h K
def C_X9_copy (w : Wd) (o a1 : Int) (h : Hp) (K : Int → Hp → Prop) : Prop := CGm w true m_X9_copy 1 NT NT [vR o, vR a1] h K
def C_X11_checkBehind (w : Wd) (a1 a2 : Int) (h : Hp) (K : Int → Hp → Prop) : Prop := CGm w true m_X11_checkBehind 1 NT NT [vI a1, vI a2] h K
def C_JM_floorDiv (w : Wd) (a1 a2 : Int) (h : Hp) (K : Int → Hp → Prop) : Prop := CGm w true m_JM_floorDiv 1 NT NT [vI a1, vI a2] h K
def C_X10_isMore (w : Wd) (h : Hp) (K : Int → Hp → Prop) : Prop := CGm w true m_X10_isMore 2 NT NT [vR 1] h K
def C_X10_failHere (w : Wd) (h : Hp) (K : Int → Hp → Prop) : Prop := CGm w true m_X10_failHere 2 NT NT [vR 1] h K
def C_X7_isNamed (w : Wd) (o a1 : Int) (h : Hp) (K : Int → Hp → Prop) : Prop := CGm w true m_X7_isNamed 2 NT NT [vR o, vI a1] h K
def C_X4_add (w : Wd) (o a1 : Int) (h : Hp) (K : Int → Hp → Prop) : Prop := CGm w true m_X4_add 2 NT NT [vR o, vI a1] h K
def C_X10_isDigitNext (w : Wd) (h : Hp) (K : Int → Hp → Prop) : Prop := CGm w true m_X10_isDigitNext 2 NT NT [vR 1] h K
def C_X10_sign (w : Wd) (a1 : Int) (h : Hp) (K : Int → Hp → Prop) : Prop := CGm w true m_X10_sign 2 NT NT [vR 1, vI a1] h K
def C_X9_lyingOf (w : Wd) (o a1 : Int) (h : Hp) (K : Int → Hp → Prop) : Prop := CGm w true m_X9_lyingOf 2 NT NT [vR o, vI a1] h K
def L_X9_lyingOf_4 (w : Wd) (o v1 v2 v3 : Int) (h : Hp) (K : Int → Hp → Prop) : Prop := JG w true m_X9_lyingOf 2 NT NT 4 [(0, vR o), (1, vI v1), (2, vI v2), (3, vI v3)] [] h K
def C_X9_lyingIn (w : Wd) (o a1 : Int) (h : Hp) (K : Int → Hp → Prop) : Prop := CGm w true m_X9_lyingIn 2 NT NT [vR o, vI a1] h K
def L_X9_lyingIn_4 (w : Wd) (o v1 v2 v3 : Int) (h : Hp) (K : Int → Hp → Prop) : Prop := JG w true m_X9_lyingIn 2 NT NT 4 [(0, vR o), (1, vI v1), (2, vI v2), (3, vI v3)] [] h K
def C_X9_owned (w : Wd) (o a1 a2 a3 : Int) (h : Hp) (K : Int → Hp → Prop) : Prop := CGm w true m_X9_owned 2 NT NT [vR o, vR a1, vI a2, vI a3] h K
def L_X9_owned_6 (w : Wd) (o v1 v2 v3 v4 v5 : Int) (h : Hp) (K : Int → Hp → Prop) : Prop := JG w true m_X9_owned 2 NT NT 6 [(0, vR o), (1, vR v1), (2, vI v2), (3, vI v3), (4, vI v4), (5, vI v5)] [] h K
def C_X9_coloured (w : Wd) (o a1 a2 a3 : Int) (h : Hp) (K : Int → Hp → Prop) : Prop := CGm w true m_X9_coloured 2 NT NT [vR o, vR a1, vI a2, vI a3] h K
def L_X9_coloured_6 (w : Wd) (o v1 v2 v3 v4 v5 : Int) (h : Hp) (K : Int → Hp → Prop) : Prop := JG w true m_X9_coloured 2 NT NT 6 [(0, vR o), (1, vR v1), (2, vI v2), (3, vI v3), (4, vI v4), (5, vI v5)] [] h K
def C_X0_tell (w : Wd) (a1 a2 a3 : Int) (h : Hp) (K : Int → Hp → Prop) : Prop := CGm w true m_X0_tell 2 NT NT [vR 61, vI a1, vI a2, vI a3] h K
def C_X6_join (w : Wd) (a1 a2 a3 : Int) (h : Hp) (K : Int → Hp → Prop) : Prop := CGm w true m_X6_join 2 NT NT [vR 52, vI a1, vI a2, vI a3] h K
def C_X0_settledIn (w : Wd) (a1 : Int) (h : Hp) (K : Int → Hp → Prop) : Prop := CGm w true m_X0_settledIn 2 NT NT [vR 61, vI a1] h K
def L_X0_settledIn_4 (w : Wd) (v1 v2 v3 : Int) (h : Hp) (K : Int → Hp → Prop) : Prop := JG w true m_X0_settledIn 2 NT NT 4 [(0, vR 61), (1, vI v1), (2, vI v2), (3, vI v3)] [] h K
def C_X0_toSea (w : Wd) (h : Hp) (K : Int → Hp → Prop) : Prop := CGm w true m_X0_toSea 2 NT NT [vR 61] h K
def L_X0_toSea_4 (w : Wd) (v1 v2 : Int) (h : Hp) (K : Int → Hp → Prop) : Prop := JG w true m_X0_toSea 2 NT NT 4 [(0, vR 61), (1, vI v1), (2, vI v2)] [] h K
def C_X0_lay (w : Wd) (h : Hp) (K : Int → Hp → Prop) : Prop := CGm w true m_X0_lay 2 NT NT [vR 61] h K
def L_X0_lay_2 (w : Wd) (v1 : Int) (h : Hp) (K : Int → Hp → Prop) : Prop := JG w true m_X0_lay 2 NT NT 2 [(0, vR 61), (1, vI v1)] [] h K
def L_X0_lay_36 (w : Wd) (v1 v2 : Int) (h : Hp) (K : Int → Hp → Prop) : Prop := JG w true m_X0_lay 2 NT NT 36 [(0, vR 61), (1, vI v1), (2, vI v2)] [] h K
def C_X3_keepBest (w : Wd) (h : Hp) (K : Int → Hp → Prop) : Prop := CGm w true m_X3_keepBest 2 NT NT [vR 66] h K
def C_X10_twoAt (w : Wd) (a1 : Int) (h : Hp) (K : Int → Hp → Prop) : Prop := CGm w true m_X10_twoAt 2 NT NT [vR 1, vI a1] h K
def C_X10_number (w : Wd) (a1 a2 : Int) (h : Hp) (K : Int → Hp → Prop) : Prop := CGm w true m_X10_number 3 NT NT [vR 1, vI a1, vI a2] h K
def L_X10_number_25 (w : Wd) (h : Hp) (K : Int → Hp → Prop) : Prop := JG w true m_X10_number 3 NT NT 25 [(0, vR 1)] [] h K
def L_X10_number_37 (w : Wd) (v1 v2 v3 v4 : Int) (h : Hp) (K : Int → Hp → Prop) : Prop := JG w true m_X10_number 3 NT NT 37 [(0, vR 1), (1, vI v1), (2, vI v2), (3, vI v3), (4, vI v4)] [] h K
def L_X10_number_90 (w : Wd) (v1 v2 v3 : Int) (h : Hp) (K : Int → Hp → Prop) : Prop := JG w true m_X10_number 3 NT NT 90 [(0, vR 1), (1, vI v1), (2, vI v2), (3, vI v3)] [] h K
def L_X10_number_121 (w : Wd) (h : Hp) (K : Int → Hp → Prop) : Prop := JG w true m_X10_number 3 NT NT 121 [(0, vR 1)] [] h K
def C_X10_needSign (w : Wd) (a1 : Int) (h : Hp) (K : Int → Hp → Prop) : Prop := CGm w true m_X10_needSign 3 NT NT [vR 1, vI a1] h K
def C_X6_reckon (w : Wd) (a1 : Int) (h : Hp) (K : Int → Hp → Prop) : Prop := CGm w true m_X6_reckon 3 NT NT [vR 52, vR a1] h K
def L_X6_reckon_7 (w : Wd) (v1 v2 : Int) (h : Hp) (K : Int → Hp → Prop) : Prop := JG w true m_X6_reckon 3 NT NT 7 [(0, vR 52), (1, vR v1), (2, vI v2)] [] h K
def C_X0_settledGrains (w : Wd) (h : Hp) (K : Int → Hp → Prop) : Prop := CGm w true m_X0_settledGrains 3 NT NT [vR 61] h K
def L_X0_settledGrains_4 (w : Wd) (v1 v2 : Int) (h : Hp) (K : Int → Hp → Prop) : Prop := JG w true m_X0_settledGrains 3 NT NT 4 [(0, vR 61), (1, vI v1), (2, vI v2)] [] h K
def C_X0_mostSettled (w : Wd) (h : Hp) (K : Int → Hp → Prop) : Prop := CGm w true m_X0_mostSettled 3 NT NT [vR 61] h K
def L_X0_mostSettled_6 (w : Wd) (v1 v2 v3 : Int) (h : Hp) (K : Int → Hp → Prop) : Prop := JG w true m_X0_mostSettled 3 NT NT 6 [(0, vR 61), (1, vI v1), (2, vI v2), (3, vI v3)] [] h K
def C_X0_leftIn (w : Wd) (a1 : Int) (h : Hp) (K : Int → Hp → Prop) : Prop := CGm w true m_X0_leftIn 3 NT NT [vR 61, vI a1] h K
def C_X0_cutOf (w : Wd) (a1 : Int) (h : Hp) (K : Int → Hp → Prop) : Prop := CGm w true m_X0_cutOf 4 NT NT [vR 61, vI a1] h K
def C_X0_settling (w : Wd) (a1 a2 a3 : Int) (h : Hp) (K : Int → Hp → Prop) : Prop := CGm w true m_X0_settling 4 NT NT [vR 61, vI a1, vI a2, vI a3] h K
def C_X0_shareLeft (w : Wd) (a1 a2 : Int) (h : Hp) (K : Int → Hp → Prop) : Prop := CGm w true m_X0_shareLeft 4 NT NT [vR 61, vI a1, vI a2] h K
def L_X0_shareLeft_17 (w : Wd) (v1 v2 v3 v4 : Int) (h : Hp) (K : Int → Hp → Prop) : Prop := JG w true m_X0_shareLeft 4 NT NT 17 [(0, vR 61), (1, vI v1), (2, vI v2), (3, vI v3), (4, vI v4)] [] h K
def C_X0_tellAll (w : Wd) (h : Hp) (K : Int → Hp → Prop) : Prop := CGm w true m_X0_tellAll 4 NT NT [vR 61] h K
def L_X0_tellAll_43 (w : Wd) (v1 : Int) (h : Hp) (K : Int → Hp → Prop) : Prop := JG w true m_X0_tellAll 4 NT NT 43 [(0, vR 61), (1, vI v1)] [] h K
def L_X0_tellAll_86 (w : Wd) (v1 : Int) (h : Hp) (K : Int → Hp → Prop) : Prop := JG w true m_X0_tellAll 4 NT NT 86 [(0, vR 61), (1, vI v1)] [] h K
def C_X0_run (w : Wd) (a1 a2 : Int) (h : Hp) (K : Int → Hp → Prop) : Prop := CGm w true m_X0_run 5 NT NT [vR 61, vI a1, vI a2] h K
def L_X0_run_6 (w : Wd) (v2 v3 : Int) (h : Hp) (K : Int → Hp → Prop) : Prop := JG w true m_X0_run 5 NT NT 6 [(0, vR 61), (2, vI v2), (3, vI v3)] [] h K
def L_X0_run_149 (w : Wd) (h : Hp) (K : Int → Hp → Prop) : Prop := JG w true m_X0_run 5 NT NT 149 [] [] h K
def L_X0_run_20 (w : Wd) (v2 v3 v4 : Int) (h : Hp) (K : Int → Hp → Prop) : Prop := JG w true m_X0_run 5 NT NT 20 [(0, vR 61), (2, vI v2), (3, vI v3), (4, vI v4)] [] h K
def L_X0_run_97 (w : Wd) (v2 v3 v4 v5 : Int) (h : Hp) (K : Int → Hp → Prop) : Prop := JG w true m_X0_run 5 NT NT 97 [(0, vR 61), (2, vI v2), (3, vI v3), (4, vI v4), (5, vI v5)] [] h K
def C_X3_seekHeld (w : Wd) (a1 a2 : Int) (h : Hp) (K : Int → Hp → Prop) : Prop := CGm w true m_X3_seekHeld 5 NT NT [vR 66, vI a1, vI a2] h K
def L_X3_seekHeld_20 (w : Wd) (v1 v2 v3 v4 : Int) (h : Hp) (K : Int → Hp → Prop) : Prop := JG w true m_X3_seekHeld 5 NT NT 20 [(0, vR 66), (1, vI v1), (2, vI v2), (3, vI v3), (4, vI v4)] [] h K
def C_X3_seekShare (w : Wd) (a1 a2 a3 : Int) (h : Hp) (K : Int → Hp → Prop) : Prop := CGm w true m_X3_seekShare 6 NT NT [vR 66, vI a1, vI a2, vI a3] h K
def L_X3_seekShare_10 (w : Wd) (v1 v2 v3 v4 v5 : Int) (h : Hp) (K : Int → Hp → Prop) : Prop := JG w true m_X3_seekShare 6 NT NT 10 [(0, vR 66), (1, vI v1), (2, vI v2), (3, vI v3), (4, vI v4), (5, vI v5)] [] h K
def L_X3_seekShare_34 (w : Wd) (v1 v2 v3 v4 v5 v6 : Int) (h : Hp) (K : Int → Hp → Prop) : Prop := JG w true m_X3_seekShare 6 NT NT 34 [(0, vR 66), (1, vI v1), (2, vI v2), (3, vI v3), (4, vI v4), (5, vI v5), (6, vI v6)] [] h K
def C_X10_word (w : Wd) (a1 : Int) (h : Hp) (K : Int → Hp → Prop) : Prop := CGm w true m_X10_word 7 NT NT [vR 1, vR a1] h K
def L_X10_word_6 (w : Wd) (v1 v2 : Int) (h : Hp) (K : Int → Hp → Prop) : Prop := JG w true m_X10_word 7 NT NT 6 [(0, vR 1), (1, vR v1), (2, vI v2)] [] h K
def C_X10_isOwnWord (w : Wd) (a1 : Int) (h : Hp) (K : Int → Hp → Prop) : Prop := CGm w true m_X10_isOwnWord 7 NT NT [vI a1] h K
def L_X10_isOwnWord_6 (w : Wd) (v0 v1 v2 v3 : Int) (h : Hp) (K : Int → Hp → Prop) : Prop := JG w true m_X10_isOwnWord 7 NT NT 6 [(0, vI v0), (1, vI v1), (2, vI v2), (3, vI v3)] [] h K
def C_X10_needWord (w : Wd) (a1 : Int) (h : Hp) (K : Int → Hp → Prop) : Prop := CGm w true m_X10_needWord 8 NT NT [vR 1, vR a1] h K
def C_X10_name (w : Wd) (h : Hp) (K : Int → Hp → Prop) : Prop := CGm w true m_X10_name 8 NT NT [vR 1] h K
def L_X10_name_8 (w : Wd) (v1 v2 : Int) (h : Hp) (K : Int → Hp → Prop) : Prop := JG w true m_X10_name 8 NT NT 8 [(0, vR 1), (1, vI v1), (2, vI v2)] [] h K
def L_X10_name_59 (w : Wd) (v1 : Int) (h : Hp) (K : Int → Hp → Prop) : Prop := JG w true m_X10_name 8 NT NT 59 [(0, vR 1), (1, vI v1)] [] h K
def L_X10_name_77 (w : Wd) (h : Hp) (K : Int → Hp → Prop) : Prop := JG w true m_X10_name 8 NT NT 77 [(0, vR 1)] [] h K
theorem c_X7_clear {w : Wd} {o : Int} (ho : Ob 7 o) {h : Hp} {K : Int → Hp → Prop} (T : ∀ h1 : Hp, h1 = hu h (o + 1) 1 0 → ∀ h3 : Hp, h3 = hu h1 (o + 3) 1 0 → ∀ h5 : Hp, h5 = hu h3 (o + 5) 1 0 → L_X7_clear_26 w o 0 h5 K) : C_X7_clear w o h K := by
  refine CGm_of2 (by decide) (by decide) trivial (Nat.le_of_ble_eq_true rfl) ?_
  refine J_aload_n 1 rfl 0 0 rfl (Ob.rng ho) (D_X7_clear_0.at 0 rfl) ?_
  refine J_getF (ov := (o + 1)) (dd := 1001) 4 rfl fl_7_14 rfl (by decide) rfl ho (Ob.lt ho) (D_X7_clear_0.at 1 rfl) ?_
  refine J_iconst 5 rfl (D_X7_clear_0.at 2 rfl) ?_
  refine J_putI 8 rfl fl_7_58 rfl rfl (of_7_0 ho) (Ob.lt (of_7_0 ho)) (D_X7_clear_0.at 3 rfl) (fun h1 e2 => ?_)
  replace T := T h1 e2
  refine J_aload_n 9 rfl 0 0 rfl (Ob.rng ho) (D_X7_clear_0.at 4 rfl) ?_
  refine J_getF (ov := (o + 3)) (dd := 1003) 12 rfl fl_7_20 rfl (by decide) rfl ho (Ob.lt ho) (D_X7_clear_0.at 5 rfl) ?_
  refine J_iconst 13 rfl (D_X7_clear_0.at 6 rfl) ?_
  refine J_putI 16 rfl fl_7_58 rfl rfl (of_7_1 ho) (Ob.lt (of_7_1 ho)) (D_X7_clear_0.at 7 rfl) (fun h3 e4 => ?_)
  replace T := T h3 e4
  refine J_aload_n 17 rfl 0 0 rfl (Ob.rng ho) (D_X7_clear_0.at 8 rfl) ?_
  refine J_getF (ov := (o + 5)) (dd := 1005) 20 rfl fl_7_23 rfl (by decide) rfl ho (Ob.lt ho) (D_X7_clear_0.at 9 rfl) ?_
  refine J_iconst 21 rfl (D_X7_clear_0.at 10 rfl) ?_
  refine J_putI 24 rfl fl_7_58 rfl rfl (of_7_2 ho) (Ob.lt (of_7_2 ho)) (D_X7_clear_0.at 11 rfl) (fun h5 e6 => ?_)
  replace T := T h5 e6
  refine J_iconst 25 rfl (D_X7_clear_0.at 12 rfl) ?_
  refine J_istore_n (lv' := [(1, vI 0), (0, vR o)]) 26 rfl 1 (by decide) rfl (D_X7_clear_0.at 13 rfl) ?_
  exact J_sub (lv' := [(0, vR o), (1, vI 0)]) [1, 0] rfl T
theorem l_X7_clear_26 {w : Wd} {o v1 : Int} (ho : Ob 7 o) {h : Hp} {K : Int → Hp → Prop} (T : (inR v1) ∧ (((v1 ≥ 8) → (L_X7_clear_50 w o 0 h K)) ∧ (¬ (v1 ≥ 8) → ((0 ≤ v1 ∧ v1 < 8) ∧ (∀ h9 : Hp, h9 = hu h (o + 7) v1 0 → L_X7_clear_26 w o (v1 + 1) h9 K))))) : L_X7_clear_26 w o v1 h K := by
  unfold L_X7_clear_26
  refine J_iload_n 27 rfl 1 1 rfl (D_X7_clear_0.at 14 rfl) ?_
  refine J_aload_n 28 rfl 0 0 rfl (Ob.rng ho) (D_X7_clear_0.at 15 rfl) ?_
  refine J_getF (ov := (o + 7)) (dd := 1007) 31 rfl fl_7_26 rfl (by decide) rfl ho (Ob.lt ho) (D_X7_clear_0.at 16 rfl) ?_
  refine J_alenE (v := 8) 32 rfl rfl (by decide) (of_7_3 ho) (Ar.lt (of_7_3 ho)) (D_X7_clear_0.at 17 rfl) ?_
  obtain ⟨s7, T⟩ := T
  refine J_icmp_ge 35 rfl 48 s7 ⟨by decide, by decide⟩ (D_X7_clear_0.at 18 rfl) (by decide) (fun c11 => ?_) (fun c11 => ?_)
  · replace T := T.1 c11
    refine J_iconst 49 rfl (D_X7_clear_0.at 26 rfl) ?_
    refine J_istore_n (lv' := [(1, vI 0), (0, vR o)]) 50 rfl 1 (by decide) rfl (D_X7_clear_0.at 27 rfl) ?_
    exact J_sub (lv' := [(0, vR o), (1, vI 0)]) [1, 0] rfl T
  replace T := T.2 c11
  refine J_aload_n 36 rfl 0 0 rfl (Ob.rng ho) (D_X7_clear_0.at 19 rfl) ?_
  refine J_getF (ov := (o + 7)) (dd := 1007) 39 rfl fl_7_26 rfl (by decide) rfl ho (Ob.lt ho) (D_X7_clear_0.at 20 rfl) ?_
  refine J_iload_n 40 rfl 1 1 rfl (D_X7_clear_0.at 21 rfl) ?_
  refine J_iconst 41 rfl (D_X7_clear_0.at 22 rfl) ?_
  obtain ⟨s8, T⟩ := T
  refine J_iastH 42 rfl (of_7_3 ho) (Ar.lt (of_7_3 ho)) s8 trivial (D_X7_clear_0.at 23 rfl) (fun h9 e10 => ?_)
  replace T := T h9 e10
  refine J_iinc (v := (v1 + 1)) (lv' := [(1, vI (v1 + 1)), (0, vR o)]) 45 rfl 1 1 1 rfl rfl (by decide) rfl (D_X7_clear_0.at 24 rfl) ?_
  refine J_goto 26 (D_X7_clear_0.at 25 rfl) (by decide) ?_
  exact J_sub (lv' := [(0, vR o), (1, vI (v1 + 1))]) [1, 0] rfl T
theorem l_X7_clear_50 {w : Wd} {o v1 : Int} (ho : Ob 7 o) {h : Hp} {K : Int → Hp → Prop} (T : (inR v1) ∧ (((v1 ≥ 10) → (∀ h13 : Hp, h13 = hu h (o + 13) 1 0 → ∀ h15 : Hp, h15 = hu h13 (o + 15) 1 0 → ∀ h17 : Hp, h17 = hu h15 o 11 0 → ∀ h19 : Hp, h19 = hu h17 o 12 0 → ∀ h21 : Hp, h21 = hu h19 o 13 10 → ∀ h23 : Hp, h23 = hu h21 o 14 20 → ∀ h25 : Hp, h25 = hu h23 o 15 0 → K 0 h25)) ∧ (¬ (v1 ≥ 10) → ((0 ≤ v1 ∧ v1 < 10) ∧ (∀ h28 : Hp, h28 = hu h (o + 11) v1 0 → L_X7_clear_50 w o (v1 + 1) h28 K))))) : L_X7_clear_50 w o v1 h K := by
  unfold L_X7_clear_50
  refine J_iload_n 51 rfl 1 1 rfl (D_X7_clear_0.at 28 rfl) ?_
  refine J_aload_n 52 rfl 0 0 rfl (Ob.rng ho) (D_X7_clear_0.at 29 rfl) ?_
  refine J_getF (ov := (o + 11)) (dd := 1011) 55 rfl fl_7_39 rfl (by decide) rfl ho (Ob.lt ho) (D_X7_clear_0.at 30 rfl) ?_
  refine J_alenE (v := 10) 56 rfl rfl (by decide) (of_7_7 ho) (Ar.lt (of_7_7 ho)) (D_X7_clear_0.at 31 rfl) ?_
  obtain ⟨s12, T⟩ := T
  refine J_icmp_ge 59 rfl 72 s12 ⟨by decide, by decide⟩ (D_X7_clear_0.at 32 rfl) (by decide) (fun c30 => ?_) (fun c30 => ?_)
  · replace T := T.1 c30
    refine J_aload_n 73 rfl 0 0 rfl (Ob.rng ho) (D_X7_clear_0.at 40 rfl) ?_
    refine J_getF (ov := (o + 13)) (dd := 1013) 76 rfl fl_7_48 rfl (by decide) rfl ho (Ob.lt ho) (D_X7_clear_0.at 41 rfl) ?_
    refine J_iconst 77 rfl (D_X7_clear_0.at 42 rfl) ?_
    refine J_putI 80 rfl fl_7_62 rfl rfl (of_7_9 ho) (Ob.lt (of_7_9 ho)) (D_X7_clear_0.at 43 rfl) (fun h13 e14 => ?_)
    replace T := T h13 e14
    refine J_aload_n 81 rfl 0 0 rfl (Ob.rng ho) (D_X7_clear_0.at 44 rfl) ?_
    refine J_getF (ov := (o + 15)) (dd := 1015) 84 rfl fl_7_52 rfl (by decide) rfl ho (Ob.lt ho) (D_X7_clear_0.at 45 rfl) ?_
    refine J_iconst 85 rfl (D_X7_clear_0.at 46 rfl) ?_
    refine J_putI 88 rfl fl_7_62 rfl rfl (of_7_10 ho) (Ob.lt (of_7_10 ho)) (D_X7_clear_0.at 47 rfl) (fun h15 e16 => ?_)
    replace T := T h15 e16
    refine J_aload_n 89 rfl 0 0 rfl (Ob.rng ho) (D_X7_clear_1.at 0 rfl) ?_
    refine J_iconst 90 rfl (D_X7_clear_1.at 1 rfl) ?_
    refine J_putI 93 rfl fl_7_65 rfl rfl ho (Ob.lt ho) (D_X7_clear_1.at 2 rfl) (fun h17 e18 => ?_)
    replace T := T h17 e18
    refine J_aload_n 94 rfl 0 0 rfl (Ob.rng ho) (D_X7_clear_1.at 3 rfl) ?_
    refine J_iconst 95 rfl (D_X7_clear_1.at 4 rfl) ?_
    refine J_putI 98 rfl fl_7_68 rfl rfl ho (Ob.lt ho) (D_X7_clear_1.at 5 rfl) (fun h19 e20 => ?_)
    replace T := T h19 e20
    refine J_aload_n 99 rfl 0 0 rfl (Ob.rng ho) (D_X7_clear_1.at 6 rfl) ?_
    refine J_bipush 101 rfl ⟨by decide, by decide⟩ (D_X7_clear_1.at 7 rfl) ?_
    refine J_putI 104 rfl fl_7_71 rfl rfl ho (Ob.lt ho) (D_X7_clear_1.at 8 rfl) (fun h21 e22 => ?_)
    replace T := T h21 e22
    refine J_aload_n 105 rfl 0 0 rfl (Ob.rng ho) (D_X7_clear_1.at 9 rfl) ?_
    refine J_bipush 107 rfl ⟨by decide, by decide⟩ (D_X7_clear_1.at 10 rfl) ?_
    refine J_putI 110 rfl fl_7_74 rfl rfl ho (Ob.lt ho) (D_X7_clear_1.at 11 rfl) (fun h23 e24 => ?_)
    replace T := T h23 e24
    refine J_aload_n 111 rfl 0 0 rfl (Ob.rng ho) (D_X7_clear_1.at 12 rfl) ?_
    refine J_iconst 112 rfl (D_X7_clear_1.at 13 rfl) ?_
    refine J_putI 115 rfl fl_7_77 rfl rfl ho (Ob.lt ho) (D_X7_clear_1.at 14 rfl) (fun h25 e26 => ?_)
    replace T := T h25 e26
    exact J_vret rfl (D_X7_clear_1.at 15 rfl) T
  replace T := T.2 c30
  refine J_aload_n 60 rfl 0 0 rfl (Ob.rng ho) (D_X7_clear_0.at 33 rfl) ?_
  refine J_getF (ov := (o + 11)) (dd := 1011) 63 rfl fl_7_39 rfl (by decide) rfl ho (Ob.lt ho) (D_X7_clear_0.at 34 rfl) ?_
  refine J_iload_n 64 rfl 1 1 rfl (D_X7_clear_0.at 35 rfl) ?_
  refine J_iconst 65 rfl (D_X7_clear_0.at 36 rfl) ?_
  obtain ⟨s27, T⟩ := T
  refine J_iastH 66 rfl (of_7_7 ho) (Ar.lt (of_7_7 ho)) s27 trivial (D_X7_clear_0.at 37 rfl) (fun h28 e29 => ?_)
  replace T := T h28 e29
  refine J_iinc (v := (v1 + 1)) (lv' := [(1, vI (v1 + 1)), (0, vR o)]) 69 rfl 1 1 1 rfl rfl (by decide) rfl (D_X7_clear_0.at 38 rfl) ?_
  refine J_goto 50 (D_X7_clear_0.at 39 rfl) (by decide) ?_
  exact J_sub (lv' := [(0, vR o), (1, vI (v1 + 1))]) [1, 0] rfl T
theorem c_X10_append {w : Wd} {a1 : Int} {h : Hp} {K : Int → Hp → Prop} (T : L_X10_append_3 w a1 24 h K) : C_X10_append w a1 h K := by
  refine CGm_of2 (by decide) (by decide) trivial (Nat.le_of_ble_eq_true rfl) ?_
  refine J_bipush 2 rfl ⟨by decide, by decide⟩ (D_X10_append_0.at 0 rfl) ?_
  refine J_istore_n (lv' := [(2, vI 24), (0, vR 1), (1, vI a1)]) 3 rfl 2 (by decide) rfl (D_X10_append_0.at 1 rfl) ?_
  exact J_sub (lv' := [(0, vR 1), (1, vI a1), (2, vI 24)]) [1, 2, 0] rfl T
theorem l_X10_append_3 {w : Wd} {v1 v2 : Int} {h : Hp} {K : Int → Hp → Prop} (T : (inR v2) ∧ (((v2 < 0) → (K 0 h)) ∧ (¬ (v2 < 0) → ((inR (h 1 1)) ∧ ((((h 1 1) ≥ 1600) → (L_X10_append_3 w v1 (v2 + (-8)) h K)) ∧ (¬ ((h 1 1) ≥ 1600) → ((inR v1) ∧ ((0 ≤ v2 ∧ v2 < 32) ∧ ((0 ≤ (h 1 1) ∧ (h 1 1) < 1600) ∧ ((-128 ≤ (Int.bmod (v1 / 2 ^ (Int.toNat v2)) 256) ∧ (Int.bmod (v1 / 2 ^ (Int.toNat v2)) 256) < 128) ∧ (∀ h7 : Hp, h7 = hu h 2 (h 1 1) (Int.bmod (v1 / 2 ^ (Int.toNat v2)) 256) → ∀ h9 : Hp, h9 = hu h7 1 1 ((h7 1 1) + 1) → L_X10_append_3 w v1 (v2 + (-8)) h9 K))))))))))) : L_X10_append_3 w v1 v2 h K := by
  unfold L_X10_append_3
  refine J_iload_n 4 rfl 2 2 rfl (D_X10_append_0.at 2 rfl) ?_
  obtain ⟨s1, T⟩ := T
  refine J_if_lt 7 rfl 48 s1 (D_X10_append_0.at 3 rfl) (by decide) (fun c12 => ?_) (fun c12 => ?_)
  · replace T := T.1 c12
    exact J_vret rfl (D_X10_append_0.at 27 rfl) T
  replace T := T.2 c12
  refine J_aload_n 8 rfl 0 0 rfl ⟨by decide, by decide⟩ (D_X10_append_0.at 4 rfl) ?_
  refine J_getI (z := (h 1 1)) 11 rfl fl_10_19 rfl ob_1 (Ob.lt ob_1) (D_X10_append_0.at 5 rfl) rfl ?_
  refine J_aload_n 12 rfl 0 0 rfl ⟨by decide, by decide⟩ (D_X10_append_0.at 6 rfl) ?_
  refine J_getF (ov := 2) (dd := 1001) 15 rfl fl_10_9 rfl (by decide) rfl ob_1 (Ob.lt ob_1) (D_X10_append_0.at 7 rfl) ?_
  refine J_alenE (v := 1600) 16 rfl rfl (by decide) ar_2 (Ar.lt ar_2) (D_X10_append_0.at 8 rfl) ?_
  obtain ⟨s2, T⟩ := T
  refine J_icmp_ge 19 rfl 42 s2 ⟨by decide, by decide⟩ (D_X10_append_0.at 9 rfl) (by decide) (fun c11 => ?_) (fun c11 => ?_)
  · replace T := T.1 c11
    refine J_iinc (v := (v2 + (-8))) (lv' := [(2, vI (v2 + (-8))), (0, vR 1), (1, vI v1)]) 45 rfl 2 2 (-8) rfl rfl (by decide) rfl (D_X10_append_0.at 25 rfl) ?_
    refine J_goto 3 (D_X10_append_0.at 26 rfl) (by decide) ?_
    exact J_sub (lv' := [(0, vR 1), (1, vI v1), (2, vI (v2 + (-8)))]) [1, 2, 0] rfl T
  replace T := T.2 c11
  refine J_aload_n 20 rfl 0 0 rfl ⟨by decide, by decide⟩ (D_X10_append_0.at 10 rfl) ?_
  refine J_getF (ov := 2) (dd := 1001) 23 rfl fl_10_9 rfl (by decide) rfl ob_1 (Ob.lt ob_1) (D_X10_append_0.at 11 rfl) ?_
  refine J_aload_n 24 rfl 0 0 rfl ⟨by decide, by decide⟩ (D_X10_append_0.at 12 rfl) ?_
  refine J_getI (z := (h 1 1)) 27 rfl fl_10_19 rfl ob_1 (Ob.lt ob_1) (D_X10_append_0.at 13 rfl) rfl ?_
  refine J_iload_n 28 rfl 1 1 rfl (D_X10_append_0.at 14 rfl) ?_
  refine J_iload_n 29 rfl 2 2 rfl (D_X10_append_0.at 15 rfl) ?_
  obtain ⟨s3, T⟩ := T
  obtain ⟨s4, T⟩ := T
  refine J_ishrE (v := (v1 / 2 ^ (Int.toNat v2))) 30 rfl s3 s4 rfl (D_X10_append_0.at 16 rfl) ?_
  refine J_i2b 31 rfl (D_X10_append_0.at 17 rfl) ?_
  obtain ⟨s5, T⟩ := T
  obtain ⟨s6, T⟩ := T
  refine J_bastH 32 rfl ar_2 (Ar.lt ar_2) s5 s6 (D_X10_append_0.at 18 rfl) (fun h7 e8 => ?_)
  replace T := T h7 e8
  refine J_aload_n 33 rfl 0 0 rfl ⟨by decide, by decide⟩ (D_X10_append_0.at 19 rfl) ?_
  refine J_dup 34 rfl rfl (D_X10_append_0.at 20 rfl) ?_
  refine J_getI (z := (h7 1 1)) 37 rfl fl_10_19 rfl ob_1 (Ob.lt ob_1) (D_X10_append_0.at 21 rfl) rfl ?_
  refine J_iconst 38 rfl (D_X10_append_0.at 22 rfl) ?_
  refine J_iadd 39 rfl (D_X10_append_0.at 23 rfl) ?_
  refine J_putI 42 rfl fl_10_19 rfl rfl ob_1 (Ob.lt ob_1) (D_X10_append_0.at 24 rfl) (fun h9 e10 => ?_)
  replace T := T h9 e10
  refine J_iinc (v := (v2 + (-8))) (lv' := [(2, vI (v2 + (-8))), (0, vR 1), (1, vI v1)]) 45 rfl 2 2 (-8) rfl rfl (by decide) rfl (D_X10_append_0.at 25 rfl) ?_
  refine J_goto 3 (D_X10_append_0.at 26 rfl) (by decide) ?_
  exact J_sub (lv' := [(0, vR 1), (1, vI v1), (2, vI (v2 + (-8)))]) [1, 2, 0] rfl T
theorem c_X10_begin {w : Wd} {h : Hp} {K : Int → Hp → Prop} (T : ∀ h1 : Hp, h1 = hu h 1 2 0 → ∀ h3 : Hp, h3 = hu h1 1 3 0 → ∀ h5 : Hp, h5 = hu h3 1 4 0 → ∀ h7 : Hp, h7 = hu h5 1 5 (-1) → K 0 h7) : C_X10_begin w h K := by
  refine CGm_of2 (by decide) (by decide) trivial (Nat.le_of_ble_eq_true rfl) ?_
  refine J_aload_n 1 rfl 0 0 rfl ⟨by decide, by decide⟩ (D_X10_begin_0.at 0 rfl) ?_
  refine J_iconst 2 rfl (D_X10_begin_0.at 1 rfl) ?_
  refine J_putI 5 rfl fl_10_26 rfl rfl ob_1 (Ob.lt ob_1) (D_X10_begin_0.at 2 rfl) (fun h1 e2 => ?_)
  replace T := T h1 e2
  refine J_aload_n 6 rfl 0 0 rfl ⟨by decide, by decide⟩ (D_X10_begin_0.at 3 rfl) ?_
  refine J_iconst 7 rfl (D_X10_begin_0.at 4 rfl) ?_
  refine J_putI 10 rfl fl_10_29 rfl rfl ob_1 (Ob.lt ob_1) (D_X10_begin_0.at 5 rfl) (fun h3 e4 => ?_)
  replace T := T h3 e4
  refine J_aload_n 11 rfl 0 0 rfl ⟨by decide, by decide⟩ (D_X10_begin_0.at 6 rfl) ?_
  refine J_iconst 12 rfl (D_X10_begin_0.at 7 rfl) ?_
  refine J_putI 15 rfl fl_10_32 rfl rfl ob_1 (Ob.lt ob_1) (D_X10_begin_0.at 8 rfl) (fun h5 e6 => ?_)
  replace T := T h5 e6
  refine J_aload_n 16 rfl 0 0 rfl ⟨by decide, by decide⟩ (D_X10_begin_0.at 9 rfl) ?_
  refine J_iconst 17 rfl (D_X10_begin_0.at 10 rfl) ?_
  refine J_putI 20 rfl fl_10_15 rfl rfl ob_1 (Ob.lt ob_1) (D_X10_begin_0.at 11 rfl) (fun h7 e8 => ?_)
  replace T := T h7 e8
  exact J_vret rfl (D_X10_begin_0.at 12 rfl) T
theorem c_X10_next {w : Wd} {h : Hp} {K : Int → Hp → Prop} (T : L_X10_next_0 w h K) : C_X10_next w h K := by
  refine CGm_of2 (by decide) (by decide) trivial (Nat.le_of_ble_eq_true rfl) ?_
  exact T
theorem l_X10_next_0 {w : Wd} {h : Hp} {K : Int → Hp → Prop} (T : (inR (h 1 2)) ∧ ((inR (h 1 1)) ∧ ((((h 1 2) ≥ (h 1 1)) → (∀ h3 : Hp, h3 = hu h 1 3 (h 1 2) → K 0 h3)) ∧ (¬ ((h 1 2) ≥ (h 1 1)) → ((inR (h 1 2)) ∧ ((((h 1 2) ≥ 1600) → (∀ h6 : Hp, h6 = hu h 1 3 (h 1 2) → K 0 h6)) ∧ (¬ ((h 1 2) ≥ 1600) → ((0 ≤ (h 1 2) ∧ (h 1 2) < 1600) ∧ ((inR (h 2 (h 1 2))) ∧ ((((h 2 (h 1 2)) = 32) → (∀ h10 : Hp, h10 = hu h 1 2 ((h 1 2) + 1) → L_X10_next_0 w h10 K)) ∧ (¬ ((h 2 (h 1 2)) = 32) → ((0 ≤ (h 1 2) ∧ (h 1 2) < 1600) ∧ ((inR (h 2 (h 1 2))) ∧ ((((h 2 (h 1 2)) ≠ 10) → (∀ h14 : Hp, h14 = hu h 1 3 (h 1 2) → K 0 h14)) ∧ (¬ ((h 2 (h 1 2)) ≠ 10) → (∀ h16 : Hp, h16 = hu h 1 2 ((h 1 2) + 1) → L_X10_next_0 w h16 K)))))))))))))))) : L_X10_next_0 w h K := by
  unfold L_X10_next_0
  refine J_aload_n 1 rfl 0 0 rfl ⟨by decide, by decide⟩ (D_X10_next_0.at 0 rfl) ?_
  refine J_getI (z := (h 1 2)) 4 rfl fl_10_26 rfl ob_1 (Ob.lt ob_1) (D_X10_next_0.at 1 rfl) rfl ?_
  refine J_aload_n 5 rfl 0 0 rfl ⟨by decide, by decide⟩ (D_X10_next_0.at 2 rfl) ?_
  refine J_getI (z := (h 1 1)) 8 rfl fl_10_19 rfl ob_1 (Ob.lt ob_1) (D_X10_next_0.at 3 rfl) rfl ?_
  obtain ⟨s1, T⟩ := T
  obtain ⟨s2, T⟩ := T
  refine J_icmp_ge 11 rfl 64 s1 s2 (D_X10_next_0.at 4 rfl) (by decide) (fun c21 => ?_) (fun c21 => ?_)
  · replace T := T.1 c21
    refine J_aload_n 65 rfl 0 0 rfl ⟨by decide, by decide⟩ (D_X10_next_0.at 32 rfl) ?_
    refine J_aload_n 66 rfl 0 0 rfl ⟨by decide, by decide⟩ (D_X10_next_0.at 33 rfl) ?_
    refine J_getI (z := (h 1 2)) 69 rfl fl_10_26 rfl ob_1 (Ob.lt ob_1) (D_X10_next_0.at 34 rfl) rfl ?_
    refine J_putI 72 rfl fl_10_29 rfl rfl ob_1 (Ob.lt ob_1) (D_X10_next_0.at 35 rfl) (fun h3 e4 => ?_)
    replace T := T h3 e4
    exact J_vret rfl (D_X10_next_0.at 36 rfl) T
  replace T := T.2 c21
  refine J_aload_n 12 rfl 0 0 rfl ⟨by decide, by decide⟩ (D_X10_next_0.at 5 rfl) ?_
  refine J_getI (z := (h 1 2)) 15 rfl fl_10_26 rfl ob_1 (Ob.lt ob_1) (D_X10_next_0.at 6 rfl) rfl ?_
  refine J_aload_n 16 rfl 0 0 rfl ⟨by decide, by decide⟩ (D_X10_next_0.at 7 rfl) ?_
  refine J_getF (ov := 2) (dd := 1001) 19 rfl fl_10_9 rfl (by decide) rfl ob_1 (Ob.lt ob_1) (D_X10_next_0.at 8 rfl) ?_
  refine J_alenE (v := 1600) 20 rfl rfl (by decide) ar_2 (Ar.lt ar_2) (D_X10_next_0.at 9 rfl) ?_
  obtain ⟨s5, T⟩ := T
  refine J_icmp_ge 23 rfl 64 s5 ⟨by decide, by decide⟩ (D_X10_next_0.at 10 rfl) (by decide) (fun c20 => ?_) (fun c20 => ?_)
  · replace T := T.1 c20
    refine J_aload_n 65 rfl 0 0 rfl ⟨by decide, by decide⟩ (D_X10_next_0.at 32 rfl) ?_
    refine J_aload_n 66 rfl 0 0 rfl ⟨by decide, by decide⟩ (D_X10_next_0.at 33 rfl) ?_
    refine J_getI (z := (h 1 2)) 69 rfl fl_10_26 rfl ob_1 (Ob.lt ob_1) (D_X10_next_0.at 34 rfl) rfl ?_
    refine J_putI 72 rfl fl_10_29 rfl rfl ob_1 (Ob.lt ob_1) (D_X10_next_0.at 35 rfl) (fun h6 e7 => ?_)
    replace T := T h6 e7
    exact J_vret rfl (D_X10_next_0.at 36 rfl) T
  replace T := T.2 c20
  refine J_aload_n 24 rfl 0 0 rfl ⟨by decide, by decide⟩ (D_X10_next_0.at 11 rfl) ?_
  refine J_getF (ov := 2) (dd := 1001) 27 rfl fl_10_9 rfl (by decide) rfl ob_1 (Ob.lt ob_1) (D_X10_next_0.at 12 rfl) ?_
  refine J_aload_n 28 rfl 0 0 rfl ⟨by decide, by decide⟩ (D_X10_next_0.at 13 rfl) ?_
  refine J_getI (z := (h 1 2)) 31 rfl fl_10_26 rfl ob_1 (Ob.lt ob_1) (D_X10_next_0.at 14 rfl) rfl ?_
  obtain ⟨s8, T⟩ := T
  refine J_bald 32 rfl ar_2 (Ar.lt ar_2) s8 (D_X10_next_0.at 15 rfl) ?_
  refine J_bipush 34 rfl ⟨by decide, by decide⟩ (D_X10_next_0.at 16 rfl) ?_
  obtain ⟨s9, T⟩ := T
  refine J_icmp_eq 37 rfl 51 s9 ⟨by decide, by decide⟩ (D_X10_next_0.at 17 rfl) (by decide) (fun c19 => ?_) (fun c19 => ?_)
  · replace T := T.1 c19
    refine J_aload_n 52 rfl 0 0 rfl ⟨by decide, by decide⟩ (D_X10_next_0.at 25 rfl) ?_
    refine J_dup 53 rfl rfl (D_X10_next_0.at 26 rfl) ?_
    refine J_getI (z := (h 1 2)) 56 rfl fl_10_26 rfl ob_1 (Ob.lt ob_1) (D_X10_next_0.at 27 rfl) rfl ?_
    refine J_iconst 57 rfl (D_X10_next_0.at 28 rfl) ?_
    refine J_iadd 58 rfl (D_X10_next_0.at 29 rfl) ?_
    refine J_putI 61 rfl fl_10_26 rfl rfl ob_1 (Ob.lt ob_1) (D_X10_next_0.at 30 rfl) (fun h10 e11 => ?_)
    replace T := T h10 e11
    refine J_goto 0 (D_X10_next_0.at 31 rfl) (by decide) ?_
    exact T
  replace T := T.2 c19
  refine J_aload_n 38 rfl 0 0 rfl ⟨by decide, by decide⟩ (D_X10_next_0.at 18 rfl) ?_
  refine J_getF (ov := 2) (dd := 1001) 41 rfl fl_10_9 rfl (by decide) rfl ob_1 (Ob.lt ob_1) (D_X10_next_0.at 19 rfl) ?_
  refine J_aload_n 42 rfl 0 0 rfl ⟨by decide, by decide⟩ (D_X10_next_0.at 20 rfl) ?_
  refine J_getI (z := (h 1 2)) 45 rfl fl_10_26 rfl ob_1 (Ob.lt ob_1) (D_X10_next_0.at 21 rfl) rfl ?_
  obtain ⟨s12, T⟩ := T
  refine J_bald 46 rfl ar_2 (Ar.lt ar_2) s12 (D_X10_next_0.at 22 rfl) ?_
  refine J_bipush 48 rfl ⟨by decide, by decide⟩ (D_X10_next_0.at 23 rfl) ?_
  obtain ⟨s13, T⟩ := T
  refine J_icmp_ne 51 rfl 64 s13 ⟨by decide, by decide⟩ (D_X10_next_0.at 24 rfl) (by decide) (fun c18 => ?_) (fun c18 => ?_)
  · replace T := T.1 c18
    refine J_aload_n 65 rfl 0 0 rfl ⟨by decide, by decide⟩ (D_X10_next_0.at 32 rfl) ?_
    refine J_aload_n 66 rfl 0 0 rfl ⟨by decide, by decide⟩ (D_X10_next_0.at 33 rfl) ?_
    refine J_getI (z := (h 1 2)) 69 rfl fl_10_26 rfl ob_1 (Ob.lt ob_1) (D_X10_next_0.at 34 rfl) rfl ?_
    refine J_putI 72 rfl fl_10_29 rfl rfl ob_1 (Ob.lt ob_1) (D_X10_next_0.at 35 rfl) (fun h14 e15 => ?_)
    replace T := T h14 e15
    exact J_vret rfl (D_X10_next_0.at 36 rfl) T
  replace T := T.2 c18
  refine J_aload_n 52 rfl 0 0 rfl ⟨by decide, by decide⟩ (D_X10_next_0.at 25 rfl) ?_
  refine J_dup 53 rfl rfl (D_X10_next_0.at 26 rfl) ?_
  refine J_getI (z := (h 1 2)) 56 rfl fl_10_26 rfl ob_1 (Ob.lt ob_1) (D_X10_next_0.at 27 rfl) rfl ?_
  refine J_iconst 57 rfl (D_X10_next_0.at 28 rfl) ?_
  refine J_iadd 58 rfl (D_X10_next_0.at 29 rfl) ?_
  refine J_putI 61 rfl fl_10_26 rfl rfl ob_1 (Ob.lt ob_1) (D_X10_next_0.at 30 rfl) (fun h16 e17 => ?_)
  replace T := T h16 e17
  refine J_goto 0 (D_X10_next_0.at 31 rfl) (by decide) ?_
  exact T
theorem c_X10_fail {w : Wd} {a1 a2 : Int} {h : Hp} {K : Int → Hp → Prop} (T : (inR (h 1 4)) ∧ ((((h 1 4) ≠ 0) → (K 0 h)) ∧ (¬ ((h 1 4) ≠ 0) → (∀ h2 : Hp, h2 = hu h 1 4 a1 → ∀ h4 : Hp, h4 = hu h2 1 5 a2 → K 0 h4)))) : C_X10_fail w a1 a2 h K := by
  refine CGm_of2 (by decide) (by decide) trivial (Nat.le_of_ble_eq_true rfl) ?_
  refine J_aload_n 1 rfl 0 0 rfl ⟨by decide, by decide⟩ (D_X10_fail_0.at 0 rfl) ?_
  refine J_getI (z := (h 1 4)) 4 rfl fl_10_32 rfl ob_1 (Ob.lt ob_1) (D_X10_fail_0.at 1 rfl) rfl ?_
  obtain ⟨s1, T⟩ := T
  refine J_if_ne 7 rfl 17 s1 (D_X10_fail_0.at 2 rfl) (by decide) (fun c6 => ?_) (fun c6 => ?_)
  · replace T := T.1 c6
    refine J_iconst 18 rfl (D_X10_fail_0.at 9 rfl) ?_
    exact J_zret rfl (Or.inl rfl) (D_X10_fail_0.at 10 rfl) T
  replace T := T.2 c6
  refine J_aload_n 8 rfl 0 0 rfl ⟨by decide, by decide⟩ (D_X10_fail_0.at 3 rfl) ?_
  refine J_iload_n 9 rfl 1 1 rfl (D_X10_fail_0.at 4 rfl) ?_
  refine J_putI 12 rfl fl_10_32 rfl rfl ob_1 (Ob.lt ob_1) (D_X10_fail_0.at 5 rfl) (fun h2 e3 => ?_)
  replace T := T h2 e3
  refine J_aload_n 13 rfl 0 0 rfl ⟨by decide, by decide⟩ (D_X10_fail_0.at 6 rfl) ?_
  refine J_iload_n 14 rfl 2 2 rfl (D_X10_fail_0.at 7 rfl) ?_
  refine J_putI 17 rfl fl_10_15 rfl rfl ob_1 (Ob.lt ob_1) (D_X10_fail_0.at 8 rfl) (fun h4 e5 => ?_)
  replace T := T h4 e5
  refine J_iconst 18 rfl (D_X10_fail_0.at 9 rfl) ?_
  exact J_zret rfl (Or.inl rfl) (D_X10_fail_0.at 10 rfl) T
theorem c_X10_byteAt {w : Wd} {a1 : Int} {h : Hp} {K : Int → Hp → Prop} (T : (inR a1) ∧ (((a1 < 0) → (K (-1) h)) ∧ (¬ (a1 < 0) → ((inR a1) ∧ ((inR (h 1 1)) ∧ (((a1 ≥ (h 1 1)) → (K (-1) h)) ∧ (¬ (a1 ≥ (h 1 1)) → ((inR a1) ∧ (((a1 < 1600) → ((0 ≤ a1 ∧ a1 < 1600) ∧ (K ((h 2 a1) % 256) h))) ∧ (¬ (a1 < 1600) → (K (-1) h))))))))))) : C_X10_byteAt w a1 h K := by
  refine CGm_of2 (by decide) (by decide) trivial (Nat.le_of_ble_eq_true rfl) ?_
  refine J_iload_n 1 rfl 1 1 rfl (D_X10_byteAt_0.at 0 rfl) ?_
  obtain ⟨s1, T⟩ := T
  refine J_if_lt 4 rfl 21 s1 (D_X10_byteAt_0.at 1 rfl) (by decide) (fun c8 => ?_) (fun c8 => ?_)
  · replace T := T.1 c8
    refine J_iconst 22 rfl (D_X10_byteAt_0.at 11 rfl) ?_
    refine J_goto 35 (D_X10_byteAt_0.at 12 rfl) (by decide) ?_
    exact J_iret rfl (D_X10_byteAt_0.at 19 rfl) T
  replace T := T.2 c8
  refine J_iload_n 5 rfl 1 1 rfl (D_X10_byteAt_0.at 2 rfl) ?_
  refine J_aload_n 6 rfl 0 0 rfl ⟨by decide, by decide⟩ (D_X10_byteAt_0.at 3 rfl) ?_
  refine J_getI (z := (h 1 1)) 9 rfl fl_10_19 rfl ob_1 (Ob.lt ob_1) (D_X10_byteAt_0.at 4 rfl) rfl ?_
  obtain ⟨s2, T⟩ := T
  obtain ⟨s3, T⟩ := T
  refine J_icmp_ge 12 rfl 21 s2 s3 (D_X10_byteAt_0.at 5 rfl) (by decide) (fun c7 => ?_) (fun c7 => ?_)
  · replace T := T.1 c7
    refine J_iconst 22 rfl (D_X10_byteAt_0.at 11 rfl) ?_
    refine J_goto 35 (D_X10_byteAt_0.at 12 rfl) (by decide) ?_
    exact J_iret rfl (D_X10_byteAt_0.at 19 rfl) T
  replace T := T.2 c7
  refine J_iload_n 13 rfl 1 1 rfl (D_X10_byteAt_0.at 6 rfl) ?_
  refine J_aload_n 14 rfl 0 0 rfl ⟨by decide, by decide⟩ (D_X10_byteAt_0.at 7 rfl) ?_
  refine J_getF (ov := 2) (dd := 1001) 17 rfl fl_10_9 rfl (by decide) rfl ob_1 (Ob.lt ob_1) (D_X10_byteAt_0.at 8 rfl) ?_
  refine J_alenE (v := 1600) 18 rfl rfl (by decide) ar_2 (Ar.lt ar_2) (D_X10_byteAt_0.at 9 rfl) ?_
  obtain ⟨s4, T⟩ := T
  refine J_icmp_lt 21 rfl 25 s4 ⟨by decide, by decide⟩ (D_X10_byteAt_0.at 10 rfl) (by decide) (fun c6 => ?_) (fun c6 => ?_)
  · replace T := T.1 c6
    refine J_aload_n 26 rfl 0 0 rfl ⟨by decide, by decide⟩ (D_X10_byteAt_0.at 13 rfl) ?_
    refine J_getF (ov := 2) (dd := 1001) 29 rfl fl_10_9 rfl (by decide) rfl ob_1 (Ob.lt ob_1) (D_X10_byteAt_0.at 14 rfl) ?_
    refine J_iload_n 30 rfl 1 1 rfl (D_X10_byteAt_0.at 15 rfl) ?_
    obtain ⟨s5, T⟩ := T
    refine J_bald 31 rfl ar_2 (Ar.lt ar_2) s5 (D_X10_byteAt_0.at 16 rfl) ?_
    refine J_sipush 34 rfl ⟨by decide, by decide⟩ (D_X10_byteAt_0.at 17 rfl) ?_
    refine J_maskE (mm := 256) 35 rfl 8 (by decide) rfl rfl (D_X10_byteAt_0.at 18 rfl) ?_
    exact J_iret rfl (D_X10_byteAt_0.at 19 rfl) T
  replace T := T.2 c6
  refine J_iconst 22 rfl (D_X10_byteAt_0.at 11 rfl) ?_
  refine J_goto 35 (D_X10_byteAt_0.at 12 rfl) (by decide) ?_
  exact J_iret rfl (D_X10_byteAt_0.at 19 rfl) T
theorem c_X10_isLetter {w : Wd} {a1 : Int} {h : Hp} {K : Int → Hp → Prop} (T : (inR a1) ∧ (((a1 < 97) → (K 0 h)) ∧ (¬ (a1 < 97) → ((inR a1) ∧ (((a1 > 122) → (K 0 h)) ∧ (¬ (a1 > 122) → (K 1 h))))))) : C_X10_isLetter w a1 h K := by
  refine CGm_of2 (by decide) (by decide) trivial (Nat.le_of_ble_eq_true rfl) ?_
  refine J_iload_n 1 rfl 0 0 rfl (D_X10_isLetter_0.at 0 rfl) ?_
  refine J_bipush 3 rfl ⟨by decide, by decide⟩ (D_X10_isLetter_0.at 1 rfl) ?_
  obtain ⟨s1, T⟩ := T
  refine J_icmp_lt 6 rfl 16 s1 ⟨by decide, by decide⟩ (D_X10_isLetter_0.at 2 rfl) (by decide) (fun c4 => ?_) (fun c4 => ?_)
  · replace T := T.1 c4
    refine J_iconst 17 rfl (D_X10_isLetter_0.at 8 rfl) ?_
    exact J_zret rfl (Or.inl rfl) (D_X10_isLetter_0.at 9 rfl) T
  replace T := T.2 c4
  refine J_iload_n 7 rfl 0 0 rfl (D_X10_isLetter_0.at 3 rfl) ?_
  refine J_bipush 9 rfl ⟨by decide, by decide⟩ (D_X10_isLetter_0.at 4 rfl) ?_
  obtain ⟨s2, T⟩ := T
  refine J_icmp_gt 12 rfl 16 s2 ⟨by decide, by decide⟩ (D_X10_isLetter_0.at 5 rfl) (by decide) (fun c3 => ?_) (fun c3 => ?_)
  · replace T := T.1 c3
    refine J_iconst 17 rfl (D_X10_isLetter_0.at 8 rfl) ?_
    exact J_zret rfl (Or.inl rfl) (D_X10_isLetter_0.at 9 rfl) T
  replace T := T.2 c3
  refine J_iconst 13 rfl (D_X10_isLetter_0.at 6 rfl) ?_
  refine J_goto 17 (D_X10_isLetter_0.at 7 rfl) (by decide) ?_
  exact J_zret rfl (Or.inr rfl) (D_X10_isLetter_0.at 9 rfl) T
theorem c_X10_isGlued {w : Wd} {h : Hp} {K : Int → Hp → Prop} (T : (inR (h 1 2)) ∧ ((((h 1 2) < 1) → (K 0 h)) ∧ (¬ ((h 1 2) < 1) → ((inR (h 1 2)) ∧ ((inR (h 1 1)) ∧ ((((h 1 2) > (h 1 1)) → (K 0 h)) ∧ (¬ ((h 1 2) > (h 1 1)) → ((inR (h 1 2)) ∧ ((((h 1 2) ≤ 1600) → ((0 ≤ ((h 1 2) - 1) ∧ ((h 1 2) - 1) < 1600) ∧ ((inR (h 2 ((h 1 2) - 1))) ∧ ((((h 2 ((h 1 2) - 1)) < 97) → ((inR (h 2 ((h 1 2) - 1))) ∧ ((((h 2 ((h 1 2) - 1)) < 48) → (K 0 h)) ∧ (¬ ((h 2 ((h 1 2) - 1)) < 48) → ((inR (h 2 ((h 1 2) - 1))) ∧ ((((h 2 ((h 1 2) - 1)) > 57) → (K 0 h)) ∧ (¬ ((h 2 ((h 1 2) - 1)) > 57) → (K 1 h)))))))) ∧ (¬ ((h 2 ((h 1 2) - 1)) < 97) → ((inR (h 2 ((h 1 2) - 1))) ∧ ((((h 2 ((h 1 2) - 1)) ≤ 122) → (K 1 h)) ∧ (¬ ((h 2 ((h 1 2) - 1)) ≤ 122) → ((inR (h 2 ((h 1 2) - 1))) ∧ ((((h 2 ((h 1 2) - 1)) < 48) → (K 0 h)) ∧ (¬ ((h 2 ((h 1 2) - 1)) < 48) → ((inR (h 2 ((h 1 2) - 1))) ∧ ((((h 2 ((h 1 2) - 1)) > 57) → (K 0 h)) ∧ (¬ ((h 2 ((h 1 2) - 1)) > 57) → (K 1 h))))))))))))))) ∧ (¬ ((h 1 2) ≤ 1600) → (K 0 h))))))))))) : C_X10_isGlued w h K := by
  refine CGm_of2 (by decide) (by decide) trivial (Nat.le_of_ble_eq_true rfl) ?_
  refine J_aload_n 1 rfl 0 0 rfl ⟨by decide, by decide⟩ (D_X10_isGlued_0.at 0 rfl) ?_
  refine J_getI (z := (h 1 2)) 4 rfl fl_10_26 rfl ob_1 (Ob.lt ob_1) (D_X10_isGlued_0.at 1 rfl) rfl ?_
  refine J_iconst 5 rfl (D_X10_isGlued_0.at 2 rfl) ?_
  obtain ⟨s1, T⟩ := T
  refine J_icmp_lt 8 rfl 31 s1 ⟨by decide, by decide⟩ (D_X10_isGlued_0.at 3 rfl) (by decide) (fun c20 => ?_) (fun c20 => ?_)
  · replace T := T.1 c20
    refine J_iconst 32 rfl (D_X10_isGlued_0.at 15 rfl) ?_
    exact J_zret rfl (Or.inl rfl) (D_X10_isGlued_0.at 16 rfl) T
  replace T := T.2 c20
  refine J_aload_n 9 rfl 0 0 rfl ⟨by decide, by decide⟩ (D_X10_isGlued_0.at 4 rfl) ?_
  refine J_getI (z := (h 1 2)) 12 rfl fl_10_26 rfl ob_1 (Ob.lt ob_1) (D_X10_isGlued_0.at 5 rfl) rfl ?_
  refine J_aload_n 13 rfl 0 0 rfl ⟨by decide, by decide⟩ (D_X10_isGlued_0.at 6 rfl) ?_
  refine J_getI (z := (h 1 1)) 16 rfl fl_10_19 rfl ob_1 (Ob.lt ob_1) (D_X10_isGlued_0.at 7 rfl) rfl ?_
  obtain ⟨s2, T⟩ := T
  obtain ⟨s3, T⟩ := T
  refine J_icmp_gt 19 rfl 31 s2 s3 (D_X10_isGlued_0.at 8 rfl) (by decide) (fun c19 => ?_) (fun c19 => ?_)
  · replace T := T.1 c19
    refine J_iconst 32 rfl (D_X10_isGlued_0.at 15 rfl) ?_
    exact J_zret rfl (Or.inl rfl) (D_X10_isGlued_0.at 16 rfl) T
  replace T := T.2 c19
  refine J_aload_n 20 rfl 0 0 rfl ⟨by decide, by decide⟩ (D_X10_isGlued_0.at 9 rfl) ?_
  refine J_getI (z := (h 1 2)) 23 rfl fl_10_26 rfl ob_1 (Ob.lt ob_1) (D_X10_isGlued_0.at 10 rfl) rfl ?_
  refine J_aload_n 24 rfl 0 0 rfl ⟨by decide, by decide⟩ (D_X10_isGlued_0.at 11 rfl) ?_
  refine J_getF (ov := 2) (dd := 1001) 27 rfl fl_10_9 rfl (by decide) rfl ob_1 (Ob.lt ob_1) (D_X10_isGlued_0.at 12 rfl) ?_
  refine J_alenE (v := 1600) 28 rfl rfl (by decide) ar_2 (Ar.lt ar_2) (D_X10_isGlued_0.at 13 rfl) ?_
  obtain ⟨s4, T⟩ := T
  refine J_icmp_le 31 rfl 33 s4 ⟨by decide, by decide⟩ (D_X10_isGlued_0.at 14 rfl) (by decide) (fun c18 => ?_) (fun c18 => ?_)
  · replace T := T.1 c18
    refine J_aload_n 34 rfl 0 0 rfl ⟨by decide, by decide⟩ (D_X10_isGlued_0.at 17 rfl) ?_
    refine J_getF (ov := 2) (dd := 1001) 37 rfl fl_10_9 rfl (by decide) rfl ob_1 (Ob.lt ob_1) (D_X10_isGlued_0.at 18 rfl) ?_
    refine J_aload_n 38 rfl 0 0 rfl ⟨by decide, by decide⟩ (D_X10_isGlued_0.at 19 rfl) ?_
    refine J_getI (z := (h 1 2)) 41 rfl fl_10_26 rfl ob_1 (Ob.lt ob_1) (D_X10_isGlued_0.at 20 rfl) rfl ?_
    refine J_iconst 42 rfl (D_X10_isGlued_0.at 21 rfl) ?_
    refine J_isub 43 rfl (D_X10_isGlued_0.at 22 rfl) ?_
    obtain ⟨s5, T⟩ := T
    refine J_bald 44 rfl ar_2 (Ar.lt ar_2) s5 (D_X10_isGlued_0.at 23 rfl) ?_
    refine J_istore_n (lv' := [(1, vI (h 2 ((h 1 2) - 1))), (0, vR 1)]) 45 rfl 1 (by decide) rfl (D_X10_isGlued_0.at 24 rfl) ?_
    refine J_iload_n 46 rfl 1 0 rfl (D_X10_isGlued_0.at 25 rfl) ?_
    refine J_bipush 48 rfl ⟨by decide, by decide⟩ (D_X10_isGlued_0.at 26 rfl) ?_
    obtain ⟨s6, T⟩ := T
    refine J_icmp_lt 51 rfl 57 s6 ⟨by decide, by decide⟩ (D_X10_isGlued_0.at 27 rfl) (by decide) (fun c17 => ?_) (fun c17 => ?_)
    · replace T := T.1 c17
      refine J_iload_n 58 rfl 1 0 rfl (D_X10_isGlued_0.at 31 rfl) ?_
      refine J_bipush 60 rfl ⟨by decide, by decide⟩ (D_X10_isGlued_0.at 32 rfl) ?_
      obtain ⟨s7, T⟩ := T
      refine J_icmp_lt 63 rfl 73 s7 ⟨by decide, by decide⟩ (D_X10_isGlued_0.at 33 rfl) (by decide) (fun c10 => ?_) (fun c10 => ?_)
      · replace T := T.1 c10
        refine J_iconst 74 rfl (D_X10_isGlued_0.at 39 rfl) ?_
        exact J_zret rfl (Or.inl rfl) (D_X10_isGlued_0.at 40 rfl) T
      replace T := T.2 c10
      refine J_iload_n 64 rfl 1 0 rfl (D_X10_isGlued_0.at 34 rfl) ?_
      refine J_bipush 66 rfl ⟨by decide, by decide⟩ (D_X10_isGlued_0.at 35 rfl) ?_
      obtain ⟨s8, T⟩ := T
      refine J_icmp_gt 69 rfl 73 s8 ⟨by decide, by decide⟩ (D_X10_isGlued_0.at 36 rfl) (by decide) (fun c9 => ?_) (fun c9 => ?_)
      · replace T := T.1 c9
        refine J_iconst 74 rfl (D_X10_isGlued_0.at 39 rfl) ?_
        exact J_zret rfl (Or.inl rfl) (D_X10_isGlued_0.at 40 rfl) T
      replace T := T.2 c9
      refine J_iconst 70 rfl (D_X10_isGlued_0.at 37 rfl) ?_
      refine J_goto 74 (D_X10_isGlued_0.at 38 rfl) (by decide) ?_
      exact J_zret rfl (Or.inr rfl) (D_X10_isGlued_0.at 40 rfl) T
    replace T := T.2 c17
    refine J_iload_n 52 rfl 1 0 rfl (D_X10_isGlued_0.at 28 rfl) ?_
    refine J_bipush 54 rfl ⟨by decide, by decide⟩ (D_X10_isGlued_0.at 29 rfl) ?_
    obtain ⟨s11, T⟩ := T
    refine J_icmp_le 57 rfl 69 s11 ⟨by decide, by decide⟩ (D_X10_isGlued_0.at 30 rfl) (by decide) (fun c16 => ?_) (fun c16 => ?_)
    · replace T := T.1 c16
      refine J_iconst 70 rfl (D_X10_isGlued_0.at 37 rfl) ?_
      refine J_goto 74 (D_X10_isGlued_0.at 38 rfl) (by decide) ?_
      exact J_zret rfl (Or.inr rfl) (D_X10_isGlued_0.at 40 rfl) T
    replace T := T.2 c16
    refine J_iload_n 58 rfl 1 0 rfl (D_X10_isGlued_0.at 31 rfl) ?_
    refine J_bipush 60 rfl ⟨by decide, by decide⟩ (D_X10_isGlued_0.at 32 rfl) ?_
    obtain ⟨s12, T⟩ := T
    refine J_icmp_lt 63 rfl 73 s12 ⟨by decide, by decide⟩ (D_X10_isGlued_0.at 33 rfl) (by decide) (fun c15 => ?_) (fun c15 => ?_)
    · replace T := T.1 c15
      refine J_iconst 74 rfl (D_X10_isGlued_0.at 39 rfl) ?_
      exact J_zret rfl (Or.inl rfl) (D_X10_isGlued_0.at 40 rfl) T
    replace T := T.2 c15
    refine J_iload_n 64 rfl 1 0 rfl (D_X10_isGlued_0.at 34 rfl) ?_
    refine J_bipush 66 rfl ⟨by decide, by decide⟩ (D_X10_isGlued_0.at 35 rfl) ?_
    obtain ⟨s13, T⟩ := T
    refine J_icmp_gt 69 rfl 73 s13 ⟨by decide, by decide⟩ (D_X10_isGlued_0.at 36 rfl) (by decide) (fun c14 => ?_) (fun c14 => ?_)
    · replace T := T.1 c14
      refine J_iconst 74 rfl (D_X10_isGlued_0.at 39 rfl) ?_
      exact J_zret rfl (Or.inl rfl) (D_X10_isGlued_0.at 40 rfl) T
    replace T := T.2 c14
    refine J_iconst 70 rfl (D_X10_isGlued_0.at 37 rfl) ?_
    refine J_goto 74 (D_X10_isGlued_0.at 38 rfl) (by decide) ?_
    exact J_zret rfl (Or.inr rfl) (D_X10_isGlued_0.at 40 rfl) T
  replace T := T.2 c18
  refine J_iconst 32 rfl (D_X10_isGlued_0.at 15 rfl) ?_
  exact J_zret rfl (Or.inl rfl) (D_X10_isGlued_0.at 16 rfl) T
theorem c_X10_isDigit {w : Wd} {a1 : Int} {h : Hp} {K : Int → Hp → Prop} (T : (inR a1) ∧ (((a1 < 48) → (K 0 h)) ∧ (¬ (a1 < 48) → ((inR a1) ∧ (((a1 > 57) → (K 0 h)) ∧ (¬ (a1 > 57) → (K 1 h))))))) : C_X10_isDigit w a1 h K := by
  refine CGm_of2 (by decide) (by decide) trivial (Nat.le_of_ble_eq_true rfl) ?_
  refine J_iload_n 1 rfl 0 0 rfl (D_X10_isDigit_0.at 0 rfl) ?_
  refine J_bipush 3 rfl ⟨by decide, by decide⟩ (D_X10_isDigit_0.at 1 rfl) ?_
  obtain ⟨s1, T⟩ := T
  refine J_icmp_lt 6 rfl 16 s1 ⟨by decide, by decide⟩ (D_X10_isDigit_0.at 2 rfl) (by decide) (fun c4 => ?_) (fun c4 => ?_)
  · replace T := T.1 c4
    refine J_iconst 17 rfl (D_X10_isDigit_0.at 8 rfl) ?_
    exact J_zret rfl (Or.inl rfl) (D_X10_isDigit_0.at 9 rfl) T
  replace T := T.2 c4
  refine J_iload_n 7 rfl 0 0 rfl (D_X10_isDigit_0.at 3 rfl) ?_
  refine J_bipush 9 rfl ⟨by decide, by decide⟩ (D_X10_isDigit_0.at 4 rfl) ?_
  obtain ⟨s2, T⟩ := T
  refine J_icmp_gt 12 rfl 16 s2 ⟨by decide, by decide⟩ (D_X10_isDigit_0.at 5 rfl) (by decide) (fun c3 => ?_) (fun c3 => ?_)
  · replace T := T.1 c3
    refine J_iconst 17 rfl (D_X10_isDigit_0.at 8 rfl) ?_
    exact J_zret rfl (Or.inl rfl) (D_X10_isDigit_0.at 9 rfl) T
  replace T := T.2 c3
  refine J_iconst 13 rfl (D_X10_isDigit_0.at 6 rfl) ?_
  refine J_goto 17 (D_X10_isDigit_0.at 7 rfl) (by decide) ?_
  exact J_zret rfl (Or.inr rfl) (D_X10_isDigit_0.at 9 rfl) T
theorem c_X7_hasReach {w : Wd} {o a1 : Int} (ho : Ob 7 o) {h : Hp} {K : Int → Hp → Prop} (T : (inR a1) ∧ (((a1 < 0) → (K 0 h)) ∧ (¬ (a1 < 0) → ((inR a1) ∧ ((inR (h o 12)) ∧ (((a1 ≥ (h o 12)) → (K 0 h)) ∧ (¬ (a1 ≥ (h o 12)) → ((inR a1) ∧ (((a1 ≥ 8) → (K 0 h)) ∧ (¬ (a1 ≥ 8) → (K 1 h))))))))))) : C_X7_hasReach w o a1 h K := by
  refine CGm_of2 (by decide) (by decide) trivial (Nat.le_of_ble_eq_true rfl) ?_
  refine J_iload_n 1 rfl 1 1 rfl (D_X7_hasReach_0.at 0 rfl) ?_
  obtain ⟨s1, T⟩ := T
  refine J_if_lt 4 rfl 22 s1 (D_X7_hasReach_0.at 1 rfl) (by decide) (fun c7 => ?_) (fun c7 => ?_)
  · replace T := T.1 c7
    refine J_iconst 23 rfl (D_X7_hasReach_0.at 11 rfl) ?_
    exact J_zret rfl (Or.inl rfl) (D_X7_hasReach_0.at 12 rfl) T
  replace T := T.2 c7
  refine J_iload_n 5 rfl 1 1 rfl (D_X7_hasReach_0.at 2 rfl) ?_
  refine J_aload_n 6 rfl 0 0 rfl (Ob.rng ho) (D_X7_hasReach_0.at 3 rfl) ?_
  refine J_getI (z := (h o 12)) 9 rfl fl_7_68 rfl ho (Ob.lt ho) (D_X7_hasReach_0.at 4 rfl) rfl ?_
  obtain ⟨s2, T⟩ := T
  obtain ⟨s3, T⟩ := T
  refine J_icmp_ge 12 rfl 22 s2 s3 (D_X7_hasReach_0.at 5 rfl) (by decide) (fun c6 => ?_) (fun c6 => ?_)
  · replace T := T.1 c6
    refine J_iconst 23 rfl (D_X7_hasReach_0.at 11 rfl) ?_
    exact J_zret rfl (Or.inl rfl) (D_X7_hasReach_0.at 12 rfl) T
  replace T := T.2 c6
  refine J_iload_n 13 rfl 1 1 rfl (D_X7_hasReach_0.at 6 rfl) ?_
  refine J_bipush 15 rfl ⟨by decide, by decide⟩ (D_X7_hasReach_0.at 7 rfl) ?_
  obtain ⟨s4, T⟩ := T
  refine J_icmp_ge 18 rfl 22 s4 ⟨by decide, by decide⟩ (D_X7_hasReach_0.at 8 rfl) (by decide) (fun c5 => ?_) (fun c5 => ?_)
  · replace T := T.1 c5
    refine J_iconst 23 rfl (D_X7_hasReach_0.at 11 rfl) ?_
    exact J_zret rfl (Or.inl rfl) (D_X7_hasReach_0.at 12 rfl) T
  replace T := T.2 c5
  refine J_iconst 19 rfl (D_X7_hasReach_0.at 9 rfl) ?_
  refine J_goto 23 (D_X7_hasReach_0.at 10 rfl) (by decide) ?_
  exact J_zret rfl (Or.inr rfl) (D_X7_hasReach_0.at 12 rfl) T
theorem c_X4_isFull {w : Wd} {o : Int} (ho : Ob 4 o) {nA : Nat} (hA : Ar 0 nA (o + 1)) {h : Hp} {K : Int → Hp → Prop} (T : (inR (h o 1)) ∧ ((((h o 1) < (Int.ofNat nA)) → (K 0 h)) ∧ (¬ ((h o 1) < (Int.ofNat nA)) → (K 1 h)))) : C_X4_isFull w o h K := by
  refine CGm_of2 (by decide) (by decide) trivial (Nat.le_of_ble_eq_true rfl) ?_
  refine J_aload_n 1 rfl 0 0 rfl (Ob.rng ho) (D_X4_isFull_0.at 0 rfl) ?_
  refine J_getI (z := (h o 1)) 4 rfl fl_4_21 rfl ho (Ob.lt ho) (D_X4_isFull_0.at 1 rfl) rfl ?_
  refine J_aload_n 5 rfl 0 0 rfl (Ob.rng ho) (D_X4_isFull_0.at 2 rfl) ?_
  refine J_getF (ov := (o + 1)) (dd := 1001) 8 rfl fl_4_15 rfl (by decide) rfl ho (Ob.lt ho) (D_X4_isFull_0.at 3 rfl) ?_
  refine J_alenE (v := (Int.ofNat nA)) 9 rfl rfl (by decide) hA (Ar.lt hA) (D_X4_isFull_0.at 4 rfl) ?_
  obtain ⟨s1, T⟩ := T
  refine J_icmp_lt 12 rfl 16 s1 (Ar.lrng hA) (D_X4_isFull_0.at 5 rfl) (by decide) (fun c2 => ?_) (fun c2 => ?_)
  · replace T := T.1 c2
    refine J_iconst 17 rfl (D_X4_isFull_0.at 8 rfl) ?_
    exact J_zret rfl (Or.inl rfl) (D_X4_isFull_0.at 9 rfl) T
  replace T := T.2 c2
  refine J_iconst 13 rfl (D_X4_isFull_0.at 6 rfl) ?_
  refine J_goto 17 (D_X4_isFull_0.at 7 rfl) (by decide) ?_
  exact J_zret rfl (Or.inr rfl) (D_X4_isFull_0.at 9 rfl) T
theorem c_X10_packedLetter {w : Wd} {a1 a2 : Int} {h : Hp} {K : Int → Hp → Prop} (T : (0 ≤ (5 * (5 - a2)) ∧ (5 * (5 - a2)) < 32) ∧ (K (((a1 - 97) + 1) * 2 ^ (Int.toNat (5 * (5 - a2)))) h)) : C_X10_packedLetter w a1 a2 h K := by
  refine CGm_of2 (by decide) (by decide) trivial (Nat.le_of_ble_eq_true rfl) ?_
  refine J_iload_n 1 rfl 0 0 rfl (D_X10_packedLetter_0.at 0 rfl) ?_
  refine J_bipush 3 rfl ⟨by decide, by decide⟩ (D_X10_packedLetter_0.at 1 rfl) ?_
  refine J_isub 4 rfl (D_X10_packedLetter_0.at 2 rfl) ?_
  refine J_iconst 5 rfl (D_X10_packedLetter_0.at 3 rfl) ?_
  refine J_iadd 6 rfl (D_X10_packedLetter_0.at 4 rfl) ?_
  refine J_iconst 7 rfl (D_X10_packedLetter_0.at 5 rfl) ?_
  refine J_iconst 8 rfl (D_X10_packedLetter_0.at 6 rfl) ?_
  refine J_iload_n 9 rfl 1 1 rfl (D_X10_packedLetter_0.at 7 rfl) ?_
  refine J_isub 10 rfl (D_X10_packedLetter_0.at 8 rfl) ?_
  refine J_imul 11 rfl (D_X10_packedLetter_0.at 9 rfl) ?_
  obtain ⟨s1, T⟩ := T
  refine J_ishl 12 rfl s1 (D_X10_packedLetter_0.at 10 rfl) ?_
  exact J_iret rfl (D_X10_packedLetter_0.at 11 rfl) T
theorem c_X4_indexOf {w : Wd} {o a1 : Int} (ho : Ob 4 o) {nA : Nat} (hA : Ar 0 nA (o + 1)) {h : Hp} {K : Int → Hp → Prop} (T : L_X4_indexOf_2 w o a1 0 h K) : C_X4_indexOf w o a1 h K := by
  refine CGm_of2 (by decide) (by decide) trivial (Nat.le_of_ble_eq_true rfl) ?_
  refine J_iconst 1 rfl (D_X4_indexOf_0.at 0 rfl) ?_
  refine J_istore_n (lv' := [(2, vI 0), (0, vR o), (1, vI a1)]) 2 rfl 2 (by decide) rfl (D_X4_indexOf_0.at 1 rfl) ?_
  exact J_sub (lv' := [(0, vR o), (1, vI a1), (2, vI 0)]) [1, 2, 0] rfl T
theorem l_X4_indexOf_2 {w : Wd} {o v1 v2 : Int} (ho : Ob 4 o) {nA : Nat} (hA : Ar 0 nA (o + 1)) {h : Hp} {K : Int → Hp → Prop} (T : (inR v2) ∧ ((inR (h o 1)) ∧ (((v2 ≥ (h o 1)) → (K (-1) h)) ∧ (¬ (v2 ≥ (h o 1)) → ((inR v2) ∧ (((v2 ≥ (Int.ofNat nA)) → (K (-1) h)) ∧ (¬ (v2 ≥ (Int.ofNat nA)) → ((0 ≤ v2 ∧ v2 < nA) ∧ ((inR (h (o + 1) v2)) ∧ ((inR v1) ∧ ((((h (o + 1) v2) ≠ v1) → (L_X4_indexOf_2 w o v1 (v2 + 1) h K)) ∧ (¬ ((h (o + 1) v2) ≠ v1) → (K v2 h))))))))))))) : L_X4_indexOf_2 w o v1 v2 h K := by
  unfold L_X4_indexOf_2
  refine J_iload_n 3 rfl 2 2 rfl (D_X4_indexOf_0.at 2 rfl) ?_
  refine J_aload_n 4 rfl 0 0 rfl (Ob.rng ho) (D_X4_indexOf_0.at 3 rfl) ?_
  refine J_getI (z := (h o 1)) 7 rfl fl_4_21 rfl ho (Ob.lt ho) (D_X4_indexOf_0.at 4 rfl) rfl ?_
  obtain ⟨s1, T⟩ := T
  obtain ⟨s2, T⟩ := T
  refine J_icmp_ge 10 rfl 37 s1 s2 (D_X4_indexOf_0.at 5 rfl) (by decide) (fun c9 => ?_) (fun c9 => ?_)
  · replace T := T.1 c9
    refine J_iconst 38 rfl (D_X4_indexOf_0.at 21 rfl) ?_
    exact J_iret rfl (D_X4_indexOf_0.at 22 rfl) T
  replace T := T.2 c9
  refine J_iload_n 11 rfl 2 2 rfl (D_X4_indexOf_0.at 6 rfl) ?_
  refine J_aload_n 12 rfl 0 0 rfl (Ob.rng ho) (D_X4_indexOf_0.at 7 rfl) ?_
  refine J_getF (ov := (o + 1)) (dd := 1001) 15 rfl fl_4_15 rfl (by decide) rfl ho (Ob.lt ho) (D_X4_indexOf_0.at 8 rfl) ?_
  refine J_alenE (v := (Int.ofNat nA)) 16 rfl rfl (by decide) hA (Ar.lt hA) (D_X4_indexOf_0.at 9 rfl) ?_
  obtain ⟨s3, T⟩ := T
  refine J_icmp_ge 19 rfl 37 s3 (Ar.lrng hA) (D_X4_indexOf_0.at 10 rfl) (by decide) (fun c8 => ?_) (fun c8 => ?_)
  · replace T := T.1 c8
    refine J_iconst 38 rfl (D_X4_indexOf_0.at 21 rfl) ?_
    exact J_iret rfl (D_X4_indexOf_0.at 22 rfl) T
  replace T := T.2 c8
  refine J_aload_n 20 rfl 0 0 rfl (Ob.rng ho) (D_X4_indexOf_0.at 11 rfl) ?_
  refine J_getF (ov := (o + 1)) (dd := 1001) 23 rfl fl_4_15 rfl (by decide) rfl ho (Ob.lt ho) (D_X4_indexOf_0.at 12 rfl) ?_
  refine J_iload_n 24 rfl 2 2 rfl (D_X4_indexOf_0.at 13 rfl) ?_
  obtain ⟨s4, T⟩ := T
  refine J_iald 25 rfl hA (Ar.lt hA) s4 (D_X4_indexOf_0.at 14 rfl) ?_
  refine J_iload_n 26 rfl 1 1 rfl (D_X4_indexOf_0.at 15 rfl) ?_
  obtain ⟨s5, T⟩ := T
  obtain ⟨s6, T⟩ := T
  refine J_icmp_ne 29 rfl 31 s5 s6 (D_X4_indexOf_0.at 16 rfl) (by decide) (fun c7 => ?_) (fun c7 => ?_)
  · replace T := T.1 c7
    refine J_iinc (v := (v2 + 1)) (lv' := [(2, vI (v2 + 1)), (0, vR o), (1, vI v1)]) 34 rfl 2 2 1 rfl rfl (by decide) rfl (D_X4_indexOf_0.at 19 rfl) ?_
    refine J_goto 2 (D_X4_indexOf_0.at 20 rfl) (by decide) ?_
    exact J_sub (lv' := [(0, vR o), (1, vI v1), (2, vI (v2 + 1))]) [1, 2, 0] rfl T
  replace T := T.2 c7
  refine J_iload_n 30 rfl 2 2 rfl (D_X4_indexOf_0.at 17 rfl) ?_
  exact J_iret rfl (D_X4_indexOf_0.at 18 rfl) T
theorem c_X7_hasBank {w : Wd} {o a1 : Int} (ho : Ob 7 o) {h : Hp} {K : Int → Hp → Prop} (T : (inR a1) ∧ (((a1 < 0) → (K 0 h)) ∧ (¬ (a1 < 0) → ((inR a1) ∧ ((inR (h (o + 5) 1)) ∧ (((a1 ≥ (h (o + 5) 1)) → (K 0 h)) ∧ (¬ (a1 ≥ (h (o + 5) 1)) → ((inR a1) ∧ (((a1 ≥ 10) → (K 0 h)) ∧ (¬ (a1 ≥ 10) → (K 1 h))))))))))) : C_X7_hasBank w o a1 h K := by
  refine CGm_of2 (by decide) (by decide) trivial (Nat.le_of_ble_eq_true rfl) ?_
  refine J_iload_n 1 rfl 1 1 rfl (D_X7_hasBank_0.at 0 rfl) ?_
  obtain ⟨s1, T⟩ := T
  refine J_if_lt 4 rfl 25 s1 (D_X7_hasBank_0.at 1 rfl) (by decide) (fun c7 => ?_) (fun c7 => ?_)
  · replace T := T.1 c7
    refine J_iconst 26 rfl (D_X7_hasBank_0.at 12 rfl) ?_
    exact J_zret rfl (Or.inl rfl) (D_X7_hasBank_0.at 13 rfl) T
  replace T := T.2 c7
  refine J_iload_n 5 rfl 1 1 rfl (D_X7_hasBank_0.at 2 rfl) ?_
  refine J_aload_n 6 rfl 0 0 rfl (Ob.rng ho) (D_X7_hasBank_0.at 3 rfl) ?_
  refine J_getF (ov := (o + 5)) (dd := 1005) 9 rfl fl_7_23 rfl (by decide) rfl ho (Ob.lt ho) (D_X7_hasBank_0.at 4 rfl) ?_
  refine J_getI (z := (h (o + 5) 1)) 12 rfl fl_7_58 rfl (of_7_2 ho) (Ob.lt (of_7_2 ho)) (D_X7_hasBank_0.at 5 rfl) rfl ?_
  obtain ⟨s2, T⟩ := T
  obtain ⟨s3, T⟩ := T
  refine J_icmp_ge 15 rfl 25 s2 s3 (D_X7_hasBank_0.at 6 rfl) (by decide) (fun c6 => ?_) (fun c6 => ?_)
  · replace T := T.1 c6
    refine J_iconst 26 rfl (D_X7_hasBank_0.at 12 rfl) ?_
    exact J_zret rfl (Or.inl rfl) (D_X7_hasBank_0.at 13 rfl) T
  replace T := T.2 c6
  refine J_iload_n 16 rfl 1 1 rfl (D_X7_hasBank_0.at 7 rfl) ?_
  refine J_bipush 18 rfl ⟨by decide, by decide⟩ (D_X7_hasBank_0.at 8 rfl) ?_
  obtain ⟨s4, T⟩ := T
  refine J_icmp_ge 21 rfl 25 s4 ⟨by decide, by decide⟩ (D_X7_hasBank_0.at 9 rfl) (by decide) (fun c5 => ?_) (fun c5 => ?_)
  · replace T := T.1 c5
    refine J_iconst 26 rfl (D_X7_hasBank_0.at 12 rfl) ?_
    exact J_zret rfl (Or.inl rfl) (D_X7_hasBank_0.at 13 rfl) T
  replace T := T.2 c5
  refine J_iconst 22 rfl (D_X7_hasBank_0.at 10 rfl) ?_
  refine J_goto 26 (D_X7_hasBank_0.at 11 rfl) (by decide) ?_
  exact J_zret rfl (Or.inr rfl) (D_X7_hasBank_0.at 13 rfl) T
theorem c_X1_isTold {w : Wd} {o : Int} (ho : Ob 1 o) {h : Hp} {K : Int → Hp → Prop} (T : (inR (h o 1)) ∧ ((((h o 1) ≤ 0) → (K 0 h)) ∧ (¬ ((h o 1) ≤ 0) → (K 1 h)))) : C_X1_isTold w o h K := by
  refine CGm_of2 (by decide) (by decide) trivial (Nat.le_of_ble_eq_true rfl) ?_
  refine J_aload_n 1 rfl 0 0 rfl (Ob.rng ho) (D_X1_isTold_0.at 0 rfl) ?_
  refine J_getI (z := (h o 1)) 4 rfl fl_1_15 rfl ho (Ob.lt ho) (D_X1_isTold_0.at 1 rfl) rfl ?_
  obtain ⟨s1, T⟩ := T
  refine J_if_le 7 rfl 11 s1 (D_X1_isTold_0.at 2 rfl) (by decide) (fun c2 => ?_) (fun c2 => ?_)
  · replace T := T.1 c2
    refine J_iconst 12 rfl (D_X1_isTold_0.at 5 rfl) ?_
    exact J_zret rfl (Or.inl rfl) (D_X1_isTold_0.at 6 rfl) T
  replace T := T.2 c2
  refine J_iconst 8 rfl (D_X1_isTold_0.at 3 rfl) ?_
  refine J_goto 12 (D_X1_isTold_0.at 4 rfl) (by decide) ?_
  exact J_zret rfl (Or.inr rfl) (D_X1_isTold_0.at 6 rfl) T
theorem c_X1_put {w : Wd} {o a1 : Int} (ho : Ob 1 o) {h : Hp} {K : Int → Hp → Prop} (T : (inR (h o 1)) ∧ ((((h o 1) ≥ 1600) → (K 0 h)) ∧ (¬ ((h o 1) ≥ 1600) → ((0 ≤ (h o 1) ∧ (h o 1) < 1600) ∧ (∀ h3 : Hp, h3 = hu h (o + 1) (h o 1) a1 → ∀ h5 : Hp, h5 = hu h3 o 1 ((h3 o 1) + 1) → K 0 h5))))) : C_X1_put w o a1 h K := by
  refine CGm_of2 (by decide) (by decide) trivial (Nat.le_of_ble_eq_true rfl) ?_
  refine J_aload_n 1 rfl 0 0 rfl (Ob.rng ho) (D_X1_put_0.at 0 rfl) ?_
  refine J_getI (z := (h o 1)) 4 rfl fl_1_15 rfl ho (Ob.lt ho) (D_X1_put_0.at 1 rfl) rfl ?_
  refine J_aload_n 5 rfl 0 0 rfl (Ob.rng ho) (D_X1_put_0.at 2 rfl) ?_
  refine J_getF (ov := (o + 1)) (dd := 1001) 8 rfl fl_1_9 rfl (by decide) rfl ho (Ob.lt ho) (D_X1_put_0.at 3 rfl) ?_
  refine J_alenE (v := 1600) 9 rfl rfl (by decide) (of_1_0 ho) (Ar.lt (of_1_0 ho)) (D_X1_put_0.at 4 rfl) ?_
  obtain ⟨s1, T⟩ := T
  refine J_icmp_ge 12 rfl 32 s1 ⟨by decide, by decide⟩ (D_X1_put_0.at 5 rfl) (by decide) (fun c7 => ?_) (fun c7 => ?_)
  · replace T := T.1 c7
    exact J_vret rfl (D_X1_put_0.at 18 rfl) T
  replace T := T.2 c7
  refine J_aload_n 13 rfl 0 0 rfl (Ob.rng ho) (D_X1_put_0.at 6 rfl) ?_
  refine J_getF (ov := (o + 1)) (dd := 1001) 16 rfl fl_1_9 rfl (by decide) rfl ho (Ob.lt ho) (D_X1_put_0.at 7 rfl) ?_
  refine J_aload_n 17 rfl 0 0 rfl (Ob.rng ho) (D_X1_put_0.at 8 rfl) ?_
  refine J_getI (z := (h o 1)) 20 rfl fl_1_15 rfl ho (Ob.lt ho) (D_X1_put_0.at 9 rfl) rfl ?_
  refine J_iload_n 21 rfl 1 1 rfl (D_X1_put_0.at 10 rfl) ?_
  obtain ⟨s2, T⟩ := T
  refine J_iastH 22 rfl (of_1_0 ho) (Ar.lt (of_1_0 ho)) s2 trivial (D_X1_put_0.at 11 rfl) (fun h3 e4 => ?_)
  replace T := T h3 e4
  refine J_aload_n 23 rfl 0 0 rfl (Ob.rng ho) (D_X1_put_0.at 12 rfl) ?_
  refine J_dup 24 rfl rfl (D_X1_put_0.at 13 rfl) ?_
  refine J_getI (z := (h3 o 1)) 27 rfl fl_1_15 rfl ho (Ob.lt ho) (D_X1_put_0.at 14 rfl) rfl ?_
  refine J_iconst 28 rfl (D_X1_put_0.at 15 rfl) ?_
  refine J_iadd 29 rfl (D_X1_put_0.at 16 rfl) ?_
  refine J_putI 32 rfl fl_1_15 rfl rfl ho (Ob.lt ho) (D_X1_put_0.at 17 rfl) (fun h5 e6 => ?_)
  replace T := T h5 e6
  exact J_vret rfl (D_X1_put_0.at 18 rfl) T
theorem c_X9_clear {w : Wd} {o a1 : Int} (ho : Ob 9 o) (ha1 : Ob 7 a1) {h : Hp} {K : Int → Hp → Prop} (T : ∀ h1 : Hp, h1 = hu h o 4 0 → L_X9_clear_7 w o a1 0 h1 K) : C_X9_clear w o a1 h K := by
  refine CGm_of2 (by decide) (by decide) trivial (Nat.le_of_ble_eq_true rfl) ?_
  refine J_aload_n 1 rfl 0 0 rfl (Ob.rng ho) (D_X9_clear_0.at 0 rfl) ?_
  refine J_iconst 2 rfl (D_X9_clear_0.at 1 rfl) ?_
  refine J_putI 5 rfl fl_9_24 rfl rfl ho (Ob.lt ho) (D_X9_clear_0.at 2 rfl) (fun h1 e2 => ?_)
  replace T := T h1 e2
  refine J_iconst 6 rfl (D_X9_clear_0.at 3 rfl) ?_
  refine J_istore_n (lv' := [(2, vI 0), (0, vR o), (1, vR a1)]) 7 rfl 2 (by decide) rfl (D_X9_clear_0.at 4 rfl) ?_
  exact J_sub (lv' := [(0, vR o), (1, vR a1), (2, vI 0)]) [1, 2, 0] rfl T
theorem l_X9_clear_7 {w : Wd} {o v1 v2 : Int} (ho : Ob 9 o) (hv1 : Ob 7 v1) {h : Hp} {K : Int → Hp → Prop} (T : (inR v2) ∧ (((v2 ≥ 8) → (L_X9_clear_31 w o v1 0 h K)) ∧ (¬ (v2 ≥ 8) → ((0 ≤ v2 ∧ v2 < 8) ∧ (∀ h5 : Hp, h5 = hu h (o + 1) v2 0 → L_X9_clear_7 w o v1 (v2 + 1) h5 K))))) : L_X9_clear_7 w o v1 v2 h K := by
  unfold L_X9_clear_7
  refine J_iload_n 8 rfl 2 2 rfl (D_X9_clear_0.at 5 rfl) ?_
  refine J_aload_n 9 rfl 0 0 rfl (Ob.rng ho) (D_X9_clear_0.at 6 rfl) ?_
  refine J_getF (ov := (o + 1)) (dd := 1001) 12 rfl fl_9_9 rfl (by decide) rfl ho (Ob.lt ho) (D_X9_clear_0.at 7 rfl) ?_
  refine J_alenE (v := 8) 13 rfl rfl (by decide) (of_9_0 ho) (Ar.lt (of_9_0 ho)) (D_X9_clear_0.at 8 rfl) ?_
  obtain ⟨s3, T⟩ := T
  refine J_icmp_ge 16 rfl 29 s3 ⟨by decide, by decide⟩ (D_X9_clear_0.at 9 rfl) (by decide) (fun c7 => ?_) (fun c7 => ?_)
  · replace T := T.1 c7
    refine J_iconst 30 rfl (D_X9_clear_0.at 17 rfl) ?_
    refine J_istore_n (lv' := [(2, vI 0), (0, vR o), (1, vR v1)]) 31 rfl 2 (by decide) rfl (D_X9_clear_0.at 18 rfl) ?_
    exact J_sub (lv' := [(0, vR o), (1, vR v1), (2, vI 0)]) [1, 2, 0] rfl T
  replace T := T.2 c7
  refine J_aload_n 17 rfl 0 0 rfl (Ob.rng ho) (D_X9_clear_0.at 10 rfl) ?_
  refine J_getF (ov := (o + 1)) (dd := 1001) 20 rfl fl_9_9 rfl (by decide) rfl ho (Ob.lt ho) (D_X9_clear_0.at 11 rfl) ?_
  refine J_iload_n 21 rfl 2 2 rfl (D_X9_clear_0.at 12 rfl) ?_
  refine J_iconst 22 rfl (D_X9_clear_0.at 13 rfl) ?_
  obtain ⟨s4, T⟩ := T
  refine J_iastH 23 rfl (of_9_0 ho) (Ar.lt (of_9_0 ho)) s4 trivial (D_X9_clear_0.at 14 rfl) (fun h5 e6 => ?_)
  replace T := T h5 e6
  refine J_iinc (v := (v2 + 1)) (lv' := [(2, vI (v2 + 1)), (0, vR o), (1, vR v1)]) 26 rfl 2 2 1 rfl rfl (by decide) rfl (D_X9_clear_0.at 15 rfl) ?_
  refine J_goto 7 (D_X9_clear_0.at 16 rfl) (by decide) ?_
  exact J_sub (lv' := [(0, vR o), (1, vR v1), (2, vI (v2 + 1))]) [1, 2, 0] rfl T
theorem l_X9_clear_31 {w : Wd} {o v1 v2 : Int} (ho : Ob 9 o) (hv1 : Ob 7 v1) {h : Hp} {K : Int → Hp → Prop} (T : (inR v2) ∧ (((v2 ≥ 80) → (L_X9_clear_55 w o v1 0 h K)) ∧ (¬ (v2 ≥ 80) → ((0 ≤ v2 ∧ v2 < 80) ∧ (∀ h10 : Hp, h10 = hu h (o + 2) v2 0 → L_X9_clear_31 w o v1 (v2 + 1) h10 K))))) : L_X9_clear_31 w o v1 v2 h K := by
  unfold L_X9_clear_31
  refine J_iload_n 32 rfl 2 2 rfl (D_X9_clear_0.at 19 rfl) ?_
  refine J_aload_n 33 rfl 0 0 rfl (Ob.rng ho) (D_X9_clear_0.at 20 rfl) ?_
  refine J_getF (ov := (o + 2)) (dd := 1002) 36 rfl fl_9_15 rfl (by decide) rfl ho (Ob.lt ho) (D_X9_clear_0.at 21 rfl) ?_
  refine J_alenE (v := 80) 37 rfl rfl (by decide) (of_9_1 ho) (Ar.lt (of_9_1 ho)) (D_X9_clear_0.at 22 rfl) ?_
  obtain ⟨s8, T⟩ := T
  refine J_icmp_ge 40 rfl 53 s8 ⟨by decide, by decide⟩ (D_X9_clear_0.at 23 rfl) (by decide) (fun c12 => ?_) (fun c12 => ?_)
  · replace T := T.1 c12
    refine J_iconst 54 rfl (D_X9_clear_0.at 31 rfl) ?_
    refine J_istore_n (lv' := [(2, vI 0), (0, vR o), (1, vR v1)]) 55 rfl 2 (by decide) rfl (D_X9_clear_0.at 32 rfl) ?_
    exact J_sub (lv' := [(0, vR o), (1, vR v1), (2, vI 0)]) [1, 2, 0] rfl T
  replace T := T.2 c12
  refine J_aload_n 41 rfl 0 0 rfl (Ob.rng ho) (D_X9_clear_0.at 24 rfl) ?_
  refine J_getF (ov := (o + 2)) (dd := 1002) 44 rfl fl_9_15 rfl (by decide) rfl ho (Ob.lt ho) (D_X9_clear_0.at 25 rfl) ?_
  refine J_iload_n 45 rfl 2 2 rfl (D_X9_clear_0.at 26 rfl) ?_
  refine J_iconst 46 rfl (D_X9_clear_0.at 27 rfl) ?_
  obtain ⟨s9, T⟩ := T
  refine J_iastH 47 rfl (of_9_1 ho) (Ar.lt (of_9_1 ho)) s9 trivial (D_X9_clear_0.at 28 rfl) (fun h10 e11 => ?_)
  replace T := T h10 e11
  refine J_iinc (v := (v2 + 1)) (lv' := [(2, vI (v2 + 1)), (0, vR o), (1, vR v1)]) 50 rfl 2 2 1 rfl rfl (by decide) rfl (D_X9_clear_0.at 29 rfl) ?_
  refine J_goto 31 (D_X9_clear_0.at 30 rfl) (by decide) ?_
  exact J_sub (lv' := [(0, vR o), (1, vR v1), (2, vI (v2 + 1))]) [1, 2, 0] rfl T
theorem l_X9_clear_55 {w : Wd} {o v1 v2 : Int} (ho : Ob 9 o) (hv1 : Ob 7 v1) {h : Hp} {K : Int → Hp → Prop} (T : (inR v2) ∧ (((v2 ≥ 10) → (K 0 h)) ∧ (¬ (v2 ≥ 10) → ((0 ≤ v2 ∧ v2 < 10) ∧ ((0 ≤ v2 ∧ v2 < 10) ∧ (∀ h16 : Hp, h16 = hu h (o + 3) v2 (h (v1 + 11) v2) → (0 ≤ v2 ∧ v2 < 10) ∧ (∀ h19 : Hp, h19 = hu h16 (o + 4) v2 0 → L_X9_clear_55 w o v1 (v2 + 1) h19 K))))))) : L_X9_clear_55 w o v1 v2 h K := by
  unfold L_X9_clear_55
  refine J_iload_n 56 rfl 2 2 rfl (D_X9_clear_0.at 33 rfl) ?_
  refine J_bipush 58 rfl ⟨by decide, by decide⟩ (D_X9_clear_0.at 34 rfl) ?_
  obtain ⟨s13, T⟩ := T
  refine J_icmp_ge 61 rfl 86 s13 ⟨by decide, by decide⟩ (D_X9_clear_0.at 35 rfl) (by decide) (fun c21 => ?_) (fun c21 => ?_)
  · replace T := T.1 c21
    exact J_vret rfl (D_X9_clear_1.at 3 rfl) T
  replace T := T.2 c21
  refine J_aload_n 62 rfl 0 0 rfl (Ob.rng ho) (D_X9_clear_0.at 36 rfl) ?_
  refine J_getF (ov := (o + 3)) (dd := 1003) 65 rfl fl_9_18 rfl (by decide) rfl ho (Ob.lt ho) (D_X9_clear_0.at 37 rfl) ?_
  refine J_iload_n 66 rfl 2 2 rfl (D_X9_clear_0.at 38 rfl) ?_
  refine J_aload_n 67 rfl 1 1 rfl (Ob.rng hv1) (D_X9_clear_0.at 39 rfl) ?_
  refine J_getF (ov := (v1 + 11)) (dd := 1011) 70 rfl fl_9_28 rfl (by decide) rfl hv1 (Ob.lt hv1) (D_X9_clear_0.at 40 rfl) ?_
  refine J_iload_n 71 rfl 2 2 rfl (D_X9_clear_0.at 41 rfl) ?_
  obtain ⟨s14, T⟩ := T
  refine J_iald 72 rfl (of_7_7 hv1) (Ar.lt (of_7_7 hv1)) s14 (D_X9_clear_0.at 42 rfl) ?_
  obtain ⟨s15, T⟩ := T
  refine J_iastH 73 rfl (of_9_2 ho) (Ar.lt (of_9_2 ho)) s15 trivial (D_X9_clear_0.at 43 rfl) (fun h16 e17 => ?_)
  replace T := T h16 e17
  refine J_aload_n 74 rfl 0 0 rfl (Ob.rng ho) (D_X9_clear_0.at 44 rfl) ?_
  refine J_getF (ov := (o + 4)) (dd := 1004) 77 rfl fl_9_21 rfl (by decide) rfl ho (Ob.lt ho) (D_X9_clear_0.at 45 rfl) ?_
  refine J_iload_n 78 rfl 2 2 rfl (D_X9_clear_0.at 46 rfl) ?_
  refine J_iconst 79 rfl (D_X9_clear_0.at 47 rfl) ?_
  obtain ⟨s18, T⟩ := T
  refine J_iastH 80 rfl (of_9_3 ho) (Ar.lt (of_9_3 ho)) s18 trivial (D_X9_clear_1.at 0 rfl) (fun h19 e20 => ?_)
  replace T := T h19 e20
  refine J_iinc (v := (v2 + 1)) (lv' := [(2, vI (v2 + 1)), (0, vR o), (1, vR v1)]) 83 rfl 2 2 1 rfl rfl (by decide) rfl (D_X9_clear_1.at 1 rfl) ?_
  refine J_goto 55 (D_X9_clear_1.at 2 rfl) (by decide) ?_
  exact J_sub (lv' := [(0, vR o), (1, vR v1), (2, vI (v2 + 1))]) [1, 2, 0] rfl T
theorem c_X5_clear {w : Wd} {h : Hp} {K : Int → Hp → Prop} (T : ∀ h1 : Hp, h1 = hu h 50 2 0 → K 0 h1) : C_X5_clear w h K := by
  refine CGm_of2 (by decide) (by decide) trivial (Nat.le_of_ble_eq_true rfl) ?_
  refine J_aload_n 1 rfl 0 0 rfl ⟨by decide, by decide⟩ (D_X5_clear_0.at 0 rfl) ?_
  refine J_iconst 2 rfl (D_X5_clear_0.at 1 rfl) ?_
  refine J_putI 5 rfl fl_5_15 rfl rfl ob_50 (Ob.lt ob_50) (D_X5_clear_0.at 2 rfl) (fun h1 e2 => ?_)
  replace T := T h1 e2
  exact J_vret rfl (D_X5_clear_0.at 3 rfl) T
theorem c_X11_total {w : Wd} {a1 : Int} {na1 : Nat} (ha1 : Ar 0 na1 a1) {h : Hp} {K : Int → Hp → Prop} (T : L_X11_total_4 w a1 0 0 h K) : C_X11_total w a1 h K := by
  refine CGm_of2 (by decide) (by decide) trivial (Nat.le_of_ble_eq_true rfl) ?_
  refine J_iconst 1 rfl (D_X11_total_0.at 0 rfl) ?_
  refine J_istore_n (lv' := [(1, vI 0), (0, vR a1)]) 2 rfl 1 (by decide) rfl (D_X11_total_0.at 1 rfl) ?_
  refine J_iconst 3 rfl (D_X11_total_0.at 2 rfl) ?_
  refine J_istore_n (lv' := [(2, vI 0), (1, vI 0), (0, vR a1)]) 4 rfl 2 (by decide) rfl (D_X11_total_0.at 3 rfl) ?_
  exact J_sub (lv' := [(0, vR a1), (1, vI 0), (2, vI 0)]) [2, 1, 0] rfl T
theorem l_X11_total_4 {w : Wd} {v0 v1 v2 : Int} {nv0 : Nat} (hv0 : Ar 0 nv0 v0) {h : Hp} {K : Int → Hp → Prop} (T : (inR v2) ∧ (((v2 ≥ (Int.ofNat nv0)) → (K v1 h)) ∧ (¬ (v2 ≥ (Int.ofNat nv0)) → ((0 ≤ v2 ∧ v2 < nv0) ∧ (L_X11_total_4 w v0 (v1 + (h v0 v2)) (v2 + 1) h K))))) : L_X11_total_4 w v0 v1 v2 h K := by
  unfold L_X11_total_4
  refine J_iload_n 5 rfl 2 2 rfl (D_X11_total_0.at 4 rfl) ?_
  refine J_aload_n 6 rfl 0 0 rfl (Ar.rng hv0) (D_X11_total_0.at 5 rfl) ?_
  refine J_alenE (v := (Int.ofNat nv0)) 7 rfl rfl (by decide) hv0 (Ar.lt hv0) (D_X11_total_0.at 6 rfl) ?_
  obtain ⟨s1, T⟩ := T
  refine J_icmp_ge 10 rfl 22 s1 (Ar.lrng hv0) (D_X11_total_0.at 7 rfl) (by decide) (fun c3 => ?_) (fun c3 => ?_)
  · replace T := T.1 c3
    refine J_iload_n 23 rfl 1 1 rfl (D_X11_total_0.at 16 rfl) ?_
    exact J_iret rfl (D_X11_total_0.at 17 rfl) T
  replace T := T.2 c3
  refine J_iload_n 11 rfl 1 1 rfl (D_X11_total_0.at 8 rfl) ?_
  refine J_aload_n 12 rfl 0 0 rfl (Ar.rng hv0) (D_X11_total_0.at 9 rfl) ?_
  refine J_iload_n 13 rfl 2 2 rfl (D_X11_total_0.at 10 rfl) ?_
  obtain ⟨s2, T⟩ := T
  refine J_iald 14 rfl hv0 (Ar.lt hv0) s2 (D_X11_total_0.at 11 rfl) ?_
  refine J_iadd 15 rfl (D_X11_total_0.at 12 rfl) ?_
  refine J_istore_n (lv' := [(1, vI (v1 + (h v0 v2))), (0, vR v0), (2, vI v2)]) 16 rfl 1 (by decide) rfl (D_X11_total_0.at 13 rfl) ?_
  refine J_iinc (v := (v2 + 1)) (lv' := [(2, vI (v2 + 1)), (1, vI (v1 + (h v0 v2))), (0, vR v0)]) 19 rfl 2 2 1 rfl rfl (by decide) rfl (D_X11_total_0.at 14 rfl) ?_
  refine J_goto 4 (D_X11_total_0.at 15 rfl) (by decide) ?_
  exact J_sub (lv' := [(0, vR v0), (1, vI (v1 + (h v0 v2))), (2, vI (v2 + 1))]) [2, 1, 0] rfl T
theorem c_X4_letterOf {w : Wd} {o a1 a2 : Int} (ho : Ob 4 o) {nA : Nat} (hA : Ar 0 nA (o + 1)) {h : Hp} {K : Int → Hp → Prop} (T : (inR a1) ∧ (((a1 < 0) → (K (-1) h)) ∧ (¬ (a1 < 0) → ((inR a1) ∧ ((inR (h o 1)) ∧ (((a1 ≥ (h o 1)) → (K (-1) h)) ∧ (¬ (a1 ≥ (h o 1)) → ((inR a1) ∧ (((a1 ≥ (Int.ofNat nA)) → (K (-1) h)) ∧ (¬ (a1 ≥ (Int.ofNat nA)) → ((inR a2) ∧ (((a2 < 0) → (K (-1) h)) ∧ (¬ (a2 < 0) → ((inR a2) ∧ (((a2 < 6) → ((0 ≤ a1 ∧ a1 < nA) ∧ ((inR (h (o + 1) a1)) ∧ ((0 ≤ (5 * (5 - a2)) ∧ (5 * (5 - a2)) < 32) ∧ (K (((h (o + 1) a1) / 2 ^ (Int.toNat (5 * (5 - a2)))) % 32) h))))) ∧ (¬ (a2 < 6) → (K (-1) h))))))))))))))))) : C_X4_letterOf w o a1 a2 h K := by
  refine CGm_of2 (by decide) (by decide) trivial (Nat.le_of_ble_eq_true rfl) ?_
  refine J_iload_n 1 rfl 1 1 rfl (D_X4_letterOf_0.at 0 rfl) ?_
  obtain ⟨s1, T⟩ := T
  refine J_if_lt 4 rfl 31 s1 (D_X4_letterOf_0.at 1 rfl) (by decide) (fun c14 => ?_) (fun c14 => ?_)
  · replace T := T.1 c14
    refine J_iconst 32 rfl (D_X4_letterOf_0.at 16 rfl) ?_
    exact J_iret rfl (D_X4_letterOf_0.at 17 rfl) T
  replace T := T.2 c14
  refine J_iload_n 5 rfl 1 1 rfl (D_X4_letterOf_0.at 2 rfl) ?_
  refine J_aload_n 6 rfl 0 0 rfl (Ob.rng ho) (D_X4_letterOf_0.at 3 rfl) ?_
  refine J_getI (z := (h o 1)) 9 rfl fl_4_21 rfl ho (Ob.lt ho) (D_X4_letterOf_0.at 4 rfl) rfl ?_
  obtain ⟨s2, T⟩ := T
  obtain ⟨s3, T⟩ := T
  refine J_icmp_ge 12 rfl 31 s2 s3 (D_X4_letterOf_0.at 5 rfl) (by decide) (fun c13 => ?_) (fun c13 => ?_)
  · replace T := T.1 c13
    refine J_iconst 32 rfl (D_X4_letterOf_0.at 16 rfl) ?_
    exact J_iret rfl (D_X4_letterOf_0.at 17 rfl) T
  replace T := T.2 c13
  refine J_iload_n 13 rfl 1 1 rfl (D_X4_letterOf_0.at 6 rfl) ?_
  refine J_aload_n 14 rfl 0 0 rfl (Ob.rng ho) (D_X4_letterOf_0.at 7 rfl) ?_
  refine J_getF (ov := (o + 1)) (dd := 1001) 17 rfl fl_4_15 rfl (by decide) rfl ho (Ob.lt ho) (D_X4_letterOf_0.at 8 rfl) ?_
  refine J_alenE (v := (Int.ofNat nA)) 18 rfl rfl (by decide) hA (Ar.lt hA) (D_X4_letterOf_0.at 9 rfl) ?_
  obtain ⟨s4, T⟩ := T
  refine J_icmp_ge 21 rfl 31 s4 (Ar.lrng hA) (D_X4_letterOf_0.at 10 rfl) (by decide) (fun c12 => ?_) (fun c12 => ?_)
  · replace T := T.1 c12
    refine J_iconst 32 rfl (D_X4_letterOf_0.at 16 rfl) ?_
    exact J_iret rfl (D_X4_letterOf_0.at 17 rfl) T
  replace T := T.2 c12
  refine J_iload_n 22 rfl 2 2 rfl (D_X4_letterOf_0.at 11 rfl) ?_
  obtain ⟨s5, T⟩ := T
  refine J_if_lt 25 rfl 31 s5 (D_X4_letterOf_0.at 12 rfl) (by decide) (fun c11 => ?_) (fun c11 => ?_)
  · replace T := T.1 c11
    refine J_iconst 32 rfl (D_X4_letterOf_0.at 16 rfl) ?_
    exact J_iret rfl (D_X4_letterOf_0.at 17 rfl) T
  replace T := T.2 c11
  refine J_iload_n 26 rfl 2 2 rfl (D_X4_letterOf_0.at 13 rfl) ?_
  refine J_bipush 28 rfl ⟨by decide, by decide⟩ (D_X4_letterOf_0.at 14 rfl) ?_
  obtain ⟨s6, T⟩ := T
  refine J_icmp_lt 31 rfl 33 s6 ⟨by decide, by decide⟩ (D_X4_letterOf_0.at 15 rfl) (by decide) (fun c10 => ?_) (fun c10 => ?_)
  · replace T := T.1 c10
    refine J_aload_n 34 rfl 0 0 rfl (Ob.rng ho) (D_X4_letterOf_0.at 18 rfl) ?_
    refine J_getF (ov := (o + 1)) (dd := 1001) 37 rfl fl_4_15 rfl (by decide) rfl ho (Ob.lt ho) (D_X4_letterOf_0.at 19 rfl) ?_
    refine J_iload_n 38 rfl 1 1 rfl (D_X4_letterOf_0.at 20 rfl) ?_
    obtain ⟨s7, T⟩ := T
    refine J_iald 39 rfl hA (Ar.lt hA) s7 (D_X4_letterOf_0.at 21 rfl) ?_
    refine J_iconst 40 rfl (D_X4_letterOf_0.at 22 rfl) ?_
    refine J_iconst 41 rfl (D_X4_letterOf_0.at 23 rfl) ?_
    refine J_iload_n 42 rfl 2 2 rfl (D_X4_letterOf_0.at 24 rfl) ?_
    refine J_isub 43 rfl (D_X4_letterOf_0.at 25 rfl) ?_
    refine J_imul 44 rfl (D_X4_letterOf_0.at 26 rfl) ?_
    obtain ⟨s8, T⟩ := T
    obtain ⟨s9, T⟩ := T
    refine J_ishrE (v := ((h (o + 1) a1) / 2 ^ (Int.toNat (5 * (5 - a2))))) 45 rfl s8 s9 rfl (D_X4_letterOf_0.at 27 rfl) ?_
    refine J_bipush 47 rfl ⟨by decide, by decide⟩ (D_X4_letterOf_0.at 28 rfl) ?_
    refine J_maskE (mm := 32) 48 rfl 5 (by decide) rfl rfl (D_X4_letterOf_0.at 29 rfl) ?_
    exact J_iret rfl (D_X4_letterOf_0.at 30 rfl) T
  replace T := T.2 c10
  refine J_iconst 32 rfl (D_X4_letterOf_0.at 16 rfl) ?_
  exact J_iret rfl (D_X4_letterOf_0.at 17 rfl) T
theorem c_X11_cell {w : Wd} {a1 a2 : Int} {h : Hp} {K : Int → Hp → Prop} (T : K ((a1 * 10) + a2) h) : C_X11_cell w a1 a2 h K := by
  refine CGm_of2 (by decide) (by decide) trivial (Nat.le_of_ble_eq_true rfl) ?_
  refine J_iload_n 1 rfl 0 0 rfl (D_X11_cell_0.at 0 rfl) ?_
  refine J_bipush 3 rfl ⟨by decide, by decide⟩ (D_X11_cell_0.at 1 rfl) ?_
  refine J_imul 4 rfl (D_X11_cell_0.at 2 rfl) ?_
  refine J_iload_n 5 rfl 1 1 rfl (D_X11_cell_0.at 3 rfl) ?_
  refine J_iadd 6 rfl (D_X11_cell_0.at 4 rfl) ?_
  exact J_iret rfl (D_X11_cell_0.at 5 rfl) T
theorem c_X7_hasOwner {w : Wd} {o a1 : Int} (ho : Ob 7 o) {h : Hp} {K : Int → Hp → Prop} (T : (inR a1) ∧ (((a1 < 0) → (K 0 h)) ∧ (¬ (a1 < 0) → ((inR a1) ∧ ((inR (h (o + 1) 1)) ∧ (((a1 ≥ (h (o + 1) 1)) → (K 0 h)) ∧ (¬ (a1 ≥ (h (o + 1) 1)) → (K 1 h)))))))) : C_X7_hasOwner w o a1 h K := by
  refine CGm_of2 (by decide) (by decide) trivial (Nat.le_of_ble_eq_true rfl) ?_
  refine J_iload_n 1 rfl 1 1 rfl (D_X7_hasOwner_0.at 0 rfl) ?_
  obtain ⟨s1, T⟩ := T
  refine J_if_lt 4 rfl 19 s1 (D_X7_hasOwner_0.at 1 rfl) (by decide) (fun c5 => ?_) (fun c5 => ?_)
  · replace T := T.1 c5
    refine J_iconst 20 rfl (D_X7_hasOwner_0.at 9 rfl) ?_
    exact J_zret rfl (Or.inl rfl) (D_X7_hasOwner_0.at 10 rfl) T
  replace T := T.2 c5
  refine J_iload_n 5 rfl 1 1 rfl (D_X7_hasOwner_0.at 2 rfl) ?_
  refine J_aload_n 6 rfl 0 0 rfl (Ob.rng ho) (D_X7_hasOwner_0.at 3 rfl) ?_
  refine J_getF (ov := (o + 1)) (dd := 1001) 9 rfl fl_7_14 rfl (by decide) rfl ho (Ob.lt ho) (D_X7_hasOwner_0.at 4 rfl) ?_
  refine J_getI (z := (h (o + 1) 1)) 12 rfl fl_7_58 rfl (of_7_0 ho) (Ob.lt (of_7_0 ho)) (D_X7_hasOwner_0.at 5 rfl) rfl ?_
  obtain ⟨s2, T⟩ := T
  obtain ⟨s3, T⟩ := T
  refine J_icmp_ge 15 rfl 19 s2 s3 (D_X7_hasOwner_0.at 6 rfl) (by decide) (fun c4 => ?_) (fun c4 => ?_)
  · replace T := T.1 c4
    refine J_iconst 20 rfl (D_X7_hasOwner_0.at 9 rfl) ?_
    exact J_zret rfl (Or.inl rfl) (D_X7_hasOwner_0.at 10 rfl) T
  replace T := T.2 c4
  refine J_iconst 16 rfl (D_X7_hasOwner_0.at 7 rfl) ?_
  refine J_goto 20 (D_X7_hasOwner_0.at 8 rfl) (by decide) ?_
  exact J_zret rfl (Or.inr rfl) (D_X7_hasOwner_0.at 10 rfl) T
theorem c_X11_thousandths {w : Wd} {a1 a2 : Int} {h : Hp} {K : Int → Hp → Prop} (T : (inR a2) ∧ (((a2 ≥ 1) → ((0 ≤ (1000 * a1) ∧ (1000 * a1) < 2147483648) ∧ ((0 < a2 ∧ a2 < 2147483648) ∧ (K ((1000 * a1) / a2) h)))) ∧ (¬ (a2 ≥ 1) → (K 0 h)))) : C_X11_thousandths w a1 a2 h K := by
  refine CGm_of2 (by decide) (by decide) trivial (Nat.le_of_ble_eq_true rfl) ?_
  refine J_iload_n 1 rfl 1 1 rfl (D_X11_thousandths_0.at 0 rfl) ?_
  refine J_iconst 2 rfl (D_X11_thousandths_0.at 1 rfl) ?_
  obtain ⟨s1, T⟩ := T
  refine J_icmp_ge 5 rfl 9 s1 ⟨by decide, by decide⟩ (D_X11_thousandths_0.at 2 rfl) (by decide) (fun c4 => ?_) (fun c4 => ?_)
  · replace T := T.1 c4
    refine J_sipush 12 rfl ⟨by decide, by decide⟩ (D_X11_thousandths_0.at 5 rfl) ?_
    refine J_iload_n 13 rfl 0 0 rfl (D_X11_thousandths_0.at 6 rfl) ?_
    refine J_imul 14 rfl (D_X11_thousandths_0.at 7 rfl) ?_
    refine J_iload_n 15 rfl 1 1 rfl (D_X11_thousandths_0.at 8 rfl) ?_
    obtain ⟨s2, T⟩ := T
    obtain ⟨s3, T⟩ := T
    refine J_idiv 16 rfl s2 s3 (D_X11_thousandths_0.at 9 rfl) ?_
    exact J_iret rfl (D_X11_thousandths_0.at 10 rfl) T
  replace T := T.2 c4
  refine J_iconst 6 rfl (D_X11_thousandths_0.at 3 rfl) ?_
  refine J_goto 16 (D_X11_thousandths_0.at 4 rfl) (by decide) ?_
  exact J_iret rfl (D_X11_thousandths_0.at 10 rfl) T
theorem c_X7_hasColour {w : Wd} {o a1 : Int} (ho : Ob 7 o) {h : Hp} {K : Int → Hp → Prop} (T : (inR a1) ∧ (((a1 < 0) → (K 0 h)) ∧ (¬ (a1 < 0) → ((inR a1) ∧ ((inR (h (o + 3) 1)) ∧ (((a1 ≥ (h (o + 3) 1)) → (K 0 h)) ∧ (¬ (a1 ≥ (h (o + 3) 1)) → (K 1 h)))))))) : C_X7_hasColour w o a1 h K := by
  refine CGm_of2 (by decide) (by decide) trivial (Nat.le_of_ble_eq_true rfl) ?_
  refine J_iload_n 1 rfl 1 1 rfl (D_X7_hasColour_0.at 0 rfl) ?_
  obtain ⟨s1, T⟩ := T
  refine J_if_lt 4 rfl 19 s1 (D_X7_hasColour_0.at 1 rfl) (by decide) (fun c5 => ?_) (fun c5 => ?_)
  · replace T := T.1 c5
    refine J_iconst 20 rfl (D_X7_hasColour_0.at 9 rfl) ?_
    exact J_zret rfl (Or.inl rfl) (D_X7_hasColour_0.at 10 rfl) T
  replace T := T.2 c5
  refine J_iload_n 5 rfl 1 1 rfl (D_X7_hasColour_0.at 2 rfl) ?_
  refine J_aload_n 6 rfl 0 0 rfl (Ob.rng ho) (D_X7_hasColour_0.at 3 rfl) ?_
  refine J_getF (ov := (o + 3)) (dd := 1003) 9 rfl fl_7_20 rfl (by decide) rfl ho (Ob.lt ho) (D_X7_hasColour_0.at 4 rfl) ?_
  refine J_getI (z := (h (o + 3) 1)) 12 rfl fl_7_58 rfl (of_7_1 ho) (Ob.lt (of_7_1 ho)) (D_X7_hasColour_0.at 5 rfl) rfl ?_
  obtain ⟨s2, T⟩ := T
  obtain ⟨s3, T⟩ := T
  refine J_icmp_ge 15 rfl 19 s2 s3 (D_X7_hasColour_0.at 6 rfl) (by decide) (fun c4 => ?_) (fun c4 => ?_)
  · replace T := T.1 c4
    refine J_iconst 20 rfl (D_X7_hasColour_0.at 9 rfl) ?_
    exact J_zret rfl (Or.inl rfl) (D_X7_hasColour_0.at 10 rfl) T
  replace T := T.2 c4
  refine J_iconst 16 rfl (D_X7_hasColour_0.at 7 rfl) ?_
  refine J_goto 20 (D_X7_hasColour_0.at 8 rfl) (by decide) ?_
  exact J_zret rfl (Or.inr rfl) (D_X7_hasColour_0.at 10 rfl) T
theorem c_X11_isLevel {w : Wd} {a1 : Int} {h : Hp} {K : Int → Hp → Prop} (T : (inR a1) ∧ (((a1 < 0) → (K 0 h)) ∧ (¬ (a1 < 0) → ((inR a1) ∧ (((a1 ≥ 10) → (K 0 h)) ∧ (¬ (a1 ≥ 10) → (K 1 h))))))) : C_X11_isLevel w a1 h K := by
  refine CGm_of2 (by decide) (by decide) trivial (Nat.le_of_ble_eq_true rfl) ?_
  refine J_iload_n 1 rfl 0 0 rfl (D_X11_isLevel_0.at 0 rfl) ?_
  obtain ⟨s1, T⟩ := T
  refine J_if_lt 4 rfl 14 s1 (D_X11_isLevel_0.at 1 rfl) (by decide) (fun c4 => ?_) (fun c4 => ?_)
  · replace T := T.1 c4
    refine J_iconst 15 rfl (D_X11_isLevel_0.at 7 rfl) ?_
    exact J_zret rfl (Or.inl rfl) (D_X11_isLevel_0.at 8 rfl) T
  replace T := T.2 c4
  refine J_iload_n 5 rfl 0 0 rfl (D_X11_isLevel_0.at 2 rfl) ?_
  refine J_bipush 7 rfl ⟨by decide, by decide⟩ (D_X11_isLevel_0.at 3 rfl) ?_
  obtain ⟨s2, T⟩ := T
  refine J_icmp_ge 10 rfl 14 s2 ⟨by decide, by decide⟩ (D_X11_isLevel_0.at 4 rfl) (by decide) (fun c3 => ?_) (fun c3 => ?_)
  · replace T := T.1 c3
    refine J_iconst 15 rfl (D_X11_isLevel_0.at 7 rfl) ?_
    exact J_zret rfl (Or.inl rfl) (D_X11_isLevel_0.at 8 rfl) T
  replace T := T.2 c3
  refine J_iconst 11 rfl (D_X11_isLevel_0.at 5 rfl) ?_
  refine J_goto 15 (D_X11_isLevel_0.at 6 rfl) (by decide) ?_
  exact J_zret rfl (Or.inr rfl) (D_X11_isLevel_0.at 8 rfl) T
theorem c_X0_aim {w : Wd} {a1 a2 a3 : Int} (ha1 : Ob 7 a1) (ha2 : Ob 9 a2) {h : Hp} {K : Int → Hp → Prop} (T : ∀ h1 : Hp, h1 = hu h 61 5 a1 → ∀ h3 : Hp, h3 = hu h1 61 6 a2 → ∀ h5 : Hp, h5 = hu h3 61 7 a3 → ∀ h7 : Hp, h7 = hcpy h5 (a2 + 1) 0 62 0 8 → K 0 h7) : C_X0_aim w a1 a2 a3 h K := by
  refine CGm_of2 (by decide) (by decide) trivial (Nat.le_of_ble_eq_true rfl) ?_
  refine J_aload_n 1 rfl 0 0 rfl ⟨by decide, by decide⟩ (D_X0_aim_0.at 0 rfl) ?_
  refine J_aload_n 2 rfl 1 1 rfl (Ob.rng ha1) (D_X0_aim_0.at 1 rfl) ?_
  refine J_putR 5 rfl fl_0_28 rfl rfl (Ob.rng ha1) ob_61 (Ob.lt ob_61) (D_X0_aim_0.at 2 rfl) (fun h1 e2 => ?_)
  replace T := T h1 e2
  refine J_aload_n 6 rfl 0 0 rfl ⟨by decide, by decide⟩ (D_X0_aim_0.at 3 rfl) ?_
  refine J_aload_n 7 rfl 2 2 rfl (Ob.rng ha2) (D_X0_aim_0.at 4 rfl) ?_
  refine J_putR 10 rfl fl_0_32 rfl rfl (Ob.rng ha2) ob_61 (Ob.lt ob_61) (D_X0_aim_0.at 5 rfl) (fun h3 e4 => ?_)
  replace T := T h3 e4
  refine J_aload_n 11 rfl 0 0 rfl ⟨by decide, by decide⟩ (D_X0_aim_0.at 6 rfl) ?_
  refine J_iload_n 12 rfl 3 3 rfl (D_X0_aim_0.at 7 rfl) ?_
  refine J_putI 15 rfl fl_0_36 rfl rfl ob_61 (Ob.lt ob_61) (D_X0_aim_0.at 8 rfl) (fun h5 e6 => ?_)
  replace T := T h5 e6
  refine J_aload_n 16 rfl 2 2 rfl (Ob.rng ha2) (D_X0_aim_0.at 9 rfl) ?_
  refine J_getF (ov := (a2 + 1)) (dd := 1001) 19 rfl fl_0_40 rfl (by decide) rfl ha2 (Ob.lt ha2) (D_X0_aim_0.at 10 rfl) ?_
  refine J_iconst 20 rfl (D_X0_aim_0.at 11 rfl) ?_
  refine J_aload_n 21 rfl 0 0 rfl ⟨by decide, by decide⟩ (D_X0_aim_0.at 12 rfl) ?_
  refine J_getF (ov := 62) (dd := 1001) 24 rfl fl_0_9 rfl (by decide) rfl ob_61 (Ob.lt ob_61) (D_X0_aim_0.at 13 rfl) ?_
  refine J_iconst 25 rfl (D_X0_aim_0.at 14 rfl) ?_
  refine J_bipush 27 rfl ⟨by decide, by decide⟩ (D_X0_aim_0.at 15 rfl) ?_
  refine J_copyH 30 rfl ml_0_43 (of_9_0 ha2) ar_62 ⟨by decide, by decide, by decide, by decide, by decide⟩ rfl (by decide) (D_X0_aim_0.at 16 rfl) (fun h7 e8 => ?_)
  replace T := T h7 e8
  exact J_vret rfl (D_X0_aim_0.at 17 rfl) T
theorem c_X0_flowIn {w : Wd} {a1 : Int} {h : Hp} {K : Int → Hp → Prop} (T : (Ob 7 (h 61 5)) ∧ ((0 ≤ a1 ∧ a1 < 8) ∧ ((0 ≤ a1 ∧ a1 < 8) ∧ ((inR (((h 61 7) + (h ((h 61 5) + 7) a1)) - (3 * (h 62 a1)))) ∧ (K (max 0 (((h 61 7) + (h ((h 61 5) + 7) a1)) - (3 * (h 62 a1)))) h))))) : C_X0_flowIn w a1 h K := by
  refine CGm_of2 (by decide) (by decide) trivial (Nat.le_of_ble_eq_true rfl) ?_
  refine J_iconst 1 rfl (D_X0_flowIn_0.at 0 rfl) ?_
  refine J_aload_n 2 rfl 0 0 rfl ⟨by decide, by decide⟩ (D_X0_flowIn_0.at 1 rfl) ?_
  refine J_getI (z := (h 61 7)) 5 rfl fl_0_36 rfl ob_61 (Ob.lt ob_61) (D_X0_flowIn_0.at 2 rfl) rfl ?_
  refine J_aload_n 6 rfl 0 0 rfl ⟨by decide, by decide⟩ (D_X0_flowIn_0.at 3 rfl) ?_
  obtain ⟨s1, T⟩ := T
  refine J_getR (z := (h 61 5)) 9 rfl fl_0_28 rfl ob_61 (Ob.lt ob_61) (D_X0_flowIn_0.at 4 rfl) rfl ?_
  refine J_getF (ov := ((h 61 5) + 7)) (dd := 1007) 12 rfl fl_0_80 rfl (by decide) rfl s1 (Ob.lt s1) (D_X0_flowIn_0.at 5 rfl) ?_
  refine J_iload_n 13 rfl 1 1 rfl (D_X0_flowIn_0.at 6 rfl) ?_
  obtain ⟨s2, T⟩ := T
  refine J_iald 14 rfl (of_7_3 s1) (Ar.lt (of_7_3 s1)) s2 (D_X0_flowIn_0.at 7 rfl) ?_
  refine J_iadd 15 rfl (D_X0_flowIn_0.at 8 rfl) ?_
  refine J_iconst 16 rfl (D_X0_flowIn_0.at 9 rfl) ?_
  refine J_aload_n 17 rfl 0 0 rfl ⟨by decide, by decide⟩ (D_X0_flowIn_0.at 10 rfl) ?_
  refine J_getF (ov := 62) (dd := 1001) 20 rfl fl_0_9 rfl (by decide) rfl ob_61 (Ob.lt ob_61) (D_X0_flowIn_0.at 11 rfl) ?_
  refine J_iload_n 21 rfl 1 1 rfl (D_X0_flowIn_0.at 12 rfl) ?_
  obtain ⟨s3, T⟩ := T
  refine J_iald 22 rfl ar_62 (Ar.lt ar_62) s3 (D_X0_flowIn_0.at 13 rfl) ?_
  refine J_imul 23 rfl (D_X0_flowIn_0.at 14 rfl) ?_
  refine J_isub 24 rfl (D_X0_flowIn_0.at 15 rfl) ?_
  obtain ⟨s4, T⟩ := T
  refine J_maxE 27 rfl ml_0_49 ⟨by decide, by decide⟩ s4 (Nat.le_of_ble_eq_true rfl) (by decide) (D_X0_flowIn_0.at 16 rfl) ?_
  exact J_iret rfl (D_X0_flowIn_0.at 17 rfl) T
theorem c_X6_push {w : Wd} {a1 : Int} {h : Hp} {K : Int → Hp → Prop} (T : (inR (h 52 4)) ∧ ((((h 52 4) ≥ 64) → (K 0 h)) ∧ (¬ ((h 52 4) ≥ 64) → ((0 ≤ (h 52 4) ∧ (h 52 4) < 64) ∧ (∀ h3 : Hp, h3 = hu h 53 (h 52 4) a1 → ∀ h5 : Hp, h5 = hu h3 52 4 ((h3 52 4) + 1) → K 0 h5))))) : C_X6_push w a1 h K := by
  refine CGm_of2 (by decide) (by decide) trivial (Nat.le_of_ble_eq_true rfl) ?_
  refine J_aload_n 1 rfl 0 0 rfl ⟨by decide, by decide⟩ (D_X6_push_0.at 0 rfl) ?_
  refine J_getI (z := (h 52 4)) 4 rfl fl_6_24 rfl ob_52 (Ob.lt ob_52) (D_X6_push_0.at 1 rfl) rfl ?_
  refine J_aload_n 5 rfl 0 0 rfl ⟨by decide, by decide⟩ (D_X6_push_0.at 2 rfl) ?_
  refine J_getF (ov := 53) (dd := 1001) 8 rfl fl_6_9 rfl (by decide) rfl ob_52 (Ob.lt ob_52) (D_X6_push_0.at 3 rfl) ?_
  refine J_alenE (v := 64) 9 rfl rfl (by decide) ar_53 (Ar.lt ar_53) (D_X6_push_0.at 4 rfl) ?_
  obtain ⟨s1, T⟩ := T
  refine J_icmp_ge 12 rfl 32 s1 ⟨by decide, by decide⟩ (D_X6_push_0.at 5 rfl) (by decide) (fun c7 => ?_) (fun c7 => ?_)
  · replace T := T.1 c7
    exact J_vret rfl (D_X6_push_0.at 18 rfl) T
  replace T := T.2 c7
  refine J_aload_n 13 rfl 0 0 rfl ⟨by decide, by decide⟩ (D_X6_push_0.at 6 rfl) ?_
  refine J_getF (ov := 53) (dd := 1001) 16 rfl fl_6_9 rfl (by decide) rfl ob_52 (Ob.lt ob_52) (D_X6_push_0.at 7 rfl) ?_
  refine J_aload_n 17 rfl 0 0 rfl ⟨by decide, by decide⟩ (D_X6_push_0.at 8 rfl) ?_
  refine J_getI (z := (h 52 4)) 20 rfl fl_6_24 rfl ob_52 (Ob.lt ob_52) (D_X6_push_0.at 9 rfl) rfl ?_
  refine J_iload_n 21 rfl 1 1 rfl (D_X6_push_0.at 10 rfl) ?_
  obtain ⟨s2, T⟩ := T
  refine J_iastH 22 rfl ar_53 (Ar.lt ar_53) s2 trivial (D_X6_push_0.at 11 rfl) (fun h3 e4 => ?_)
  replace T := T h3 e4
  refine J_aload_n 23 rfl 0 0 rfl ⟨by decide, by decide⟩ (D_X6_push_0.at 12 rfl) ?_
  refine J_dup 24 rfl rfl (D_X6_push_0.at 13 rfl) ?_
  refine J_getI (z := (h3 52 4)) 27 rfl fl_6_24 rfl ob_52 (Ob.lt ob_52) (D_X6_push_0.at 14 rfl) rfl ?_
  refine J_iconst 28 rfl (D_X6_push_0.at 15 rfl) ?_
  refine J_iadd 29 rfl (D_X6_push_0.at 16 rfl) ?_
  refine J_putI 32 rfl fl_6_24 rfl rfl ob_52 (Ob.lt ob_52) (D_X6_push_0.at 17 rfl) (fun h5 e6 => ?_)
  replace T := T h5 e6
  exact J_vret rfl (D_X6_push_0.at 18 rfl) T
theorem c_X6_entry {w : Wd} {a1 a2 : Int} {na1 : Nat} (ha1 : Ar 0 na1 a1) {h : Hp} {K : Int → Hp → Prop} (T : (inR a2) ∧ (((a2 < 0) → (K 0 h)) ∧ (¬ (a2 < 0) → ((inR a2) ∧ (((a2 < (Int.ofNat na1)) → ((0 ≤ a2 ∧ a2 < na1) ∧ (K (h a1 a2) h))) ∧ (¬ (a2 < (Int.ofNat na1)) → (K 0 h))))))) : C_X6_entry w a1 a2 h K := by
  refine CGm_of2 (by decide) (by decide) trivial (Nat.le_of_ble_eq_true rfl) ?_
  refine J_iload_n 1 rfl 1 1 rfl (D_X6_entry_0.at 0 rfl) ?_
  obtain ⟨s1, T⟩ := T
  refine J_if_lt 4 rfl 10 s1 (D_X6_entry_0.at 1 rfl) (by decide) (fun c5 => ?_) (fun c5 => ?_)
  · replace T := T.1 c5
    refine J_iconst 11 rfl (D_X6_entry_0.at 6 rfl) ?_
    refine J_goto 17 (D_X6_entry_0.at 7 rfl) (by decide) ?_
    exact J_iret rfl (D_X6_entry_0.at 11 rfl) T
  replace T := T.2 c5
  refine J_iload_n 5 rfl 1 1 rfl (D_X6_entry_0.at 2 rfl) ?_
  refine J_aload_n 6 rfl 0 0 rfl (Ar.rng ha1) (D_X6_entry_0.at 3 rfl) ?_
  refine J_alenE (v := (Int.ofNat na1)) 7 rfl rfl (by decide) ha1 (Ar.lt ha1) (D_X6_entry_0.at 4 rfl) ?_
  obtain ⟨s2, T⟩ := T
  refine J_icmp_lt 10 rfl 14 s2 (Ar.lrng ha1) (D_X6_entry_0.at 5 rfl) (by decide) (fun c4 => ?_) (fun c4 => ?_)
  · replace T := T.1 c4
    refine J_aload_n 15 rfl 0 0 rfl (Ar.rng ha1) (D_X6_entry_0.at 8 rfl) ?_
    refine J_iload_n 16 rfl 1 1 rfl (D_X6_entry_0.at 9 rfl) ?_
    obtain ⟨s3, T⟩ := T
    refine J_iald 17 rfl ha1 (Ar.lt ha1) s3 (D_X6_entry_0.at 10 rfl) ?_
    exact J_iret rfl (D_X6_entry_0.at 11 rfl) T
  replace T := T.2 c4
  refine J_iconst 11 rfl (D_X6_entry_0.at 6 rfl) ?_
  refine J_goto 17 (D_X6_entry_0.at 7 rfl) (by decide) ?_
  exact J_iret rfl (D_X6_entry_0.at 11 rfl) T
theorem c_X6_pop {w : Wd} {h : Hp} {K : Int → Hp → Prop} (T : (inR (h 52 4)) ∧ ((((h 52 4) ≥ 1) → (∀ h2 : Hp, h2 = hu h 52 4 ((h 52 4) - 1) → (0 ≤ (h2 52 4) ∧ (h2 52 4) < 64) ∧ (K (h2 53 (h2 52 4)) h2))) ∧ (¬ ((h 52 4) ≥ 1) → (K 0 h)))) : C_X6_pop w h K := by
  refine CGm_of2 (by decide) (by decide) trivial (Nat.le_of_ble_eq_true rfl) ?_
  refine J_aload_n 1 rfl 0 0 rfl ⟨by decide, by decide⟩ (D_X6_pop_0.at 0 rfl) ?_
  refine J_getI (z := (h 52 4)) 4 rfl fl_6_24 rfl ob_52 (Ob.lt ob_52) (D_X6_pop_0.at 1 rfl) rfl ?_
  refine J_iconst 5 rfl (D_X6_pop_0.at 2 rfl) ?_
  obtain ⟨s1, T⟩ := T
  refine J_icmp_ge 8 rfl 10 s1 ⟨by decide, by decide⟩ (D_X6_pop_0.at 3 rfl) (by decide) (fun c5 => ?_) (fun c5 => ?_)
  · replace T := T.1 c5
    refine J_aload_n 11 rfl 0 0 rfl ⟨by decide, by decide⟩ (D_X6_pop_0.at 6 rfl) ?_
    refine J_dup 12 rfl rfl (D_X6_pop_0.at 7 rfl) ?_
    refine J_getI (z := (h 52 4)) 15 rfl fl_6_24 rfl ob_52 (Ob.lt ob_52) (D_X6_pop_0.at 8 rfl) rfl ?_
    refine J_iconst 16 rfl (D_X6_pop_0.at 9 rfl) ?_
    refine J_isub 17 rfl (D_X6_pop_0.at 10 rfl) ?_
    refine J_putI 20 rfl fl_6_24 rfl rfl ob_52 (Ob.lt ob_52) (D_X6_pop_0.at 11 rfl) (fun h2 e3 => ?_)
    replace T := T h2 e3
    refine J_aload_n 21 rfl 0 0 rfl ⟨by decide, by decide⟩ (D_X6_pop_0.at 12 rfl) ?_
    refine J_getF (ov := 53) (dd := 1001) 24 rfl fl_6_9 rfl (by decide) rfl ob_52 (Ob.lt ob_52) (D_X6_pop_0.at 13 rfl) ?_
    refine J_aload_n 25 rfl 0 0 rfl ⟨by decide, by decide⟩ (D_X6_pop_0.at 14 rfl) ?_
    refine J_getI (z := (h2 52 4)) 28 rfl fl_6_24 rfl ob_52 (Ob.lt ob_52) (D_X6_pop_0.at 15 rfl) rfl ?_
    obtain ⟨s4, T⟩ := T
    refine J_iald 29 rfl ar_53 (Ar.lt ar_53) s4 (D_X6_pop_0.at 16 rfl) ?_
    exact J_iret rfl (D_X6_pop_0.at 17 rfl) T
  replace T := T.2 c5
  refine J_iconst 9 rfl (D_X6_pop_0.at 4 rfl) ?_
  exact J_iret rfl (D_X6_pop_0.at 5 rfl) T
theorem c_X11_within {w : Wd} {a1 a2 a3 : Int} {h : Hp} {K : Int → Hp → Prop} (T : (inR a2) ∧ ((inL a1) ∧ ((inL a2) ∧ (((a1 ≥ a2) → ((inR a3) ∧ ((inL a1) ∧ ((inL a3) ∧ (((a1 ≤ a3) → (K a1 h)) ∧ (¬ (a1 ≤ a3) → (K a3 h))))))) ∧ (¬ (a1 ≥ a2) → (K a2 h)))))) : C_X11_within w a1 a2 a3 h K := by
  refine CGm_of2 (by decide) (by decide) trivial (Nat.le_of_ble_eq_true rfl) ?_
  refine J_lload_n 1 rfl 0 0 rfl (D_X11_within_0.at 0 rfl) ?_
  refine J_iload_n 2 rfl 2 1 rfl (D_X11_within_0.at 1 rfl) ?_
  obtain ⟨s1, T⟩ := T
  refine J_i2l 3 rfl s1 (D_X11_within_0.at 2 rfl) ?_
  obtain ⟨s2, T⟩ := T
  obtain ⟨s3, T⟩ := T
  refine J_lcmp_ge 7 rfl 11 s2 s3 (D_X11_within_0.at 3 rfl) (D_X11_within_0.at 4 rfl) (by decide) (fun c8 => ?_) (fun c8 => ?_)
  · replace T := T.1 c8
    refine J_lload_n 12 rfl 0 0 rfl (D_X11_within_0.at 7 rfl) ?_
    refine J_iload_n 13 rfl 3 2 rfl (D_X11_within_0.at 8 rfl) ?_
    obtain ⟨s4, T⟩ := T
    refine J_i2l 14 rfl s4 (D_X11_within_0.at 9 rfl) ?_
    obtain ⟨s5, T⟩ := T
    obtain ⟨s6, T⟩ := T
    refine J_lcmp_le 18 rfl 22 s5 s6 (D_X11_within_0.at 10 rfl) (D_X11_within_0.at 11 rfl) (by decide) (fun c7 => ?_) (fun c7 => ?_)
    · replace T := T.1 c7
      refine J_lload_n 23 rfl 0 0 rfl (D_X11_within_0.at 14 rfl) ?_
      refine J_l2i 24 rfl (D_X11_within_0.at 15 rfl) ?_
      exact J_iret rfl (D_X11_within_0.at 16 rfl) T
    replace T := T.2 c7
    refine J_iload_n 19 rfl 3 2 rfl (D_X11_within_0.at 12 rfl) ?_
    refine J_goto 24 (D_X11_within_0.at 13 rfl) (by decide) ?_
    exact J_iret rfl (D_X11_within_0.at 16 rfl) T
  replace T := T.2 c8
  refine J_iload_n 8 rfl 2 1 rfl (D_X11_within_0.at 5 rfl) ?_
  refine J_goto 24 (D_X11_within_0.at 6 rfl) (by decide) ?_
  exact J_iret rfl (D_X11_within_0.at 16 rfl) T
theorem c_X0_taken {w : Wd} {h : Hp} {K : Int → Hp → Prop} (T : L_X0_taken_4 w 0 0 h K) : C_X0_taken w h K := by
  refine CGm_of2 (by decide) (by decide) trivial (Nat.le_of_ble_eq_true rfl) ?_
  refine J_iconst 1 rfl (D_X0_taken_0.at 0 rfl) ?_
  refine J_istore_n (lv' := [(1, vI 0), (0, vR 61)]) 2 rfl 1 (by decide) rfl (D_X0_taken_0.at 1 rfl) ?_
  refine J_iconst 3 rfl (D_X0_taken_0.at 2 rfl) ?_
  refine J_istore_n (lv' := [(2, vI 0), (1, vI 0), (0, vR 61)]) 4 rfl 2 (by decide) rfl (D_X0_taken_0.at 3 rfl) ?_
  exact J_sub (lv' := [(0, vR 61), (1, vI 0), (2, vI 0)]) [2, 1, 0] rfl T
theorem l_X0_taken_4 {w : Wd} {v1 v2 : Int} {h : Hp} {K : Int → Hp → Prop} (T : (Ob 7 (h 61 5)) ∧ ((inR v2) ∧ ((inR (h ((h 61 5) + 5) 1)) ∧ (((v2 ≥ (h ((h 61 5) + 5) 1)) → (K v1 h)) ∧ (¬ (v2 ≥ (h ((h 61 5) + 5) 1)) → ((0 ≤ v2 ∧ v2 < 10) ∧ (L_X0_taken_4 w (v1 + (h 63 v2)) (v2 + 1) h K))))))) : L_X0_taken_4 w v1 v2 h K := by
  unfold L_X0_taken_4
  refine J_iload_n 5 rfl 2 2 rfl (D_X0_taken_0.at 4 rfl) ?_
  refine J_aload_n 6 rfl 0 0 rfl ⟨by decide, by decide⟩ (D_X0_taken_0.at 5 rfl) ?_
  obtain ⟨s1, T⟩ := T
  refine J_getR (z := (h 61 5)) 9 rfl fl_0_28 rfl ob_61 (Ob.lt ob_61) (D_X0_taken_0.at 6 rfl) rfl ?_
  refine J_getF (ov := ((h 61 5) + 5)) (dd := 1005) 12 rfl fl_0_55 rfl (by decide) rfl s1 (Ob.lt s1) (D_X0_taken_0.at 7 rfl) ?_
  refine J_getI (z := (h ((h 61 5) + 5) 1)) 15 rfl fl_0_61 rfl (of_7_2 s1) (Ob.lt (of_7_2 s1)) (D_X0_taken_0.at 8 rfl) rfl ?_
  obtain ⟨s2, T⟩ := T
  obtain ⟨s3, T⟩ := T
  refine J_icmp_ge 18 rfl 33 s2 s3 (D_X0_taken_0.at 9 rfl) (by decide) (fun c5 => ?_) (fun c5 => ?_)
  · replace T := T.1 c5
    refine J_iload_n 34 rfl 1 1 rfl (D_X0_taken_0.at 19 rfl) ?_
    exact J_iret rfl (D_X0_taken_0.at 20 rfl) T
  replace T := T.2 c5
  refine J_iload_n 19 rfl 1 1 rfl (D_X0_taken_0.at 10 rfl) ?_
  refine J_aload_n 20 rfl 0 0 rfl ⟨by decide, by decide⟩ (D_X0_taken_0.at 11 rfl) ?_
  refine J_getF (ov := 63) (dd := 1002) 23 rfl fl_0_15 rfl (by decide) rfl ob_61 (Ob.lt ob_61) (D_X0_taken_0.at 12 rfl) ?_
  refine J_iload_n 24 rfl 2 2 rfl (D_X0_taken_0.at 13 rfl) ?_
  obtain ⟨s4, T⟩ := T
  refine J_iald 25 rfl ar_63 (Ar.lt ar_63) s4 (D_X0_taken_0.at 14 rfl) ?_
  refine J_iadd 26 rfl (D_X0_taken_0.at 15 rfl) ?_
  refine J_istore_n (lv' := [(1, vI (v1 + (h 63 v2))), (0, vR 61), (2, vI v2)]) 27 rfl 1 (by decide) rfl (D_X0_taken_0.at 16 rfl) ?_
  refine J_iinc (v := (v2 + 1)) (lv' := [(2, vI (v2 + 1)), (1, vI (v1 + (h 63 v2))), (0, vR 61)]) 30 rfl 2 2 1 rfl rfl (by decide) rfl (D_X0_taken_0.at 17 rfl) ?_
  refine J_goto 4 (D_X0_taken_0.at 18 rfl) (by decide) ?_
  exact J_sub (lv' := [(0, vR 61), (1, vI (v1 + (h 63 v2))), (2, vI (v2 + 1))]) [2, 1, 0] rfl T
theorem c_X5_store {w : Wd} {a1 : Int} (ha1 : Ob 9 a1) {h : Hp} {K : Int → Hp → Prop} (T : (0 ≤ ((h 50 1) * 109) ∧ ((h 50 1) * 109) < 2180) ∧ (∀ h2 : Hp, h2 = hu h 51 ((h 50 1) * 109) (h a1 4) → ((0 : Int) ≤ 0 ∧ (0 : Int) ≤ (((h 50 1) * 109) + 1) ∧ (0 : Int) ≤ 8 ∧ (0 : Int) + 8 ≤ 8 ∧ ((((h 50 1) * 109) + 1) : Int) + 8 ≤ 2180) ∧ (∀ h5 : Hp, h5 = hcpy h2 (a1 + 1) 0 51 (((h 50 1) * 109) + 1) 8 → ((0 : Int) ≤ 0 ∧ (0 : Int) ≤ ((((h 50 1) * 109) + 1) + 8) ∧ (0 : Int) ≤ 80 ∧ (0 : Int) + 80 ≤ 80 ∧ (((((h 50 1) * 109) + 1) + 8) : Int) + 80 ≤ 2180) ∧ (∀ h8 : Hp, h8 = hcpy h5 (a1 + 2) 0 51 ((((h 50 1) * 109) + 1) + 8) 80 → ((0 : Int) ≤ 0 ∧ (0 : Int) ≤ ((((h 50 1) * 109) + 109) - 20) ∧ (0 : Int) ≤ 10 ∧ (0 : Int) + 10 ≤ 10 ∧ (((((h 50 1) * 109) + 109) - 20) : Int) + 10 ≤ 2180) ∧ (∀ h11 : Hp, h11 = hcpy h8 (a1 + 3) 0 51 ((((h 50 1) * 109) + 109) - 20) 10 → ((0 : Int) ≤ 0 ∧ (0 : Int) ≤ ((((h 50 1) * 109) + 109) - 10) ∧ (0 : Int) ≤ 10 ∧ (0 : Int) + 10 ≤ 10 ∧ (((((h 50 1) * 109) + 109) - 10) : Int) + 10 ≤ 2180) ∧ (∀ h14 : Hp, h14 = hcpy h11 (a1 + 4) 0 51 ((((h 50 1) * 109) + 109) - 10) 10 → (0 ≤ ((h14 50 1) + 1) ∧ ((h14 50 1) + 1) < 2147483648) ∧ (∀ h17 : Hp, h17 = hu h14 50 1 (((h14 50 1) + 1) % 20) → (inR ((h17 50 2) + 1)) ∧ (∀ h20 : Hp, h20 = hu h17 50 2 (min 20 ((h17 50 2) + 1)) → K 0 h20)))))))) : C_X5_store w a1 h K := by
  refine CGm_of2 (by decide) (by decide) trivial (Nat.le_of_ble_eq_true rfl) ?_
  refine J_aload_n 1 rfl 0 0 rfl ⟨by decide, by decide⟩ (D_X5_store_0.at 0 rfl) ?_
  refine J_getI (z := (h 50 1)) 4 rfl fl_5_19 rfl ob_50 (Ob.lt ob_50) (D_X5_store_0.at 1 rfl) rfl ?_
  refine J_bipush 6 rfl ⟨by decide, by decide⟩ (D_X5_store_0.at 2 rfl) ?_
  refine J_imul 7 rfl (D_X5_store_0.at 3 rfl) ?_
  refine J_istore_n (lv' := [(2, vI ((h 50 1) * 109)), (0, vR 50), (1, vR a1)]) 8 rfl 2 (by decide) rfl (D_X5_store_0.at 4 rfl) ?_
  refine J_aload_n 9 rfl 0 1 rfl ⟨by decide, by decide⟩ (D_X5_store_0.at 5 rfl) ?_
  refine J_getF (ov := 51) (dd := 1001) 12 rfl fl_5_11 rfl (by decide) rfl ob_50 (Ob.lt ob_50) (D_X5_store_0.at 6 rfl) ?_
  refine J_iload_n 13 rfl 2 0 rfl (D_X5_store_0.at 7 rfl) ?_
  refine J_aload_n 14 rfl 1 2 rfl (Ob.rng ha1) (D_X5_store_0.at 8 rfl) ?_
  refine J_getI (z := (h a1 4)) 17 rfl fl_5_22 rfl ha1 (Ob.lt ha1) (D_X5_store_0.at 9 rfl) rfl ?_
  obtain ⟨s1, T⟩ := T
  refine J_iastH 18 rfl ar_51 (Ar.lt ar_51) s1 trivial (D_X5_store_0.at 10 rfl) (fun h2 e3 => ?_)
  replace T := T h2 e3
  refine J_aload_n 19 rfl 1 2 rfl (Ob.rng ha1) (D_X5_store_0.at 11 rfl) ?_
  refine J_getF (ov := (a1 + 1)) (dd := 1001) 22 rfl fl_5_27 rfl (by decide) rfl ha1 (Ob.lt ha1) (D_X5_store_0.at 12 rfl) ?_
  refine J_iconst 23 rfl (D_X5_store_0.at 13 rfl) ?_
  refine J_aload_n 24 rfl 0 1 rfl ⟨by decide, by decide⟩ (D_X5_store_0.at 14 rfl) ?_
  refine J_getF (ov := 51) (dd := 1001) 27 rfl fl_5_11 rfl (by decide) rfl ob_50 (Ob.lt ob_50) (D_X5_store_0.at 15 rfl) ?_
  refine J_iload_n 28 rfl 2 0 rfl (D_X5_store_0.at 16 rfl) ?_
  refine J_iconst 29 rfl (D_X5_store_0.at 17 rfl) ?_
  refine J_iadd 30 rfl (D_X5_store_0.at 18 rfl) ?_
  refine J_bipush 32 rfl ⟨by decide, by decide⟩ (D_X5_store_0.at 19 rfl) ?_
  obtain ⟨s4, T⟩ := T
  refine J_copyH 35 rfl ml_5_30 (of_9_0 ha1) ar_51 s4 rfl (by decide) (D_X5_store_0.at 20 rfl) (fun h5 e6 => ?_)
  replace T := T h5 e6
  refine J_aload_n 36 rfl 1 2 rfl (Ob.rng ha1) (D_X5_store_0.at 21 rfl) ?_
  refine J_getF (ov := (a1 + 2)) (dd := 1002) 39 rfl fl_5_36 rfl (by decide) rfl ha1 (Ob.lt ha1) (D_X5_store_0.at 22 rfl) ?_
  refine J_iconst 40 rfl (D_X5_store_0.at 23 rfl) ?_
  refine J_aload_n 41 rfl 0 1 rfl ⟨by decide, by decide⟩ (D_X5_store_0.at 24 rfl) ?_
  refine J_getF (ov := 51) (dd := 1001) 44 rfl fl_5_11 rfl (by decide) rfl ob_50 (Ob.lt ob_50) (D_X5_store_0.at 25 rfl) ?_
  refine J_iload_n 45 rfl 2 0 rfl (D_X5_store_0.at 26 rfl) ?_
  refine J_iconst 46 rfl (D_X5_store_0.at 27 rfl) ?_
  refine J_iadd 47 rfl (D_X5_store_0.at 28 rfl) ?_
  refine J_bipush 49 rfl ⟨by decide, by decide⟩ (D_X5_store_0.at 29 rfl) ?_
  refine J_iadd 50 rfl (D_X5_store_0.at 30 rfl) ?_
  refine J_bipush 52 rfl ⟨by decide, by decide⟩ (D_X5_store_0.at 31 rfl) ?_
  obtain ⟨s7, T⟩ := T
  refine J_copyH 55 rfl ml_5_30 (of_9_1 ha1) ar_51 s7 rfl (by decide) (D_X5_store_0.at 32 rfl) (fun h8 e9 => ?_)
  replace T := T h8 e9
  refine J_aload_n 56 rfl 1 2 rfl (Ob.rng ha1) (D_X5_store_0.at 33 rfl) ?_
  refine J_getF (ov := (a1 + 3)) (dd := 1003) 59 rfl fl_5_39 rfl (by decide) rfl ha1 (Ob.lt ha1) (D_X5_store_0.at 34 rfl) ?_
  refine J_iconst 60 rfl (D_X5_store_0.at 35 rfl) ?_
  refine J_aload_n 61 rfl 0 1 rfl ⟨by decide, by decide⟩ (D_X5_store_0.at 36 rfl) ?_
  refine J_getF (ov := 51) (dd := 1001) 64 rfl fl_5_11 rfl (by decide) rfl ob_50 (Ob.lt ob_50) (D_X5_store_0.at 37 rfl) ?_
  refine J_iload_n 65 rfl 2 0 rfl (D_X5_store_0.at 38 rfl) ?_
  refine J_bipush 67 rfl ⟨by decide, by decide⟩ (D_X5_store_0.at 39 rfl) ?_
  refine J_iadd 68 rfl (D_X5_store_0.at 40 rfl) ?_
  refine J_bipush 70 rfl ⟨by decide, by decide⟩ (D_X5_store_0.at 41 rfl) ?_
  refine J_isub 71 rfl (D_X5_store_0.at 42 rfl) ?_
  refine J_bipush 73 rfl ⟨by decide, by decide⟩ (D_X5_store_0.at 43 rfl) ?_
  obtain ⟨s10, T⟩ := T
  refine J_copyH 76 rfl ml_5_30 (of_9_2 ha1) ar_51 s10 rfl (by decide) (D_X5_store_0.at 44 rfl) (fun h11 e12 => ?_)
  replace T := T h11 e12
  refine J_aload_n 77 rfl 1 2 rfl (Ob.rng ha1) (D_X5_store_0.at 45 rfl) ?_
  refine J_getF (ov := (a1 + 4)) (dd := 1004) 80 rfl fl_5_42 rfl (by decide) rfl ha1 (Ob.lt ha1) (D_X5_store_0.at 46 rfl) ?_
  refine J_iconst 81 rfl (D_X5_store_0.at 47 rfl) ?_
  refine J_aload_n 82 rfl 0 1 rfl ⟨by decide, by decide⟩ (D_X5_store_1.at 0 rfl) ?_
  refine J_getF (ov := 51) (dd := 1001) 85 rfl fl_5_11 rfl (by decide) rfl ob_50 (Ob.lt ob_50) (D_X5_store_1.at 1 rfl) ?_
  refine J_iload_n 86 rfl 2 0 rfl (D_X5_store_1.at 2 rfl) ?_
  refine J_bipush 88 rfl ⟨by decide, by decide⟩ (D_X5_store_1.at 3 rfl) ?_
  refine J_iadd 89 rfl (D_X5_store_1.at 4 rfl) ?_
  refine J_bipush 91 rfl ⟨by decide, by decide⟩ (D_X5_store_1.at 5 rfl) ?_
  refine J_isub 92 rfl (D_X5_store_1.at 6 rfl) ?_
  refine J_bipush 94 rfl ⟨by decide, by decide⟩ (D_X5_store_1.at 7 rfl) ?_
  obtain ⟨s13, T⟩ := T
  refine J_copyH 97 rfl ml_5_30 (of_9_3 ha1) ar_51 s13 rfl (by decide) (D_X5_store_1.at 8 rfl) (fun h14 e15 => ?_)
  replace T := T h14 e15
  refine J_aload_n 98 rfl 0 1 rfl ⟨by decide, by decide⟩ (D_X5_store_1.at 9 rfl) ?_
  refine J_aload_n 99 rfl 0 1 rfl ⟨by decide, by decide⟩ (D_X5_store_1.at 10 rfl) ?_
  refine J_getI (z := (h14 50 1)) 102 rfl fl_5_19 rfl ob_50 (Ob.lt ob_50) (D_X5_store_1.at 11 rfl) rfl ?_
  refine J_iconst 103 rfl (D_X5_store_1.at 12 rfl) ?_
  refine J_iadd 104 rfl (D_X5_store_1.at 13 rfl) ?_
  refine J_bipush 106 rfl ⟨by decide, by decide⟩ (D_X5_store_1.at 14 rfl) ?_
  obtain ⟨s16, T⟩ := T
  refine J_irem 107 rfl s16 ⟨by decide, by decide⟩ (D_X5_store_1.at 15 rfl) ?_
  refine J_putI 110 rfl fl_5_19 rfl rfl ob_50 (Ob.lt ob_50) (D_X5_store_1.at 16 rfl) (fun h17 e18 => ?_)
  replace T := T h17 e18
  refine J_aload_n 111 rfl 0 1 rfl ⟨by decide, by decide⟩ (D_X5_store_1.at 17 rfl) ?_
  refine J_bipush 113 rfl ⟨by decide, by decide⟩ (D_X5_store_1.at 18 rfl) ?_
  refine J_aload_n 114 rfl 0 1 rfl ⟨by decide, by decide⟩ (D_X5_store_1.at 19 rfl) ?_
  refine J_getI (z := (h17 50 2)) 117 rfl fl_5_15 rfl ob_50 (Ob.lt ob_50) (D_X5_store_1.at 20 rfl) rfl ?_
  refine J_iconst 118 rfl (D_X5_store_1.at 21 rfl) ?_
  refine J_iadd 119 rfl (D_X5_store_1.at 22 rfl) ?_
  obtain ⟨s19, T⟩ := T
  refine J_minE 122 rfl ml_5_45 ⟨by decide, by decide⟩ s19 (Nat.le_of_ble_eq_true rfl) (by decide) (D_X5_store_1.at 23 rfl) ?_
  refine J_putI 125 rfl fl_5_15 rfl rfl ob_50 (Ob.lt ob_50) (D_X5_store_1.at 24 rfl) (fun h20 e21 => ?_)
  replace T := T h20 e21
  exact J_vret rfl (D_X5_store_1.at 25 rfl) T
theorem c_X9_payInterest {w : Wd} {o a1 : Int} (ho : Ob 9 o) {h : Hp} {K : Int → Hp → Prop} (T : L_X9_payInterest_2 w o a1 0 h K) : C_X9_payInterest w o a1 h K := by
  refine CGm_of2 (by decide) (by decide) trivial (Nat.le_of_ble_eq_true rfl) ?_
  refine J_iconst 1 rfl (D_X9_payInterest_0.at 0 rfl) ?_
  refine J_istore_n (lv' := [(2, vI 0), (0, vR o), (1, vI a1)]) 2 rfl 2 (by decide) rfl (D_X9_payInterest_0.at 1 rfl) ?_
  exact J_sub (lv' := [(0, vR o), (1, vI a1), (2, vI 0)]) [1, 2, 0] rfl T
theorem l_X9_payInterest_2 {w : Wd} {o v1 v2 : Int} (ho : Ob 9 o) {h : Hp} {K : Int → Hp → Prop} (T : (inR v2) ∧ (((v2 ≥ 80) → (K 0 h)) ∧ (¬ (v2 ≥ 80) → ((0 ≤ v2 ∧ v2 < 80) ∧ ((0 ≤ ((h (o + 2) v2) * v1) ∧ ((h (o + 2) v2) * v1) < 2147483648) ∧ ((0 ≤ v2 ∧ v2 < 80) ∧ ((0 ≤ v2 ∧ v2 < 80) ∧ (∀ h6 : Hp, h6 = hu h (o + 2) v2 ((h (o + 2) v2) - (((h (o + 2) v2) * v1) / 100)) → (0 ≤ v2 ∧ v2 < 2147483648) ∧ ((0 ≤ (v2 % 10) ∧ (v2 % 10) < 10) ∧ ((0 ≤ (v2 % 10) ∧ (v2 % 10) < 10) ∧ (∀ h11 : Hp, h11 = hu h6 (o + 4) (v2 % 10) ((h6 (o + 4) (v2 % 10)) + (((h (o + 2) v2) * v1) / 100)) → L_X9_payInterest_2 w o v1 (v2 + 1) h11 K))))))))))) : L_X9_payInterest_2 w o v1 v2 h K := by
  unfold L_X9_payInterest_2
  refine J_iload_n 3 rfl 2 2 rfl (D_X9_payInterest_0.at 2 rfl) ?_
  refine J_aload_n 4 rfl 0 0 rfl (Ob.rng ho) (D_X9_payInterest_0.at 3 rfl) ?_
  refine J_getF (ov := (o + 2)) (dd := 1002) 7 rfl fl_9_15 rfl (by decide) rfl ho (Ob.lt ho) (D_X9_payInterest_0.at 4 rfl) ?_
  refine J_alenE (v := 80) 8 rfl rfl (by decide) (of_9_1 ho) (Ar.lt (of_9_1 ho)) (D_X9_payInterest_0.at 5 rfl) ?_
  obtain ⟨s1, T⟩ := T
  refine J_icmp_ge 11 rfl 52 s1 ⟨by decide, by decide⟩ (D_X9_payInterest_0.at 6 rfl) (by decide) (fun c13 => ?_) (fun c13 => ?_)
  · replace T := T.1 c13
    exact J_vret rfl (D_X9_payInterest_0.at 36 rfl) T
  replace T := T.2 c13
  refine J_aload_n 12 rfl 0 0 rfl (Ob.rng ho) (D_X9_payInterest_0.at 7 rfl) ?_
  refine J_getF (ov := (o + 2)) (dd := 1002) 15 rfl fl_9_15 rfl (by decide) rfl ho (Ob.lt ho) (D_X9_payInterest_0.at 8 rfl) ?_
  refine J_iload_n 16 rfl 2 2 rfl (D_X9_payInterest_0.at 9 rfl) ?_
  obtain ⟨s2, T⟩ := T
  refine J_iald 17 rfl (of_9_1 ho) (Ar.lt (of_9_1 ho)) s2 (D_X9_payInterest_0.at 10 rfl) ?_
  refine J_iload_n 18 rfl 1 1 rfl (D_X9_payInterest_0.at 11 rfl) ?_
  refine J_imul 19 rfl (D_X9_payInterest_0.at 12 rfl) ?_
  refine J_bipush 21 rfl ⟨by decide, by decide⟩ (D_X9_payInterest_0.at 13 rfl) ?_
  obtain ⟨s3, T⟩ := T
  refine J_idiv 22 rfl s3 ⟨by decide, by decide⟩ (D_X9_payInterest_0.at 14 rfl) ?_
  refine J_istore_n (lv' := [(3, vI (((h (o + 2) v2) * v1) / 100)), (0, vR o), (1, vI v1), (2, vI v2)]) 23 rfl 3 (by decide) rfl (D_X9_payInterest_0.at 15 rfl) ?_
  refine J_aload_n 24 rfl 0 1 rfl (Ob.rng ho) (D_X9_payInterest_0.at 16 rfl) ?_
  refine J_getF (ov := (o + 2)) (dd := 1002) 27 rfl fl_9_15 rfl (by decide) rfl ho (Ob.lt ho) (D_X9_payInterest_0.at 17 rfl) ?_
  refine J_iload_n 28 rfl 2 3 rfl (D_X9_payInterest_0.at 18 rfl) ?_
  refine J_dup2 29 rfl rfl rfl (D_X9_payInterest_0.at 19 rfl) ?_
  obtain ⟨s4, T⟩ := T
  refine J_iald 30 rfl (of_9_1 ho) (Ar.lt (of_9_1 ho)) s4 (D_X9_payInterest_0.at 20 rfl) ?_
  refine J_iload_n 31 rfl 3 0 rfl (D_X9_payInterest_0.at 21 rfl) ?_
  refine J_isub 32 rfl (D_X9_payInterest_0.at 22 rfl) ?_
  obtain ⟨s5, T⟩ := T
  refine J_iastH 33 rfl (of_9_1 ho) (Ar.lt (of_9_1 ho)) s5 trivial (D_X9_payInterest_0.at 23 rfl) (fun h6 e7 => ?_)
  replace T := T h6 e7
  refine J_aload_n 34 rfl 0 1 rfl (Ob.rng ho) (D_X9_payInterest_0.at 24 rfl) ?_
  refine J_getF (ov := (o + 4)) (dd := 1004) 37 rfl fl_9_21 rfl (by decide) rfl ho (Ob.lt ho) (D_X9_payInterest_0.at 25 rfl) ?_
  refine J_iload_n 38 rfl 2 3 rfl (D_X9_payInterest_0.at 26 rfl) ?_
  refine J_bipush 40 rfl ⟨by decide, by decide⟩ (D_X9_payInterest_0.at 27 rfl) ?_
  obtain ⟨s8, T⟩ := T
  refine J_irem 41 rfl s8 ⟨by decide, by decide⟩ (D_X9_payInterest_0.at 28 rfl) ?_
  refine J_dup2 42 rfl rfl rfl (D_X9_payInterest_0.at 29 rfl) ?_
  obtain ⟨s9, T⟩ := T
  refine J_iald 43 rfl (of_9_3 ho) (Ar.lt (of_9_3 ho)) s9 (D_X9_payInterest_0.at 30 rfl) ?_
  refine J_iload_n 44 rfl 3 0 rfl (D_X9_payInterest_0.at 31 rfl) ?_
  refine J_iadd 45 rfl (D_X9_payInterest_0.at 32 rfl) ?_
  obtain ⟨s10, T⟩ := T
  refine J_iastH 46 rfl (of_9_3 ho) (Ar.lt (of_9_3 ho)) s10 trivial (D_X9_payInterest_0.at 33 rfl) (fun h11 e12 => ?_)
  replace T := T h11 e12
  refine J_iinc (v := (v2 + 1)) (lv' := [(2, vI (v2 + 1)), (3, vI (((h (o + 2) v2) * v1) / 100)), (0, vR o), (1, vI v1)]) 49 rfl 2 3 1 rfl rfl (by decide) rfl (D_X9_payInterest_0.at 34 rfl) ?_
  refine J_goto 2 (D_X9_payInterest_0.at 35 rfl) (by decide) ?_
  exact J_sub (lv' := [(0, vR o), (1, vI v1), (2, vI (v2 + 1))]) [2, 3, 0] rfl T
theorem c_X5_giveBack {w : Wd} {a1 : Int} (ha1 : Ob 9 a1) {h : Hp} {K : Int → Hp → Prop} (T : (inR (h 50 2)) ∧ ((((h 50 2) ≠ 0) → ((0 ≤ (((h 50 1) + 20) - 1) ∧ (((h 50 1) + 20) - 1) < 2147483648) ∧ (∀ h3 : Hp, h3 = hu h 50 1 ((((h 50 1) + 20) - 1) % 20) → ∀ h5 : Hp, h5 = hu h3 50 2 ((h3 50 2) - 1) → (0 ≤ ((h5 50 1) * 109) ∧ ((h5 50 1) * 109) < 2180) ∧ (∀ h8 : Hp, h8 = hu h5 a1 4 (h5 51 ((h5 50 1) * 109)) → ((0 : Int) ≤ (((h5 50 1) * 109) + 1) ∧ (0 : Int) ≤ 0 ∧ (0 : Int) ≤ 8 ∧ ((((h5 50 1) * 109) + 1) : Int) + 8 ≤ 2180 ∧ (0 : Int) + 8 ≤ 8) ∧ (∀ h11 : Hp, h11 = hcpy h8 51 (((h5 50 1) * 109) + 1) (a1 + 1) 0 8 → ((0 : Int) ≤ ((((h5 50 1) * 109) + 1) + 8) ∧ (0 : Int) ≤ 0 ∧ (0 : Int) ≤ 80 ∧ (((((h5 50 1) * 109) + 1) + 8) : Int) + 80 ≤ 2180 ∧ (0 : Int) + 80 ≤ 80) ∧ (∀ h14 : Hp, h14 = hcpy h11 51 ((((h5 50 1) * 109) + 1) + 8) (a1 + 2) 0 80 → ((0 : Int) ≤ ((((h5 50 1) * 109) + 109) - 20) ∧ (0 : Int) ≤ 0 ∧ (0 : Int) ≤ 10 ∧ (((((h5 50 1) * 109) + 109) - 20) : Int) + 10 ≤ 2180 ∧ (0 : Int) + 10 ≤ 10) ∧ (∀ h17 : Hp, h17 = hcpy h14 51 ((((h5 50 1) * 109) + 109) - 20) (a1 + 3) 0 10 → ((0 : Int) ≤ ((((h5 50 1) * 109) + 109) - 10) ∧ (0 : Int) ≤ 0 ∧ (0 : Int) ≤ 10 ∧ (((((h5 50 1) * 109) + 109) - 10) : Int) + 10 ≤ 2180 ∧ (0 : Int) + 10 ≤ 10) ∧ (∀ h20 : Hp, h20 = hcpy h17 51 ((((h5 50 1) * 109) + 109) - 10) (a1 + 4) 0 10 → K 1 h20)))))))) ∧ (¬ ((h 50 2) ≠ 0) → (K 0 h)))) : C_X5_giveBack w a1 h K := by
  refine CGm_of2 (by decide) (by decide) trivial (Nat.le_of_ble_eq_true rfl) ?_
  refine J_aload_n 1 rfl 0 0 rfl ⟨by decide, by decide⟩ (D_X5_giveBack_0.at 0 rfl) ?_
  refine J_getI (z := (h 50 2)) 4 rfl fl_5_15 rfl ob_50 (Ob.lt ob_50) (D_X5_giveBack_0.at 1 rfl) rfl ?_
  obtain ⟨s1, T⟩ := T
  refine J_if_ne 7 rfl 9 s1 (D_X5_giveBack_0.at 2 rfl) (by decide) (fun c22 => ?_) (fun c22 => ?_)
  · replace T := T.1 c22
    refine J_aload_n 10 rfl 0 0 rfl ⟨by decide, by decide⟩ (D_X5_giveBack_0.at 5 rfl) ?_
    refine J_aload_n 11 rfl 0 0 rfl ⟨by decide, by decide⟩ (D_X5_giveBack_0.at 6 rfl) ?_
    refine J_getI (z := (h 50 1)) 14 rfl fl_5_19 rfl ob_50 (Ob.lt ob_50) (D_X5_giveBack_0.at 7 rfl) rfl ?_
    refine J_bipush 16 rfl ⟨by decide, by decide⟩ (D_X5_giveBack_0.at 8 rfl) ?_
    refine J_iadd 17 rfl (D_X5_giveBack_0.at 9 rfl) ?_
    refine J_iconst 18 rfl (D_X5_giveBack_0.at 10 rfl) ?_
    refine J_isub 19 rfl (D_X5_giveBack_0.at 11 rfl) ?_
    refine J_bipush 21 rfl ⟨by decide, by decide⟩ (D_X5_giveBack_0.at 12 rfl) ?_
    obtain ⟨s2, T⟩ := T
    refine J_irem 22 rfl s2 ⟨by decide, by decide⟩ (D_X5_giveBack_0.at 13 rfl) ?_
    refine J_putI 25 rfl fl_5_19 rfl rfl ob_50 (Ob.lt ob_50) (D_X5_giveBack_0.at 14 rfl) (fun h3 e4 => ?_)
    replace T := T h3 e4
    refine J_aload_n 26 rfl 0 0 rfl ⟨by decide, by decide⟩ (D_X5_giveBack_0.at 15 rfl) ?_
    refine J_dup 27 rfl rfl (D_X5_giveBack_0.at 16 rfl) ?_
    refine J_getI (z := (h3 50 2)) 30 rfl fl_5_15 rfl ob_50 (Ob.lt ob_50) (D_X5_giveBack_0.at 17 rfl) rfl ?_
    refine J_iconst 31 rfl (D_X5_giveBack_0.at 18 rfl) ?_
    refine J_isub 32 rfl (D_X5_giveBack_0.at 19 rfl) ?_
    refine J_putI 35 rfl fl_5_15 rfl rfl ob_50 (Ob.lt ob_50) (D_X5_giveBack_0.at 20 rfl) (fun h5 e6 => ?_)
    replace T := T h5 e6
    refine J_aload_n 36 rfl 0 0 rfl ⟨by decide, by decide⟩ (D_X5_giveBack_0.at 21 rfl) ?_
    refine J_getI (z := (h5 50 1)) 39 rfl fl_5_19 rfl ob_50 (Ob.lt ob_50) (D_X5_giveBack_0.at 22 rfl) rfl ?_
    refine J_bipush 41 rfl ⟨by decide, by decide⟩ (D_X5_giveBack_0.at 23 rfl) ?_
    refine J_imul 42 rfl (D_X5_giveBack_0.at 24 rfl) ?_
    refine J_istore_n (lv' := [(2, vI ((h5 50 1) * 109)), (0, vR 50), (1, vR a1)]) 43 rfl 2 (by decide) rfl (D_X5_giveBack_0.at 25 rfl) ?_
    refine J_aload_n 44 rfl 1 2 rfl (Ob.rng ha1) (D_X5_giveBack_0.at 26 rfl) ?_
    refine J_aload_n 45 rfl 0 1 rfl ⟨by decide, by decide⟩ (D_X5_giveBack_0.at 27 rfl) ?_
    refine J_getF (ov := 51) (dd := 1001) 48 rfl fl_5_11 rfl (by decide) rfl ob_50 (Ob.lt ob_50) (D_X5_giveBack_0.at 28 rfl) ?_
    refine J_iload_n 49 rfl 2 0 rfl (D_X5_giveBack_0.at 29 rfl) ?_
    obtain ⟨s7, T⟩ := T
    refine J_iald 50 rfl ar_51 (Ar.lt ar_51) s7 (D_X5_giveBack_0.at 30 rfl) ?_
    refine J_putI 53 rfl fl_5_22 rfl rfl ha1 (Ob.lt ha1) (D_X5_giveBack_0.at 31 rfl) (fun h8 e9 => ?_)
    replace T := T h8 e9
    refine J_aload_n 54 rfl 0 1 rfl ⟨by decide, by decide⟩ (D_X5_giveBack_0.at 32 rfl) ?_
    refine J_getF (ov := 51) (dd := 1001) 57 rfl fl_5_11 rfl (by decide) rfl ob_50 (Ob.lt ob_50) (D_X5_giveBack_0.at 33 rfl) ?_
    refine J_iload_n 58 rfl 2 0 rfl (D_X5_giveBack_0.at 34 rfl) ?_
    refine J_iconst 59 rfl (D_X5_giveBack_0.at 35 rfl) ?_
    refine J_iadd 60 rfl (D_X5_giveBack_0.at 36 rfl) ?_
    refine J_aload_n 61 rfl 1 2 rfl (Ob.rng ha1) (D_X5_giveBack_0.at 37 rfl) ?_
    refine J_getF (ov := (a1 + 1)) (dd := 1001) 64 rfl fl_5_27 rfl (by decide) rfl ha1 (Ob.lt ha1) (D_X5_giveBack_0.at 38 rfl) ?_
    refine J_iconst 65 rfl (D_X5_giveBack_0.at 39 rfl) ?_
    refine J_bipush 67 rfl ⟨by decide, by decide⟩ (D_X5_giveBack_0.at 40 rfl) ?_
    obtain ⟨s10, T⟩ := T
    refine J_copyH 70 rfl ml_5_30 ar_51 (of_9_0 ha1) s10 rfl (by decide) (D_X5_giveBack_0.at 41 rfl) (fun h11 e12 => ?_)
    replace T := T h11 e12
    refine J_aload_n 71 rfl 0 1 rfl ⟨by decide, by decide⟩ (D_X5_giveBack_0.at 42 rfl) ?_
    refine J_getF (ov := 51) (dd := 1001) 74 rfl fl_5_11 rfl (by decide) rfl ob_50 (Ob.lt ob_50) (D_X5_giveBack_0.at 43 rfl) ?_
    refine J_iload_n 75 rfl 2 0 rfl (D_X5_giveBack_0.at 44 rfl) ?_
    refine J_iconst 76 rfl (D_X5_giveBack_0.at 45 rfl) ?_
    refine J_iadd 77 rfl (D_X5_giveBack_0.at 46 rfl) ?_
    refine J_bipush 79 rfl ⟨by decide, by decide⟩ (D_X5_giveBack_0.at 47 rfl) ?_
    refine J_iadd 80 rfl (D_X5_giveBack_1.at 0 rfl) ?_
    refine J_aload_n 81 rfl 1 2 rfl (Ob.rng ha1) (D_X5_giveBack_1.at 1 rfl) ?_
    refine J_getF (ov := (a1 + 2)) (dd := 1002) 84 rfl fl_5_36 rfl (by decide) rfl ha1 (Ob.lt ha1) (D_X5_giveBack_1.at 2 rfl) ?_
    refine J_iconst 85 rfl (D_X5_giveBack_1.at 3 rfl) ?_
    refine J_bipush 87 rfl ⟨by decide, by decide⟩ (D_X5_giveBack_1.at 4 rfl) ?_
    obtain ⟨s13, T⟩ := T
    refine J_copyH 90 rfl ml_5_30 ar_51 (of_9_1 ha1) s13 rfl (by decide) (D_X5_giveBack_1.at 5 rfl) (fun h14 e15 => ?_)
    replace T := T h14 e15
    refine J_aload_n 91 rfl 0 1 rfl ⟨by decide, by decide⟩ (D_X5_giveBack_1.at 6 rfl) ?_
    refine J_getF (ov := 51) (dd := 1001) 94 rfl fl_5_11 rfl (by decide) rfl ob_50 (Ob.lt ob_50) (D_X5_giveBack_1.at 7 rfl) ?_
    refine J_iload_n 95 rfl 2 0 rfl (D_X5_giveBack_1.at 8 rfl) ?_
    refine J_bipush 97 rfl ⟨by decide, by decide⟩ (D_X5_giveBack_1.at 9 rfl) ?_
    refine J_iadd 98 rfl (D_X5_giveBack_1.at 10 rfl) ?_
    refine J_bipush 100 rfl ⟨by decide, by decide⟩ (D_X5_giveBack_1.at 11 rfl) ?_
    refine J_isub 101 rfl (D_X5_giveBack_1.at 12 rfl) ?_
    refine J_aload_n 102 rfl 1 2 rfl (Ob.rng ha1) (D_X5_giveBack_1.at 13 rfl) ?_
    refine J_getF (ov := (a1 + 3)) (dd := 1003) 105 rfl fl_5_39 rfl (by decide) rfl ha1 (Ob.lt ha1) (D_X5_giveBack_1.at 14 rfl) ?_
    refine J_iconst 106 rfl (D_X5_giveBack_1.at 15 rfl) ?_
    refine J_bipush 108 rfl ⟨by decide, by decide⟩ (D_X5_giveBack_1.at 16 rfl) ?_
    obtain ⟨s16, T⟩ := T
    refine J_copyH 111 rfl ml_5_30 ar_51 (of_9_2 ha1) s16 rfl (by decide) (D_X5_giveBack_1.at 17 rfl) (fun h17 e18 => ?_)
    replace T := T h17 e18
    refine J_aload_n 112 rfl 0 1 rfl ⟨by decide, by decide⟩ (D_X5_giveBack_1.at 18 rfl) ?_
    refine J_getF (ov := 51) (dd := 1001) 115 rfl fl_5_11 rfl (by decide) rfl ob_50 (Ob.lt ob_50) (D_X5_giveBack_1.at 19 rfl) ?_
    refine J_iload_n 116 rfl 2 0 rfl (D_X5_giveBack_1.at 20 rfl) ?_
    refine J_bipush 118 rfl ⟨by decide, by decide⟩ (D_X5_giveBack_1.at 21 rfl) ?_
    refine J_iadd 119 rfl (D_X5_giveBack_1.at 22 rfl) ?_
    refine J_bipush 121 rfl ⟨by decide, by decide⟩ (D_X5_giveBack_1.at 23 rfl) ?_
    refine J_isub 122 rfl (D_X5_giveBack_1.at 24 rfl) ?_
    refine J_aload_n 123 rfl 1 2 rfl (Ob.rng ha1) (D_X5_giveBack_1.at 25 rfl) ?_
    refine J_getF (ov := (a1 + 4)) (dd := 1004) 126 rfl fl_5_42 rfl (by decide) rfl ha1 (Ob.lt ha1) (D_X5_giveBack_1.at 26 rfl) ?_
    refine J_iconst 127 rfl (D_X5_giveBack_1.at 27 rfl) ?_
    refine J_bipush 129 rfl ⟨by decide, by decide⟩ (D_X5_giveBack_1.at 28 rfl) ?_
    obtain ⟨s19, T⟩ := T
    refine J_copyH 132 rfl ml_5_30 ar_51 (of_9_3 ha1) s19 rfl (by decide) (D_X5_giveBack_1.at 29 rfl) (fun h20 e21 => ?_)
    replace T := T h20 e21
    refine J_iconst 133 rfl (D_X5_giveBack_1.at 30 rfl) ?_
    exact J_zret rfl (Or.inr rfl) (D_X5_giveBack_1.at 31 rfl) T
  replace T := T.2 c22
  refine J_iconst 8 rfl (D_X5_giveBack_0.at 3 rfl) ?_
  exact J_zret rfl (Or.inl rfl) (D_X5_giveBack_0.at 4 rfl) T
theorem c_X3_begin {w : Wd} {h : Hp} {K : Int → Hp → Prop} (T : ∀ h1 : Hp, h1 = hu h 66 2 (-1) → L_X3_begin_7 w 0 h1 K) : C_X3_begin w h K := by
  refine CGm_of2 (by decide) (by decide) trivial (Nat.le_of_ble_eq_true rfl) ?_
  refine J_aload_n 1 rfl 0 0 rfl ⟨by decide, by decide⟩ (D_X3_begin_0.at 0 rfl) ?_
  refine J_iconst 2 rfl (D_X3_begin_0.at 1 rfl) ?_
  refine J_putI 5 rfl fl_3_15 rfl rfl ob_66 (Ob.lt ob_66) (D_X3_begin_0.at 2 rfl) (fun h1 e2 => ?_)
  replace T := T h1 e2
  refine J_iconst 6 rfl (D_X3_begin_0.at 3 rfl) ?_
  refine J_istore_n (lv' := [(1, vI 0), (0, vR 66)]) 7 rfl 1 (by decide) rfl (D_X3_begin_0.at 4 rfl) ?_
  exact J_sub (lv' := [(0, vR 66), (1, vI 0)]) [1, 0] rfl T
theorem l_X3_begin_7 {w : Wd} {v1 : Int} {h : Hp} {K : Int → Hp → Prop} (T : (inR v1) ∧ (((v1 ≥ 8) → (K 0 h)) ∧ (¬ (v1 ≥ 8) → ((0 ≤ v1 ∧ v1 < 8) ∧ (∀ h5 : Hp, h5 = hu h 62 v1 0 → L_X3_begin_7 w (v1 + 1) h5 K))))) : L_X3_begin_7 w v1 h K := by
  unfold L_X3_begin_7
  refine J_iload_n 8 rfl 1 1 rfl (D_X3_begin_0.at 5 rfl) ?_
  refine J_bipush 10 rfl ⟨by decide, by decide⟩ (D_X3_begin_0.at 6 rfl) ?_
  obtain ⟨s3, T⟩ := T
  refine J_icmp_ge 13 rfl 29 s3 ⟨by decide, by decide⟩ (D_X3_begin_0.at 7 rfl) (by decide) (fun c7 => ?_) (fun c7 => ?_)
  · replace T := T.1 c7
    exact J_vret rfl (D_X3_begin_0.at 16 rfl) T
  replace T := T.2 c7
  refine J_aload_n 14 rfl 0 0 rfl ⟨by decide, by decide⟩ (D_X3_begin_0.at 8 rfl) ?_
  refine J_getF (ov := 61) (dd := 995) 17 rfl fl_3_19 rfl (by decide) rfl ob_66 (Ob.lt ob_66) (D_X3_begin_0.at 9 rfl) ?_
  refine J_getF (ov := 62) (dd := 1001) 20 rfl fl_3_37 rfl (by decide) rfl ob_61 (Ob.lt ob_61) (D_X3_begin_0.at 10 rfl) ?_
  refine J_iload_n 21 rfl 1 1 rfl (D_X3_begin_0.at 11 rfl) ?_
  refine J_iconst 22 rfl (D_X3_begin_0.at 12 rfl) ?_
  obtain ⟨s4, T⟩ := T
  refine J_iastH 23 rfl ar_62 (Ar.lt ar_62) s4 trivial (D_X3_begin_0.at 13 rfl) (fun h5 e6 => ?_)
  replace T := T h5 e6
  refine J_iinc (v := (v1 + 1)) (lv' := [(1, vI (v1 + 1)), (0, vR 66)]) 26 rfl 1 1 1 rfl rfl (by decide) rfl (D_X3_begin_0.at 14 rfl) ?_
  refine J_goto 7 (D_X3_begin_0.at 15 rfl) (by decide) ?_
  exact J_sub (lv' := [(0, vR 66), (1, vI (v1 + 1))]) [1, 0] rfl T
theorem c_X3_countUp {w : Wd} {a1 : Int} {h : Hp} {K : Int → Hp → Prop} (T : L_X3_countUp_2 w a1 h K) : C_X3_countUp w a1 h K := by
  refine CGm_of2 (by decide) (by decide) trivial (Nat.le_of_ble_eq_true rfl) ?_
  refine J_iload_n 1 rfl 1 1 rfl (D_X3_countUp_0.at 0 rfl) ?_
  refine J_istore_n (lv' := [(2, vI a1), (0, vR 66), (1, vI a1)]) 2 rfl 2 (by decide) rfl (D_X3_countUp_0.at 1 rfl) ?_
  exact J_sub (lv' := [(0, vR 66), (2, vI a1)]) [1, 0] rfl T
theorem l_X3_countUp_2 {w : Wd} {v2 : Int} {h : Hp} {K : Int → Hp → Prop} (T : (inR v2) ∧ (((v2 ≤ 0) → ((0 ≤ v2 ∧ v2 < 8) ∧ ((0 ≤ v2 ∧ v2 < 8) ∧ (∀ h4 : Hp, h4 = hu h 62 v2 ((h 62 v2) + 1) → K v2 h4)))) ∧ (¬ (v2 ≤ 0) → ((0 ≤ v2 ∧ v2 < 8) ∧ ((inR (h 62 v2)) ∧ ((((h 62 v2) < 2) → ((0 ≤ v2 ∧ v2 < 8) ∧ ((0 ≤ v2 ∧ v2 < 8) ∧ (∀ h10 : Hp, h10 = hu h 62 v2 ((h 62 v2) + 1) → K v2 h10)))) ∧ (¬ ((h 62 v2) < 2) → ((0 ≤ v2 ∧ v2 < 8) ∧ (∀ h13 : Hp, h13 = hu h 62 v2 0 → L_X3_countUp_2 w (v2 + (-1)) h13 K))))))))) : L_X3_countUp_2 w v2 h K := by
  unfold L_X3_countUp_2
  refine J_iload_n 3 rfl 2 1 rfl (D_X3_countUp_0.at 2 rfl) ?_
  obtain ⟨s1, T⟩ := T
  refine J_if_le 6 rfl 35 s1 (D_X3_countUp_0.at 3 rfl) (by decide) (fun c16 => ?_) (fun c16 => ?_)
  · replace T := T.1 c16
    refine J_aload_n 36 rfl 0 0 rfl ⟨by decide, by decide⟩ (D_X3_countUp_0.at 19 rfl) ?_
    refine J_getF (ov := 61) (dd := 995) 39 rfl fl_3_19 rfl (by decide) rfl ob_66 (Ob.lt ob_66) (D_X3_countUp_0.at 20 rfl) ?_
    refine J_getF (ov := 62) (dd := 1001) 42 rfl fl_3_37 rfl (by decide) rfl ob_61 (Ob.lt ob_61) (D_X3_countUp_0.at 21 rfl) ?_
    refine J_iload_n 43 rfl 2 1 rfl (D_X3_countUp_0.at 22 rfl) ?_
    refine J_dup2 44 rfl rfl rfl (D_X3_countUp_0.at 23 rfl) ?_
    obtain ⟨s2, T⟩ := T
    refine J_iald 45 rfl ar_62 (Ar.lt ar_62) s2 (D_X3_countUp_0.at 24 rfl) ?_
    refine J_iconst 46 rfl (D_X3_countUp_0.at 25 rfl) ?_
    refine J_iadd 47 rfl (D_X3_countUp_0.at 26 rfl) ?_
    obtain ⟨s3, T⟩ := T
    refine J_iastH 48 rfl ar_62 (Ar.lt ar_62) s3 trivial (D_X3_countUp_0.at 27 rfl) (fun h4 e5 => ?_)
    replace T := T h4 e5
    refine J_iload_n 49 rfl 2 1 rfl (D_X3_countUp_0.at 28 rfl) ?_
    exact J_iret rfl (D_X3_countUp_0.at 29 rfl) T
  replace T := T.2 c16
  refine J_aload_n 7 rfl 0 0 rfl ⟨by decide, by decide⟩ (D_X3_countUp_0.at 4 rfl) ?_
  refine J_getF (ov := 61) (dd := 995) 10 rfl fl_3_19 rfl (by decide) rfl ob_66 (Ob.lt ob_66) (D_X3_countUp_0.at 5 rfl) ?_
  refine J_getF (ov := 62) (dd := 1001) 13 rfl fl_3_37 rfl (by decide) rfl ob_61 (Ob.lt ob_61) (D_X3_countUp_0.at 6 rfl) ?_
  refine J_iload_n 14 rfl 2 1 rfl (D_X3_countUp_0.at 7 rfl) ?_
  obtain ⟨s6, T⟩ := T
  refine J_iald 15 rfl ar_62 (Ar.lt ar_62) s6 (D_X3_countUp_0.at 8 rfl) ?_
  refine J_iconst 16 rfl (D_X3_countUp_0.at 9 rfl) ?_
  obtain ⟨s7, T⟩ := T
  refine J_icmp_lt 19 rfl 35 s7 ⟨by decide, by decide⟩ (D_X3_countUp_0.at 10 rfl) (by decide) (fun c15 => ?_) (fun c15 => ?_)
  · replace T := T.1 c15
    refine J_aload_n 36 rfl 0 0 rfl ⟨by decide, by decide⟩ (D_X3_countUp_0.at 19 rfl) ?_
    refine J_getF (ov := 61) (dd := 995) 39 rfl fl_3_19 rfl (by decide) rfl ob_66 (Ob.lt ob_66) (D_X3_countUp_0.at 20 rfl) ?_
    refine J_getF (ov := 62) (dd := 1001) 42 rfl fl_3_37 rfl (by decide) rfl ob_61 (Ob.lt ob_61) (D_X3_countUp_0.at 21 rfl) ?_
    refine J_iload_n 43 rfl 2 1 rfl (D_X3_countUp_0.at 22 rfl) ?_
    refine J_dup2 44 rfl rfl rfl (D_X3_countUp_0.at 23 rfl) ?_
    obtain ⟨s8, T⟩ := T
    refine J_iald 45 rfl ar_62 (Ar.lt ar_62) s8 (D_X3_countUp_0.at 24 rfl) ?_
    refine J_iconst 46 rfl (D_X3_countUp_0.at 25 rfl) ?_
    refine J_iadd 47 rfl (D_X3_countUp_0.at 26 rfl) ?_
    obtain ⟨s9, T⟩ := T
    refine J_iastH 48 rfl ar_62 (Ar.lt ar_62) s9 trivial (D_X3_countUp_0.at 27 rfl) (fun h10 e11 => ?_)
    replace T := T h10 e11
    refine J_iload_n 49 rfl 2 1 rfl (D_X3_countUp_0.at 28 rfl) ?_
    exact J_iret rfl (D_X3_countUp_0.at 29 rfl) T
  replace T := T.2 c15
  refine J_aload_n 20 rfl 0 0 rfl ⟨by decide, by decide⟩ (D_X3_countUp_0.at 11 rfl) ?_
  refine J_getF (ov := 61) (dd := 995) 23 rfl fl_3_19 rfl (by decide) rfl ob_66 (Ob.lt ob_66) (D_X3_countUp_0.at 12 rfl) ?_
  refine J_getF (ov := 62) (dd := 1001) 26 rfl fl_3_37 rfl (by decide) rfl ob_61 (Ob.lt ob_61) (D_X3_countUp_0.at 13 rfl) ?_
  refine J_iload_n 27 rfl 2 1 rfl (D_X3_countUp_0.at 14 rfl) ?_
  refine J_iconst 28 rfl (D_X3_countUp_0.at 15 rfl) ?_
  obtain ⟨s12, T⟩ := T
  refine J_iastH 29 rfl ar_62 (Ar.lt ar_62) s12 trivial (D_X3_countUp_0.at 16 rfl) (fun h13 e14 => ?_)
  replace T := T h13 e14
  refine J_iinc (v := (v2 + (-1))) (lv' := [(2, vI (v2 + (-1))), (0, vR 66)]) 32 rfl 2 1 (-1) rfl rfl (by decide) rfl (D_X3_countUp_0.at 17 rfl) ?_
  refine J_goto 2 (D_X3_countUp_0.at 18 rfl) (by decide) ?_
  exact J_sub (lv' := [(0, vR 66), (2, vI (v2 + (-1)))]) [1, 0] rfl T
theorem c_X3_answer {w : Wd} {a1 : Int} {h : Hp} {K : Int → Hp → Prop} (T : (inR (h 66 2)) ∧ ((((h 66 2) = (-1)) → (K (h 66 2) h)) ∧ (¬ ((h 66 2) = (-1)) → ((inR a1) ∧ (((a1 < 0) → (K (h 66 2) h)) ∧ (¬ (a1 < 0) → ((inR a1) ∧ (((a1 < 8) → ((0 ≤ a1 ∧ a1 < 8) ∧ (K (h 67 a1) h))) ∧ (¬ (a1 < 8) → (K (h 66 2) h)))))))))) : C_X3_answer w a1 h K := by
  refine CGm_of2 (by decide) (by decide) trivial (Nat.le_of_ble_eq_true rfl) ?_
  refine J_aload_n 1 rfl 0 0 rfl ⟨by decide, by decide⟩ (D_X3_answer_0.at 0 rfl) ?_
  refine J_getI (z := (h 66 2)) 4 rfl fl_3_15 rfl ob_66 (Ob.lt ob_66) (D_X3_answer_0.at 1 rfl) rfl ?_
  refine J_iconst 5 rfl (D_X3_answer_0.at 2 rfl) ?_
  obtain ⟨s1, T⟩ := T
  refine J_icmp_eq 8 rfl 21 s1 ⟨by decide, by decide⟩ (D_X3_answer_0.at 3 rfl) (by decide) (fun c7 => ?_) (fun c7 => ?_)
  · replace T := T.1 c7
    refine J_aload_n 22 rfl 0 0 rfl ⟨by decide, by decide⟩ (D_X3_answer_0.at 11 rfl) ?_
    refine J_getI (z := (h 66 2)) 25 rfl fl_3_15 rfl ob_66 (Ob.lt ob_66) (D_X3_answer_0.at 12 rfl) rfl ?_
    exact J_iret rfl (D_X3_answer_0.at 13 rfl) T
  replace T := T.2 c7
  refine J_iload_n 9 rfl 1 1 rfl (D_X3_answer_0.at 4 rfl) ?_
  obtain ⟨s2, T⟩ := T
  refine J_if_lt 12 rfl 21 s2 (D_X3_answer_0.at 5 rfl) (by decide) (fun c6 => ?_) (fun c6 => ?_)
  · replace T := T.1 c6
    refine J_aload_n 22 rfl 0 0 rfl ⟨by decide, by decide⟩ (D_X3_answer_0.at 11 rfl) ?_
    refine J_getI (z := (h 66 2)) 25 rfl fl_3_15 rfl ob_66 (Ob.lt ob_66) (D_X3_answer_0.at 12 rfl) rfl ?_
    exact J_iret rfl (D_X3_answer_0.at 13 rfl) T
  replace T := T.2 c6
  refine J_iload_n 13 rfl 1 1 rfl (D_X3_answer_0.at 6 rfl) ?_
  refine J_aload_n 14 rfl 0 0 rfl ⟨by decide, by decide⟩ (D_X3_answer_0.at 7 rfl) ?_
  refine J_getF (ov := 67) (dd := 1001) 17 rfl fl_3_9 rfl (by decide) rfl ob_66 (Ob.lt ob_66) (D_X3_answer_0.at 8 rfl) ?_
  refine J_alenE (v := 8) 18 rfl rfl (by decide) ar_67 (Ar.lt ar_67) (D_X3_answer_0.at 9 rfl) ?_
  obtain ⟨s3, T⟩ := T
  refine J_icmp_lt 21 rfl 26 s3 ⟨by decide, by decide⟩ (D_X3_answer_0.at 10 rfl) (by decide) (fun c5 => ?_) (fun c5 => ?_)
  · replace T := T.1 c5
    refine J_aload_n 27 rfl 0 0 rfl ⟨by decide, by decide⟩ (D_X3_answer_0.at 14 rfl) ?_
    refine J_getF (ov := 67) (dd := 1001) 30 rfl fl_3_9 rfl (by decide) rfl ob_66 (Ob.lt ob_66) (D_X3_answer_0.at 15 rfl) ?_
    refine J_iload_n 31 rfl 1 1 rfl (D_X3_answer_0.at 16 rfl) ?_
    obtain ⟨s4, T⟩ := T
    refine J_iald 32 rfl ar_67 (Ar.lt ar_67) s4 (D_X3_answer_0.at 17 rfl) ?_
    exact J_iret rfl (D_X3_answer_0.at 18 rfl) T
  replace T := T.2 c5
  refine J_aload_n 22 rfl 0 0 rfl ⟨by decide, by decide⟩ (D_X3_answer_0.at 11 rfl) ?_
  refine J_getI (z := (h 66 2)) 25 rfl fl_3_15 rfl ob_66 (Ob.lt ob_66) (D_X3_answer_0.at 12 rfl) rfl ?_
  exact J_iret rfl (D_X3_answer_0.at 13 rfl) T
theorem c_X9_copy {w : Wd} {o a1 : Int} (ho : Ob 9 o) (ha1 : Ob 9 a1) {h : Hp} {K : Int → Hp → Prop} (T : ∀ h1 : Hp, h1 = hu h o 4 (h a1 4) → ∀ h3 : Hp, h3 = hcpy h1 (a1 + 1) 0 (o + 1) 0 8 → ∀ h5 : Hp, h5 = hcpy h3 (a1 + 2) 0 (o + 2) 0 80 → ∀ h7 : Hp, h7 = hcpy h5 (a1 + 3) 0 (o + 3) 0 10 → ∀ h9 : Hp, h9 = hcpy h7 (a1 + 4) 0 (o + 4) 0 10 → K 0 h9) : C_X9_copy w o a1 h K := by
  refine CGm_of2 (by decide) (by decide) trivial (Nat.le_of_ble_eq_true rfl) ?_
  refine J_aload_n 1 rfl 0 0 rfl (Ob.rng ho) (D_X9_copy_0.at 0 rfl) ?_
  refine J_aload_n 2 rfl 1 1 rfl (Ob.rng ha1) (D_X9_copy_0.at 1 rfl) ?_
  refine J_getI (z := (h a1 4)) 5 rfl fl_9_24 rfl ha1 (Ob.lt ha1) (D_X9_copy_0.at 2 rfl) rfl ?_
  refine J_putI 8 rfl fl_9_24 rfl rfl ho (Ob.lt ho) (D_X9_copy_0.at 3 rfl) (fun h1 e2 => ?_)
  replace T := T h1 e2
  refine J_aload_n 9 rfl 1 1 rfl (Ob.rng ha1) (D_X9_copy_0.at 4 rfl) ?_
  refine J_getF (ov := (a1 + 1)) (dd := 1001) 12 rfl fl_9_9 rfl (by decide) rfl ha1 (Ob.lt ha1) (D_X9_copy_0.at 5 rfl) ?_
  refine J_iconst 13 rfl (D_X9_copy_0.at 6 rfl) ?_
  refine J_aload_n 14 rfl 0 0 rfl (Ob.rng ho) (D_X9_copy_0.at 7 rfl) ?_
  refine J_getF (ov := (o + 1)) (dd := 1001) 17 rfl fl_9_9 rfl (by decide) rfl ho (Ob.lt ho) (D_X9_copy_0.at 8 rfl) ?_
  refine J_iconst 18 rfl (D_X9_copy_0.at 9 rfl) ?_
  refine J_bipush 20 rfl ⟨by decide, by decide⟩ (D_X9_copy_0.at 10 rfl) ?_
  refine J_copyH 23 rfl ml_9_33 (of_9_0 ha1) (of_9_0 ho) ⟨by decide, by decide, by decide, by decide, by decide⟩ rfl (by decide) (D_X9_copy_0.at 11 rfl) (fun h3 e4 => ?_)
  replace T := T h3 e4
  refine J_aload_n 24 rfl 1 1 rfl (Ob.rng ha1) (D_X9_copy_0.at 12 rfl) ?_
  refine J_getF (ov := (a1 + 2)) (dd := 1002) 27 rfl fl_9_15 rfl (by decide) rfl ha1 (Ob.lt ha1) (D_X9_copy_0.at 13 rfl) ?_
  refine J_iconst 28 rfl (D_X9_copy_0.at 14 rfl) ?_
  refine J_aload_n 29 rfl 0 0 rfl (Ob.rng ho) (D_X9_copy_0.at 15 rfl) ?_
  refine J_getF (ov := (o + 2)) (dd := 1002) 32 rfl fl_9_15 rfl (by decide) rfl ho (Ob.lt ho) (D_X9_copy_0.at 16 rfl) ?_
  refine J_iconst 33 rfl (D_X9_copy_0.at 17 rfl) ?_
  refine J_bipush 35 rfl ⟨by decide, by decide⟩ (D_X9_copy_0.at 18 rfl) ?_
  refine J_copyH 38 rfl ml_9_33 (of_9_1 ha1) (of_9_1 ho) ⟨by decide, by decide, by decide, by decide, by decide⟩ rfl (by decide) (D_X9_copy_0.at 19 rfl) (fun h5 e6 => ?_)
  replace T := T h5 e6
  refine J_aload_n 39 rfl 1 1 rfl (Ob.rng ha1) (D_X9_copy_0.at 20 rfl) ?_
  refine J_getF (ov := (a1 + 3)) (dd := 1003) 42 rfl fl_9_18 rfl (by decide) rfl ha1 (Ob.lt ha1) (D_X9_copy_0.at 21 rfl) ?_
  refine J_iconst 43 rfl (D_X9_copy_0.at 22 rfl) ?_
  refine J_aload_n 44 rfl 0 0 rfl (Ob.rng ho) (D_X9_copy_0.at 23 rfl) ?_
  refine J_getF (ov := (o + 3)) (dd := 1003) 47 rfl fl_9_18 rfl (by decide) rfl ho (Ob.lt ho) (D_X9_copy_0.at 24 rfl) ?_
  refine J_iconst 48 rfl (D_X9_copy_0.at 25 rfl) ?_
  refine J_bipush 50 rfl ⟨by decide, by decide⟩ (D_X9_copy_0.at 26 rfl) ?_
  refine J_copyH 53 rfl ml_9_33 (of_9_2 ha1) (of_9_2 ho) ⟨by decide, by decide, by decide, by decide, by decide⟩ rfl (by decide) (D_X9_copy_0.at 27 rfl) (fun h7 e8 => ?_)
  replace T := T h7 e8
  refine J_aload_n 54 rfl 1 1 rfl (Ob.rng ha1) (D_X9_copy_0.at 28 rfl) ?_
  refine J_getF (ov := (a1 + 4)) (dd := 1004) 57 rfl fl_9_21 rfl (by decide) rfl ha1 (Ob.lt ha1) (D_X9_copy_0.at 29 rfl) ?_
  refine J_iconst 58 rfl (D_X9_copy_0.at 30 rfl) ?_
  refine J_aload_n 59 rfl 0 0 rfl (Ob.rng ho) (D_X9_copy_0.at 31 rfl) ?_
  refine J_getF (ov := (o + 4)) (dd := 1004) 62 rfl fl_9_21 rfl (by decide) rfl ho (Ob.lt ho) (D_X9_copy_0.at 32 rfl) ?_
  refine J_iconst 63 rfl (D_X9_copy_0.at 33 rfl) ?_
  refine J_bipush 65 rfl ⟨by decide, by decide⟩ (D_X9_copy_0.at 34 rfl) ?_
  refine J_copyH 68 rfl ml_9_33 (of_9_3 ha1) (of_9_3 ho) ⟨by decide, by decide, by decide, by decide, by decide⟩ rfl (by decide) (D_X9_copy_0.at 35 rfl) (fun h9 e10 => ?_)
  replace T := T h9 e10
  exact J_vret rfl (D_X9_copy_0.at 36 rfl) T
theorem c_X11_checkBehind {w : Wd} {a1 a2 : Int} {h : Hp} {K : Int → Hp → Prop} (T : (0 ≤ ((3 * a1) + a2) ∧ ((3 * a1) + a2) < 2147483648) ∧ (K (((3 * a1) + a2) % 251) h)) : C_X11_checkBehind w a1 a2 h K := by
  refine CGm_of2 (by decide) (by decide) trivial (Nat.le_of_ble_eq_true rfl) ?_
  refine J_iconst 1 rfl (D_X11_checkBehind_0.at 0 rfl) ?_
  refine J_iload_n 2 rfl 0 0 rfl (D_X11_checkBehind_0.at 1 rfl) ?_
  refine J_imul 3 rfl (D_X11_checkBehind_0.at 2 rfl) ?_
  refine J_iload_n 4 rfl 1 1 rfl (D_X11_checkBehind_0.at 3 rfl) ?_
  refine J_iadd 5 rfl (D_X11_checkBehind_0.at 4 rfl) ?_
  refine J_sipush 8 rfl ⟨by decide, by decide⟩ (D_X11_checkBehind_0.at 5 rfl) ?_
  obtain ⟨s1, T⟩ := T
  refine J_irem 9 rfl s1 ⟨by decide, by decide⟩ (D_X11_checkBehind_0.at 6 rfl) ?_
  exact J_iret rfl (D_X11_checkBehind_0.at 7 rfl) T
theorem c_JM_floorDiv {w : Wd} {a1 a2 : Int} {h : Hp} {K : Int → Hp → Prop} (T : (-2147483648 < a1 ∧ a1 < 2147483648) ∧ ((inR a2) ∧ ((a2 ≠ 0) ∧ ((((ixorI a1 a2) ≥ 0) → (K (Int.tdiv a1 a2) h)) ∧ (¬ ((ixorI a1 a2) ≥ 0) → ((inR ((Int.tdiv a1 a2) * a2)) ∧ ((inR a1) ∧ (((((Int.tdiv a1 a2) * a2) = a1) → (K (Int.tdiv a1 a2) h)) ∧ (¬ (((Int.tdiv a1 a2) * a2) = a1) → (K ((Int.tdiv a1 a2) - 1) h)))))))))) : C_JM_floorDiv w a1 a2 h K := by
  refine CGm_of3 (by decide +kernel) (by decide) trivial (Nat.le_of_ble_eq_true rfl) ?_
  refine J_iload_n 1 rfl 0 0 rfl (D_JM_floorDiv_0.at 0 rfl) ?_
  refine J_iload_n 2 rfl 1 1 rfl (D_JM_floorDiv_0.at 1 rfl) ?_
  obtain ⟨s1, T⟩ := T
  obtain ⟨s2, T⟩ := T
  obtain ⟨s3, T⟩ := T
  refine J_idivS 3 rfl s1 s2 s3 (D_JM_floorDiv_0.at 2 rfl) ?_
  refine J_istore_n (lv' := [(2, vI (Int.tdiv a1 a2)), (0, vI a1), (1, vI a2)]) 4 rfl 2 (by decide) rfl (D_JM_floorDiv_0.at 3 rfl) ?_
  refine J_iload_n 5 rfl 0 1 rfl (D_JM_floorDiv_0.at 4 rfl) ?_
  refine J_iload_n 6 rfl 1 2 rfl (D_JM_floorDiv_0.at 5 rfl) ?_
  refine J_ixor 7 rfl (D_JM_floorDiv_0.at 6 rfl) ?_
  refine J_if_ge 10 rfl 21 (ixorI_in a1 a2) (D_JM_floorDiv_0.at 7 rfl) (by decide) (fun c7 => ?_) (fun c7 => ?_)
  · replace T := T.1 c7
    refine J_iload_n 22 rfl 2 0 rfl (D_JM_floorDiv_0.at 17 rfl) ?_
    exact J_iret rfl (D_JM_floorDiv_0.at 18 rfl) T
  replace T := T.2 c7
  refine J_iload_n 11 rfl 2 0 rfl (D_JM_floorDiv_0.at 8 rfl) ?_
  refine J_iload_n 12 rfl 1 2 rfl (D_JM_floorDiv_0.at 9 rfl) ?_
  refine J_imul 13 rfl (D_JM_floorDiv_0.at 10 rfl) ?_
  refine J_iload_n 14 rfl 0 1 rfl (D_JM_floorDiv_0.at 11 rfl) ?_
  obtain ⟨s4, T⟩ := T
  obtain ⟨s5, T⟩ := T
  refine J_icmp_eq 17 rfl 21 s4 s5 (D_JM_floorDiv_0.at 12 rfl) (by decide) (fun c6 => ?_) (fun c6 => ?_)
  · replace T := T.1 c6
    refine J_iload_n 22 rfl 2 0 rfl (D_JM_floorDiv_0.at 17 rfl) ?_
    exact J_iret rfl (D_JM_floorDiv_0.at 18 rfl) T
  replace T := T.2 c6
  refine J_iload_n 18 rfl 2 0 rfl (D_JM_floorDiv_0.at 13 rfl) ?_
  refine J_iconst 19 rfl (D_JM_floorDiv_0.at 14 rfl) ?_
  refine J_isub 20 rfl (D_JM_floorDiv_0.at 15 rfl) ?_
  exact J_iret rfl (D_JM_floorDiv_0.at 16 rfl) T
theorem c_X10_isMore {w : Wd} {h : Hp} {K : Int → Hp → Prop} (T : C_X10_next w h (fun _ h2 => (inR (h2 1 2)) ∧ ((inR (h2 1 1)) ∧ ((((h2 1 2) ≥ (h2 1 1)) → (K 0 h2)) ∧ (¬ ((h2 1 2) ≥ (h2 1 1)) → (K 1 h2)))))) : C_X10_isMore w h K := by
  refine CGm_of2 (by decide) (by decide) trivial (Nat.le_of_ble_eq_true rfl) ?_
  refine J_aload_n 1 rfl 0 0 rfl ⟨by decide, by decide⟩ (D_X10_isMore_0.at 0 rfl) ?_
  refine J_callV (d' := 1) (sr := fun z => []) (as := []) (st := []) (o := 1) 4 rfl ok_X10_next im_X10_next se_X10_next ml_10_39 isC_10 ob_1 (Ob.lt ob_1) rfl (by decide) ⟨Nat.le_refl _, Nat.le_refl _⟩ (Nat.le_of_ble_eq_true rfl) (D_X10_isMore_0.at 1 rfl) (fun _ => rfl) T (fun r1 h2 T b3 => ?_)
  refine J_aload_n 5 rfl 0 0 rfl ⟨by decide, by decide⟩ (D_X10_isMore_0.at 2 rfl) ?_
  refine J_getI (z := (h2 1 2)) 8 rfl fl_10_26 rfl ob_1 (Ob.lt ob_1) (D_X10_isMore_0.at 3 rfl) rfl ?_
  refine J_aload_n 9 rfl 0 0 rfl ⟨by decide, by decide⟩ (D_X10_isMore_0.at 4 rfl) ?_
  refine J_getI (z := (h2 1 1)) 12 rfl fl_10_19 rfl ob_1 (Ob.lt ob_1) (D_X10_isMore_0.at 5 rfl) rfl ?_
  obtain ⟨s4, T⟩ := T
  obtain ⟨s5, T⟩ := T
  refine J_icmp_ge 15 rfl 19 s4 s5 (D_X10_isMore_0.at 6 rfl) (by decide) (fun c6 => ?_) (fun c6 => ?_)
  · replace T := T.1 c6
    refine J_iconst 20 rfl (D_X10_isMore_0.at 9 rfl) ?_
    exact J_zret rfl (Or.inl rfl) (D_X10_isMore_0.at 10 rfl) T
  replace T := T.2 c6
  refine J_iconst 16 rfl (D_X10_isMore_0.at 7 rfl) ?_
  refine J_goto 20 (D_X10_isMore_0.at 8 rfl) (by decide) ?_
  exact J_zret rfl (Or.inr rfl) (D_X10_isMore_0.at 10 rfl) T
theorem c_X10_failHere {w : Wd} {h : Hp} {K : Int → Hp → Prop} (T : C_X10_fail w 1 (h 1 2) h (fun r1 h2 => (r1 = 0 ∨ r1 = 1) → K r1 h2)) : C_X10_failHere w h K := by
  refine CGm_of2 (by decide) (by decide) trivial (Nat.le_of_ble_eq_true rfl) ?_
  refine J_aload_n 1 rfl 0 0 rfl ⟨by decide, by decide⟩ (D_X10_failHere_0.at 0 rfl) ?_
  refine J_iconst 2 rfl (D_X10_failHere_0.at 1 rfl) ?_
  refine J_aload_n 3 rfl 0 0 rfl ⟨by decide, by decide⟩ (D_X10_failHere_0.at 2 rfl) ?_
  refine J_getI (z := (h 1 2)) 6 rfl fl_10_26 rfl ob_1 (Ob.lt ob_1) (D_X10_failHere_0.at 3 rfl) rfl ?_
  refine J_callV (d' := 1) (sr := fun z => [vI z]) (as := [vI 1, vI (h 1 2)]) (st := []) (o := 1) 9 rfl ok_X10_fail im_X10_fail se_X10_fail ml_10_35 isC_10 ob_1 (Ob.lt ob_1) rfl (by decide) ⟨Nat.le_refl _, Nat.le_refl _⟩ (Nat.le_of_ble_eq_true rfl) (D_X10_failHere_0.at 4 rfl) (fun _ => rfl) T (fun r1 h2 T b3 => ?_)
  replace T := T b3
  exact J_zret rfl b3 (D_X10_failHere_0.at 5 rfl) T
theorem c_X7_isNamed {w : Wd} {o a1 : Int} (ho : Ob 7 o) {h : Hp} {K : Int → Hp → Prop} (T : C_X4_indexOf w (o + 1) a1 h (fun r1 h2 => (inR r1) ∧ (((r1 ≠ (-1)) → (K 1 h2)) ∧ (¬ (r1 ≠ (-1)) → (C_X4_indexOf w (o + 3) a1 h2 (fun r5 h6 => (inR r5) ∧ (((r5 ≠ (-1)) → (K 1 h6)) ∧ (¬ (r5 ≠ (-1)) → (C_X4_indexOf w (o + 5) a1 h6 (fun r9 h10 => (inR r9) ∧ (((r9 = (-1)) → (K 0 h10)) ∧ (¬ (r9 = (-1)) → (K 1 h10))))))))))))) : C_X7_isNamed w o a1 h K := by
  refine CGm_of2 (by decide) (by decide) trivial (Nat.le_of_ble_eq_true rfl) ?_
  refine J_aload_n 1 rfl 0 0 rfl (Ob.rng ho) (D_X7_isNamed_0.at 0 rfl) ?_
  refine J_getF (ov := (o + 1)) (dd := 1001) 4 rfl fl_7_14 rfl (by decide) rfl ho (Ob.lt ho) (D_X7_isNamed_0.at 1 rfl) ?_
  refine J_iload_n 5 rfl 1 1 rfl (D_X7_isNamed_0.at 2 rfl) ?_
  refine J_callV (d' := 1) (sr := fun z => [vI z]) (as := [vI a1]) (st := []) (o := (o + 1)) 8 rfl ok_X4_indexOf im_X4_indexOf se_X4_indexOf ml_7_80 isC_4 (of_7_0 ho) (Ob.lt (of_7_0 ho)) rfl (by decide) ⟨Nat.le_refl _, Nat.le_refl _⟩ (Nat.le_of_ble_eq_true rfl) (D_X7_isNamed_0.at 3 rfl) (fun _ => rfl) T (fun r1 h2 T b3 => ?_)
  refine J_iconst 9 rfl (D_X7_isNamed_0.at 4 rfl) ?_
  obtain ⟨s4, T⟩ := T
  refine J_icmp_ne 12 rfl 36 s4 ⟨by decide, by decide⟩ (D_X7_isNamed_0.at 5 rfl) (by decide) (fun c15 => ?_) (fun c15 => ?_)
  · replace T := T.1 c15
    refine J_iconst 37 rfl (D_X7_isNamed_0.at 18 rfl) ?_
    refine J_goto 41 (D_X7_isNamed_0.at 19 rfl) (by decide) ?_
    exact J_zret rfl (Or.inr rfl) (D_X7_isNamed_0.at 21 rfl) T
  replace T := T.2 c15
  refine J_aload_n 13 rfl 0 0 rfl (Ob.rng ho) (D_X7_isNamed_0.at 6 rfl) ?_
  refine J_getF (ov := (o + 3)) (dd := 1003) 16 rfl fl_7_20 rfl (by decide) rfl ho (Ob.lt ho) (D_X7_isNamed_0.at 7 rfl) ?_
  refine J_iload_n 17 rfl 1 1 rfl (D_X7_isNamed_0.at 8 rfl) ?_
  refine J_callV (d' := 1) (sr := fun z => [vI z]) (as := [vI a1]) (st := []) (o := (o + 3)) 20 rfl ok_X4_indexOf im_X4_indexOf se_X4_indexOf ml_7_80 isC_4 (of_7_1 ho) (Ob.lt (of_7_1 ho)) rfl (by decide) ⟨Nat.le_refl _, Nat.le_refl _⟩ (Nat.le_of_ble_eq_true rfl) (D_X7_isNamed_0.at 9 rfl) (fun _ => rfl) T (fun r5 h6 T b7 => ?_)
  refine J_iconst 21 rfl (D_X7_isNamed_0.at 10 rfl) ?_
  obtain ⟨s8, T⟩ := T
  refine J_icmp_ne 24 rfl 36 s8 ⟨by decide, by decide⟩ (D_X7_isNamed_0.at 11 rfl) (by decide) (fun c14 => ?_) (fun c14 => ?_)
  · replace T := T.1 c14
    refine J_iconst 37 rfl (D_X7_isNamed_0.at 18 rfl) ?_
    refine J_goto 41 (D_X7_isNamed_0.at 19 rfl) (by decide) ?_
    exact J_zret rfl (Or.inr rfl) (D_X7_isNamed_0.at 21 rfl) T
  replace T := T.2 c14
  refine J_aload_n 25 rfl 0 0 rfl (Ob.rng ho) (D_X7_isNamed_0.at 12 rfl) ?_
  refine J_getF (ov := (o + 5)) (dd := 1005) 28 rfl fl_7_23 rfl (by decide) rfl ho (Ob.lt ho) (D_X7_isNamed_0.at 13 rfl) ?_
  refine J_iload_n 29 rfl 1 1 rfl (D_X7_isNamed_0.at 14 rfl) ?_
  refine J_callV (d' := 1) (sr := fun z => [vI z]) (as := [vI a1]) (st := []) (o := (o + 5)) 32 rfl ok_X4_indexOf im_X4_indexOf se_X4_indexOf ml_7_80 isC_4 (of_7_2 ho) (Ob.lt (of_7_2 ho)) rfl (by decide) ⟨Nat.le_refl _, Nat.le_refl _⟩ (Nat.le_of_ble_eq_true rfl) (D_X7_isNamed_0.at 15 rfl) (fun _ => rfl) T (fun r9 h10 T b11 => ?_)
  refine J_iconst 33 rfl (D_X7_isNamed_0.at 16 rfl) ?_
  obtain ⟨s12, T⟩ := T
  refine J_icmp_eq 36 rfl 40 s12 ⟨by decide, by decide⟩ (D_X7_isNamed_0.at 17 rfl) (by decide) (fun c13 => ?_) (fun c13 => ?_)
  · replace T := T.1 c13
    refine J_iconst 41 rfl (D_X7_isNamed_0.at 20 rfl) ?_
    exact J_zret rfl (Or.inl rfl) (D_X7_isNamed_0.at 21 rfl) T
  replace T := T.2 c13
  refine J_iconst 37 rfl (D_X7_isNamed_0.at 18 rfl) ?_
  refine J_goto 41 (D_X7_isNamed_0.at 19 rfl) (by decide) ?_
  exact J_zret rfl (Or.inr rfl) (D_X7_isNamed_0.at 21 rfl) T
theorem c_X4_add {w : Wd} {o a1 : Int} (ho : Ob 4 o) {nA : Nat} (hA : Ar 0 nA (o + 1)) {h : Hp} {K : Int → Hp → Prop} (T : C_X4_isFull w o h (fun r1 h2 => (r1 = 0 ∨ r1 = 1) → ((r1 ≠ 0) → (K 0 h2)) ∧ (¬ (r1 ≠ 0) → ((0 ≤ (h2 o 1) ∧ (h2 o 1) < nA) ∧ (∀ h5 : Hp, h5 = hu h2 (o + 1) (h2 o 1) a1 → ∀ h7 : Hp, h7 = hu h5 o 1 ((h5 o 1) + 1) → K 0 h7))))) : C_X4_add w o a1 h K := by
  refine CGm_of2 (by decide) (by decide) trivial (Nat.le_of_ble_eq_true rfl) ?_
  refine J_aload_n 1 rfl 0 0 rfl (Ob.rng ho) (D_X4_add_0.at 0 rfl) ?_
  refine J_callV (d' := 1) (sr := fun z => [vI z]) (as := []) (st := []) (o := o) 4 rfl ok_X4_isFull im_X4_isFull se_X4_isFull ml_4_25 isC_4 ho (Ob.lt ho) rfl (by decide) ⟨Nat.le_refl _, Nat.le_refl _⟩ (Nat.le_of_ble_eq_true rfl) (D_X4_add_0.at 1 rfl) (fun _ => rfl) T (fun r1 h2 T b3 => ?_)
  replace T := T b3
  refine J_if_ne 7 rfl 27 (inR_b b3) (D_X4_add_0.at 2 rfl) (by decide) (fun c9 => ?_) (fun c9 => ?_)
  · replace T := T.1 c9
    exact J_vret rfl (D_X4_add_0.at 15 rfl) T
  replace T := T.2 c9
  refine J_aload_n 8 rfl 0 0 rfl (Ob.rng ho) (D_X4_add_0.at 3 rfl) ?_
  refine J_getF (ov := (o + 1)) (dd := 1001) 11 rfl fl_4_15 rfl (by decide) rfl ho (Ob.lt ho) (D_X4_add_0.at 4 rfl) ?_
  refine J_aload_n 12 rfl 0 0 rfl (Ob.rng ho) (D_X4_add_0.at 5 rfl) ?_
  refine J_getI (z := (h2 o 1)) 15 rfl fl_4_21 rfl ho (Ob.lt ho) (D_X4_add_0.at 6 rfl) rfl ?_
  refine J_iload_n 16 rfl 1 1 rfl (D_X4_add_0.at 7 rfl) ?_
  obtain ⟨s4, T⟩ := T
  refine J_iastH 17 rfl hA (Ar.lt hA) s4 trivial (D_X4_add_0.at 8 rfl) (fun h5 e6 => ?_)
  replace T := T h5 e6
  refine J_aload_n 18 rfl 0 0 rfl (Ob.rng ho) (D_X4_add_0.at 9 rfl) ?_
  refine J_dup 19 rfl rfl (D_X4_add_0.at 10 rfl) ?_
  refine J_getI (z := (h5 o 1)) 22 rfl fl_4_21 rfl ho (Ob.lt ho) (D_X4_add_0.at 11 rfl) rfl ?_
  refine J_iconst 23 rfl (D_X4_add_0.at 12 rfl) ?_
  refine J_iadd 24 rfl (D_X4_add_0.at 13 rfl) ?_
  refine J_putI 27 rfl fl_4_21 rfl rfl ho (Ob.lt ho) (D_X4_add_0.at 14 rfl) (fun h7 e8 => ?_)
  replace T := T h7 e8
  exact J_vret rfl (D_X4_add_0.at 15 rfl) T
theorem c_X10_isDigitNext {w : Wd} {h : Hp} {K : Int → Hp → Prop} (T : C_X10_next w h (fun _ h2 => C_X10_byteAt w (h2 1 2) h2 (fun r4 h5 => (inR r4) ∧ (((r4 < 48) → (K 0 h5)) ∧ (¬ (r4 < 48) → ((inR r4) ∧ (((r4 > 57) → (K 0 h5)) ∧ (¬ (r4 > 57) → (K 1 h5))))))))) : C_X10_isDigitNext w h K := by
  refine CGm_of2 (by decide) (by decide) trivial (Nat.le_of_ble_eq_true rfl) ?_
  refine J_aload_n 1 rfl 0 0 rfl ⟨by decide, by decide⟩ (D_X10_isDigitNext_0.at 0 rfl) ?_
  refine J_callV (d' := 1) (sr := fun z => []) (as := []) (st := []) (o := 1) 4 rfl ok_X10_next im_X10_next se_X10_next ml_10_39 isC_10 ob_1 (Ob.lt ob_1) rfl (by decide) ⟨Nat.le_refl _, Nat.le_refl _⟩ (Nat.le_of_ble_eq_true rfl) (D_X10_isDigitNext_0.at 1 rfl) (fun _ => rfl) T (fun r1 h2 T b3 => ?_)
  refine J_aload_n 5 rfl 0 0 rfl ⟨by decide, by decide⟩ (D_X10_isDigitNext_0.at 2 rfl) ?_
  refine J_aload_n 6 rfl 0 0 rfl ⟨by decide, by decide⟩ (D_X10_isDigitNext_0.at 3 rfl) ?_
  refine J_getI (z := (h2 1 2)) 9 rfl fl_10_26 rfl ob_1 (Ob.lt ob_1) (D_X10_isDigitNext_0.at 4 rfl) rfl ?_
  refine J_callV (d' := 1) (sr := fun z => [vI z]) (as := [vI (h2 1 2)]) (st := []) (o := 1) 12 rfl ok_X10_byteAt im_X10_byteAt se_X10_byteAt ml_10_22 isC_10 ob_1 (Ob.lt ob_1) rfl (by decide) ⟨Nat.le_refl _, Nat.le_refl _⟩ (Nat.le_of_ble_eq_true rfl) (D_X10_isDigitNext_0.at 5 rfl) (fun _ => rfl) T (fun r4 h5 T b6 => ?_)
  refine J_callS (d' := 1) (K1 := fun z h0 => rok (some .boolean) z → JG w true m_X10_isDigitNext 2 NT NT 15 [(0, vR 1)] [vI z] h0 _) (sr := fun z => [vI z]) (as := [vI r4]) (st := []) 15 rfl ok_X10_isDigit sm_X10_isDigit ml_10_42 rfl (by decide) ⟨Nat.le_refl _, Nat.le_refl _⟩ (Nat.le_of_ble_eq_true rfl) (D_X10_isDigitNext_0.at 6 rfl) (fun _ => rfl) (CGm_of2 (by decide) (by decide) trivial (Nat.le_of_ble_eq_true rfl) ?_) (fun _ _ kq hb => kq hb)
  refine J_iload_n 1 rfl 0 0 rfl (D_X10_isDigit_0.at 0 rfl) ?_
  refine J_bipush 3 rfl ⟨by decide, by decide⟩ (D_X10_isDigit_0.at 1 rfl) ?_
  obtain ⟨s7, T⟩ := T
  refine J_icmp_lt 6 rfl 16 s7 ⟨by decide, by decide⟩ (D_X10_isDigit_0.at 2 rfl) (by decide) (fun c10 => ?_) (fun c10 => ?_)
  · replace T := T.1 c10
    refine J_iconst 17 rfl (D_X10_isDigit_0.at 8 rfl) ?_
    refine J_zret rfl (Or.inl rfl) (D_X10_isDigit_0.at 9 rfl) (fun _ => ?_)
    exact J_zret rfl (Or.inl rfl) (D_X10_isDigitNext_0.at 7 rfl) T
  replace T := T.2 c10
  refine J_iload_n 7 rfl 0 0 rfl (D_X10_isDigit_0.at 3 rfl) ?_
  refine J_bipush 9 rfl ⟨by decide, by decide⟩ (D_X10_isDigit_0.at 4 rfl) ?_
  obtain ⟨s8, T⟩ := T
  refine J_icmp_gt 12 rfl 16 s8 ⟨by decide, by decide⟩ (D_X10_isDigit_0.at 5 rfl) (by decide) (fun c9 => ?_) (fun c9 => ?_)
  · replace T := T.1 c9
    refine J_iconst 17 rfl (D_X10_isDigit_0.at 8 rfl) ?_
    refine J_zret rfl (Or.inl rfl) (D_X10_isDigit_0.at 9 rfl) (fun _ => ?_)
    exact J_zret rfl (Or.inl rfl) (D_X10_isDigitNext_0.at 7 rfl) T
  replace T := T.2 c9
  refine J_iconst 13 rfl (D_X10_isDigit_0.at 6 rfl) ?_
  refine J_goto 17 (D_X10_isDigit_0.at 7 rfl) (by decide) ?_
  refine J_zret rfl (Or.inr rfl) (D_X10_isDigit_0.at 9 rfl) (fun _ => ?_)
  exact J_zret rfl (Or.inr rfl) (D_X10_isDigitNext_0.at 7 rfl) T
theorem c_X10_sign {w : Wd} {a1 : Int} {h : Hp} {K : Int → Hp → Prop} (T : C_X10_next w h (fun _ h2 => C_X10_byteAt w (h2 1 2) h2 (fun r4 h5 => (inR r4) ∧ ((inR a1) ∧ (((r4 = a1) → (∀ h9 : Hp, h9 = hu h5 1 2 ((h5 1 2) + 1) → K 1 h9)) ∧ (¬ (r4 = a1) → (K 0 h5))))))) : C_X10_sign w a1 h K := by
  refine CGm_of2 (by decide) (by decide) trivial (Nat.le_of_ble_eq_true rfl) ?_
  refine J_aload_n 1 rfl 0 0 rfl ⟨by decide, by decide⟩ (D_X10_sign_0.at 0 rfl) ?_
  refine J_callV (d' := 1) (sr := fun z => []) (as := []) (st := []) (o := 1) 4 rfl ok_X10_next im_X10_next se_X10_next ml_10_39 isC_10 ob_1 (Ob.lt ob_1) rfl (by decide) ⟨Nat.le_refl _, Nat.le_refl _⟩ (Nat.le_of_ble_eq_true rfl) (D_X10_sign_0.at 1 rfl) (fun _ => rfl) T (fun r1 h2 T b3 => ?_)
  refine J_aload_n 5 rfl 0 0 rfl ⟨by decide, by decide⟩ (D_X10_sign_0.at 2 rfl) ?_
  refine J_aload_n 6 rfl 0 0 rfl ⟨by decide, by decide⟩ (D_X10_sign_0.at 3 rfl) ?_
  refine J_getI (z := (h2 1 2)) 9 rfl fl_10_26 rfl ob_1 (Ob.lt ob_1) (D_X10_sign_0.at 4 rfl) rfl ?_
  refine J_callV (d' := 1) (sr := fun z => [vI z]) (as := [vI (h2 1 2)]) (st := []) (o := 1) 12 rfl ok_X10_byteAt im_X10_byteAt se_X10_byteAt ml_10_22 isC_10 ob_1 (Ob.lt ob_1) rfl (by decide) ⟨Nat.le_refl _, Nat.le_refl _⟩ (Nat.le_of_ble_eq_true rfl) (D_X10_sign_0.at 5 rfl) (fun _ => rfl) T (fun r4 h5 T b6 => ?_)
  refine J_iload_n 13 rfl 1 1 rfl (D_X10_sign_0.at 6 rfl) ?_
  obtain ⟨s7, T⟩ := T
  obtain ⟨s8, T⟩ := T
  refine J_icmp_eq 16 rfl 18 s7 s8 (D_X10_sign_0.at 7 rfl) (by decide) (fun c11 => ?_) (fun c11 => ?_)
  · replace T := T.1 c11
    refine J_aload_n 19 rfl 0 0 rfl ⟨by decide, by decide⟩ (D_X10_sign_0.at 10 rfl) ?_
    refine J_dup 20 rfl rfl (D_X10_sign_0.at 11 rfl) ?_
    refine J_getI (z := (h5 1 2)) 23 rfl fl_10_26 rfl ob_1 (Ob.lt ob_1) (D_X10_sign_0.at 12 rfl) rfl ?_
    refine J_iconst 24 rfl (D_X10_sign_0.at 13 rfl) ?_
    refine J_iadd 25 rfl (D_X10_sign_0.at 14 rfl) ?_
    refine J_putI 28 rfl fl_10_26 rfl rfl ob_1 (Ob.lt ob_1) (D_X10_sign_0.at 15 rfl) (fun h9 e10 => ?_)
    replace T := T h9 e10
    refine J_iconst 29 rfl (D_X10_sign_0.at 16 rfl) ?_
    exact J_zret rfl (Or.inr rfl) (D_X10_sign_0.at 17 rfl) T
  replace T := T.2 c11
  refine J_iconst 17 rfl (D_X10_sign_0.at 8 rfl) ?_
  exact J_zret rfl (Or.inl rfl) (D_X10_sign_0.at 9 rfl) T
theorem c_X9_lyingOf {w : Wd} {o a1 : Int} (ho : Ob 9 o) {h : Hp} {K : Int → Hp → Prop} (T : L_X9_lyingOf_4 w o a1 0 0 h K) : C_X9_lyingOf w o a1 h K := by
  refine CGm_of2 (by decide) (by decide) trivial (Nat.le_of_ble_eq_true rfl) ?_
  refine J_iconst 1 rfl (D_X9_lyingOf_0.at 0 rfl) ?_
  refine J_istore_n (lv' := [(2, vI 0), (0, vR o), (1, vI a1)]) 2 rfl 2 (by decide) rfl (D_X9_lyingOf_0.at 1 rfl) ?_
  refine J_iconst 3 rfl (D_X9_lyingOf_0.at 2 rfl) ?_
  refine J_istore_n (lv' := [(3, vI 0), (2, vI 0), (0, vR o), (1, vI a1)]) 4 rfl 3 (by decide) rfl (D_X9_lyingOf_0.at 3 rfl) ?_
  exact J_sub (lv' := [(0, vR o), (1, vI a1), (2, vI 0), (3, vI 0)]) [2, 3, 1, 0] rfl T
theorem l_X9_lyingOf_4 {w : Wd} {o v1 v2 v3 : Int} (ho : Ob 9 o) {h : Hp} {K : Int → Hp → Prop} (T : (inR v3) ∧ (((v3 ≥ 8) → (K v2 h)) ∧ (¬ (v3 ≥ 8) → ((0 ≤ ((v3 * 10) + v1) ∧ ((v3 * 10) + v1) < 80) ∧ (L_X9_lyingOf_4 w o v1 (v2 + (h (o + 2) ((v3 * 10) + v1))) (v3 + 1) h K))))) : L_X9_lyingOf_4 w o v1 v2 v3 h K := by
  unfold L_X9_lyingOf_4
  refine J_iload_n 5 rfl 3 3 rfl (D_X9_lyingOf_0.at 4 rfl) ?_
  refine J_bipush 7 rfl ⟨by decide, by decide⟩ (D_X9_lyingOf_0.at 5 rfl) ?_
  obtain ⟨s1, T⟩ := T
  refine J_icmp_ge 10 rfl 29 s1 ⟨by decide, by decide⟩ (D_X9_lyingOf_0.at 6 rfl) (by decide) (fun c3 => ?_) (fun c3 => ?_)
  · replace T := T.1 c3
    refine J_iload_n 30 rfl 2 2 rfl (D_X9_lyingOf_0.at 18 rfl) ?_
    exact J_iret rfl (D_X9_lyingOf_0.at 19 rfl) T
  replace T := T.2 c3
  refine J_iload_n 11 rfl 2 2 rfl (D_X9_lyingOf_0.at 7 rfl) ?_
  refine J_aload_n 12 rfl 0 0 rfl (Ob.rng ho) (D_X9_lyingOf_0.at 8 rfl) ?_
  refine J_getF (ov := (o + 2)) (dd := 1002) 15 rfl fl_9_15 rfl (by decide) rfl ho (Ob.lt ho) (D_X9_lyingOf_0.at 9 rfl) ?_
  refine J_iload_n 16 rfl 3 3 rfl (D_X9_lyingOf_0.at 10 rfl) ?_
  refine J_iload_n 17 rfl 1 1 rfl (D_X9_lyingOf_0.at 11 rfl) ?_
  refine J_callSN (d' := 1) (K1 := fun z h0 => rok (some .int) z → JG w true m_X9_lyingOf 2 NT NT 20 [(0, vR o), (1, vI v1), (2, vI v2), (3, vI v3)] [vI z, vR (o + 2), vI v2] h0 _) (sr := fun z => [vI z, vR (o + 2), vI v2]) (as := [vI v3, vI v1]) (st := [vR (o + 2), vI v2]) 20 rfl ok_X11_cell sm_X11_cell ml_9_39 rfl (by decide) ⟨Nat.le_refl _, Nat.le_refl _⟩ (Nat.le_of_ble_eq_true rfl) (D_X9_lyingOf_0.at 12 rfl) (fun _ => rfl) (CGm_of2 (by decide) (by decide) trivial (Nat.le_of_ble_eq_true rfl) ?_) (fun _ _ kq hb => kq hb)
  refine J_iload_n 1 rfl 0 0 rfl (D_X11_cell_0.at 0 rfl) ?_
  refine J_bipush 3 rfl ⟨by decide, by decide⟩ (D_X11_cell_0.at 1 rfl) ?_
  refine J_imul 4 rfl (D_X11_cell_0.at 2 rfl) ?_
  refine J_iload_n 5 rfl 1 1 rfl (D_X11_cell_0.at 3 rfl) ?_
  refine J_iadd 6 rfl (D_X11_cell_0.at 4 rfl) ?_
  refine J_iret rfl (D_X11_cell_0.at 5 rfl) (fun _ => ?_)
  obtain ⟨s2, T⟩ := T
  refine J_iald 21 rfl (of_9_1 ho) (Ar.lt (of_9_1 ho)) s2 (D_X9_lyingOf_0.at 13 rfl) ?_
  refine J_iadd 22 rfl (D_X9_lyingOf_0.at 14 rfl) ?_
  refine J_istore_n (lv' := [(2, vI (v2 + (h (o + 2) ((v3 * 10) + v1)))), (0, vR o), (1, vI v1), (3, vI v3)]) 23 rfl 2 (by decide) rfl (D_X9_lyingOf_0.at 15 rfl) ?_
  refine J_iinc (v := (v3 + 1)) (lv' := [(3, vI (v3 + 1)), (2, vI (v2 + (h (o + 2) ((v3 * 10) + v1)))), (0, vR o), (1, vI v1)]) 26 rfl 3 3 1 rfl rfl (by decide) rfl (D_X9_lyingOf_0.at 16 rfl) ?_
  refine J_goto 4 (D_X9_lyingOf_0.at 17 rfl) (by decide) ?_
  exact J_sub (lv' := [(0, vR o), (1, vI v1), (2, vI (v2 + (h (o + 2) ((v3 * 10) + v1)))), (3, vI (v3 + 1))]) [2, 3, 1, 0] rfl T
theorem c_X9_lyingIn {w : Wd} {o a1 : Int} (ho : Ob 9 o) {h : Hp} {K : Int → Hp → Prop} (T : L_X9_lyingIn_4 w o a1 0 0 h K) : C_X9_lyingIn w o a1 h K := by
  refine CGm_of2 (by decide) (by decide) trivial (Nat.le_of_ble_eq_true rfl) ?_
  refine J_iconst 1 rfl (D_X9_lyingIn_0.at 0 rfl) ?_
  refine J_istore_n (lv' := [(2, vI 0), (0, vR o), (1, vI a1)]) 2 rfl 2 (by decide) rfl (D_X9_lyingIn_0.at 1 rfl) ?_
  refine J_iconst 3 rfl (D_X9_lyingIn_0.at 2 rfl) ?_
  refine J_istore_n (lv' := [(3, vI 0), (2, vI 0), (0, vR o), (1, vI a1)]) 4 rfl 3 (by decide) rfl (D_X9_lyingIn_0.at 3 rfl) ?_
  exact J_sub (lv' := [(0, vR o), (1, vI a1), (2, vI 0), (3, vI 0)]) [2, 3, 1, 0] rfl T
theorem l_X9_lyingIn_4 {w : Wd} {o v1 v2 v3 : Int} (ho : Ob 9 o) {h : Hp} {K : Int → Hp → Prop} (T : (inR v3) ∧ (((v3 ≥ 10) → (K v2 h)) ∧ (¬ (v3 ≥ 10) → ((0 ≤ ((v1 * 10) + v3) ∧ ((v1 * 10) + v3) < 80) ∧ (L_X9_lyingIn_4 w o v1 (v2 + (h (o + 2) ((v1 * 10) + v3))) (v3 + 1) h K))))) : L_X9_lyingIn_4 w o v1 v2 v3 h K := by
  unfold L_X9_lyingIn_4
  refine J_iload_n 5 rfl 3 3 rfl (D_X9_lyingIn_0.at 4 rfl) ?_
  refine J_bipush 7 rfl ⟨by decide, by decide⟩ (D_X9_lyingIn_0.at 5 rfl) ?_
  obtain ⟨s1, T⟩ := T
  refine J_icmp_ge 10 rfl 29 s1 ⟨by decide, by decide⟩ (D_X9_lyingIn_0.at 6 rfl) (by decide) (fun c3 => ?_) (fun c3 => ?_)
  · replace T := T.1 c3
    refine J_iload_n 30 rfl 2 2 rfl (D_X9_lyingIn_0.at 18 rfl) ?_
    exact J_iret rfl (D_X9_lyingIn_0.at 19 rfl) T
  replace T := T.2 c3
  refine J_iload_n 11 rfl 2 2 rfl (D_X9_lyingIn_0.at 7 rfl) ?_
  refine J_aload_n 12 rfl 0 0 rfl (Ob.rng ho) (D_X9_lyingIn_0.at 8 rfl) ?_
  refine J_getF (ov := (o + 2)) (dd := 1002) 15 rfl fl_9_15 rfl (by decide) rfl ho (Ob.lt ho) (D_X9_lyingIn_0.at 9 rfl) ?_
  refine J_iload_n 16 rfl 1 1 rfl (D_X9_lyingIn_0.at 10 rfl) ?_
  refine J_iload_n 17 rfl 3 3 rfl (D_X9_lyingIn_0.at 11 rfl) ?_
  refine J_callSN (d' := 1) (K1 := fun z h0 => rok (some .int) z → JG w true m_X9_lyingIn 2 NT NT 20 [(0, vR o), (1, vI v1), (2, vI v2), (3, vI v3)] [vI z, vR (o + 2), vI v2] h0 _) (sr := fun z => [vI z, vR (o + 2), vI v2]) (as := [vI v1, vI v3]) (st := [vR (o + 2), vI v2]) 20 rfl ok_X11_cell sm_X11_cell ml_9_39 rfl (by decide) ⟨Nat.le_refl _, Nat.le_refl _⟩ (Nat.le_of_ble_eq_true rfl) (D_X9_lyingIn_0.at 12 rfl) (fun _ => rfl) (CGm_of2 (by decide) (by decide) trivial (Nat.le_of_ble_eq_true rfl) ?_) (fun _ _ kq hb => kq hb)
  refine J_iload_n 1 rfl 0 0 rfl (D_X11_cell_0.at 0 rfl) ?_
  refine J_bipush 3 rfl ⟨by decide, by decide⟩ (D_X11_cell_0.at 1 rfl) ?_
  refine J_imul 4 rfl (D_X11_cell_0.at 2 rfl) ?_
  refine J_iload_n 5 rfl 1 1 rfl (D_X11_cell_0.at 3 rfl) ?_
  refine J_iadd 6 rfl (D_X11_cell_0.at 4 rfl) ?_
  refine J_iret rfl (D_X11_cell_0.at 5 rfl) (fun _ => ?_)
  obtain ⟨s2, T⟩ := T
  refine J_iald 21 rfl (of_9_1 ho) (Ar.lt (of_9_1 ho)) s2 (D_X9_lyingIn_0.at 13 rfl) ?_
  refine J_iadd 22 rfl (D_X9_lyingIn_0.at 14 rfl) ?_
  refine J_istore_n (lv' := [(2, vI (v2 + (h (o + 2) ((v1 * 10) + v3)))), (0, vR o), (1, vI v1), (3, vI v3)]) 23 rfl 2 (by decide) rfl (D_X9_lyingIn_0.at 15 rfl) ?_
  refine J_iinc (v := (v3 + 1)) (lv' := [(3, vI (v3 + 1)), (2, vI (v2 + (h (o + 2) ((v1 * 10) + v3)))), (0, vR o), (1, vI v1)]) 26 rfl 3 3 1 rfl rfl (by decide) rfl (D_X9_lyingIn_0.at 16 rfl) ?_
  refine J_goto 4 (D_X9_lyingIn_0.at 17 rfl) (by decide) ?_
  exact J_sub (lv' := [(0, vR o), (1, vI v1), (2, vI (v2 + (h (o + 2) ((v1 * 10) + v3)))), (3, vI (v3 + 1))]) [2, 3, 1, 0] rfl T
theorem c_X9_owned {w : Wd} {o a1 a2 a3 : Int} (ho : Ob 9 o) (ha1 : Ob 7 a1) {h : Hp} {K : Int → Hp → Prop} (T : L_X9_owned_6 w o a1 a2 a3 0 0 h K) : C_X9_owned w o a1 a2 a3 h K := by
  refine CGm_of2 (by decide) (by decide) trivial (Nat.le_of_ble_eq_true rfl) ?_
  refine J_iconst 1 rfl (D_X9_owned_0.at 0 rfl) ?_
  refine J_istore (lv' := [(4, vI 0), (0, vR o), (1, vR a1), (2, vI a2), (3, vI a3)]) 3 rfl 4 (by decide) rfl (D_X9_owned_0.at 1 rfl) ?_
  refine J_iconst 4 rfl (D_X9_owned_0.at 2 rfl) ?_
  refine J_istore (lv' := [(5, vI 0), (4, vI 0), (0, vR o), (1, vR a1), (2, vI a2), (3, vI a3)]) 6 rfl 5 (by decide) rfl (D_X9_owned_0.at 3 rfl) ?_
  exact J_sub (lv' := [(0, vR o), (1, vR a1), (2, vI a2), (3, vI a3), (4, vI 0), (5, vI 0)]) [2, 3, 4, 5, 1, 0] rfl T
theorem l_X9_owned_6 {w : Wd} {o v1 v2 v3 v4 v5 : Int} (ho : Ob 9 o) (hv1 : Ob 7 v1) {h : Hp} {K : Int → Hp → Prop} (T : (inR v5) ∧ ((inR (h (v1 + 5) 1)) ∧ (((v5 ≥ (h (v1 + 5) 1)) → (K v4 h)) ∧ (¬ (v5 ≥ (h (v1 + 5) 1)) → ((0 ≤ v5 ∧ v5 < 10) ∧ ((inR (h (v1 + 8) v5)) ∧ ((inR v3) ∧ ((((h (v1 + 8) v5) ≠ v3) → (L_X9_owned_6 w o v1 v2 v3 (v4 + 0) (v5 + 1) h K)) ∧ (¬ ((h (v1 + 8) v5) ≠ v3) → ((0 ≤ ((v2 * 10) + v5) ∧ ((v2 * 10) + v5) < 80) ∧ (L_X9_owned_6 w o v1 v2 v3 (v4 + (h (o + 2) ((v2 * 10) + v5))) (v5 + 1) h K))))))))))) : L_X9_owned_6 w o v1 v2 v3 v4 v5 h K := by
  unfold L_X9_owned_6
  refine J_iload 8 rfl 5 5 rfl (D_X9_owned_0.at 4 rfl) ?_
  refine J_aload_n 9 rfl 1 1 rfl (Ob.rng hv1) (D_X9_owned_0.at 5 rfl) ?_
  refine J_getF (ov := (v1 + 5)) (dd := 1005) 12 rfl fl_9_43 rfl (by decide) rfl hv1 (Ob.lt hv1) (D_X9_owned_0.at 6 rfl) ?_
  refine J_getI (z := (h (v1 + 5) 1)) 15 rfl fl_9_47 rfl (of_7_2 hv1) (Ob.lt (of_7_2 hv1)) (D_X9_owned_0.at 7 rfl) rfl ?_
  obtain ⟨s1, T⟩ := T
  obtain ⟨s2, T⟩ := T
  refine J_icmp_ge 18 rfl 55 s1 s2 (D_X9_owned_0.at 8 rfl) (by decide) (fun c8 => ?_) (fun c8 => ?_)
  · replace T := T.1 c8
    refine J_iload 57 rfl 4 4 rfl (D_X9_owned_0.at 28 rfl) ?_
    exact J_iret rfl (D_X9_owned_0.at 29 rfl) T
  replace T := T.2 c8
  refine J_iload 20 rfl 4 4 rfl (D_X9_owned_0.at 9 rfl) ?_
  refine J_aload_n 21 rfl 1 1 rfl (Ob.rng hv1) (D_X9_owned_0.at 10 rfl) ?_
  refine J_getF (ov := (v1 + 8)) (dd := 1008) 24 rfl fl_9_52 rfl (by decide) rfl hv1 (Ob.lt hv1) (D_X9_owned_0.at 11 rfl) ?_
  refine J_iload 26 rfl 5 5 rfl (D_X9_owned_0.at 12 rfl) ?_
  obtain ⟨s3, T⟩ := T
  refine J_iald 27 rfl (of_7_4 hv1) (Ar.lt (of_7_4 hv1)) s3 (D_X9_owned_0.at 13 rfl) ?_
  refine J_iload_n 28 rfl 3 3 rfl (D_X9_owned_0.at 14 rfl) ?_
  obtain ⟨s4, T⟩ := T
  obtain ⟨s5, T⟩ := T
  refine J_icmp_ne 31 rfl 45 s4 s5 (D_X9_owned_0.at 15 rfl) (by decide) (fun c7 => ?_) (fun c7 => ?_)
  · replace T := T.1 c7
    refine J_iconst 46 rfl (D_X9_owned_0.at 23 rfl) ?_
    refine J_iadd 47 rfl (D_X9_owned_0.at 24 rfl) ?_
    refine J_istore (lv' := [(4, vI (v4 + 0)), (0, vR o), (1, vR v1), (2, vI v2), (3, vI v3), (5, vI v5)]) 49 rfl 4 (by decide) rfl (D_X9_owned_0.at 25 rfl) ?_
    refine J_iinc (v := (v5 + 1)) (lv' := [(5, vI (v5 + 1)), (4, vI (v4 + 0)), (0, vR o), (1, vR v1), (2, vI v2), (3, vI v3)]) 52 rfl 5 5 1 rfl rfl (by decide) rfl (D_X9_owned_0.at 26 rfl) ?_
    refine J_goto 6 (D_X9_owned_0.at 27 rfl) (by decide) ?_
    exact J_sub (lv' := [(0, vR o), (1, vR v1), (2, vI v2), (3, vI v3), (4, vI (v4 + 0)), (5, vI (v5 + 1))]) [2, 3, 4, 5, 1, 0] rfl T
  replace T := T.2 c7
  refine J_aload_n 32 rfl 0 0 rfl (Ob.rng ho) (D_X9_owned_0.at 16 rfl) ?_
  refine J_getF (ov := (o + 2)) (dd := 1002) 35 rfl fl_9_15 rfl (by decide) rfl ho (Ob.lt ho) (D_X9_owned_0.at 17 rfl) ?_
  refine J_iload_n 36 rfl 2 2 rfl (D_X9_owned_0.at 18 rfl) ?_
  refine J_iload 38 rfl 5 5 rfl (D_X9_owned_0.at 19 rfl) ?_
  refine J_callSN (d' := 1) (K1 := fun z h0 => rok (some .int) z → JG w true m_X9_owned 2 NT NT 41 [(0, vR o), (1, vR v1), (2, vI v2), (3, vI v3), (4, vI v4), (5, vI v5)] [vI z, vR (o + 2), vI v4] h0 _) (sr := fun z => [vI z, vR (o + 2), vI v4]) (as := [vI v2, vI v5]) (st := [vR (o + 2), vI v4]) 41 rfl ok_X11_cell sm_X11_cell ml_9_39 rfl (by decide) ⟨Nat.le_refl _, Nat.le_refl _⟩ (Nat.le_of_ble_eq_true rfl) (D_X9_owned_0.at 20 rfl) (fun _ => rfl) (CGm_of2 (by decide) (by decide) trivial (Nat.le_of_ble_eq_true rfl) ?_) (fun _ _ kq hb => kq hb)
  refine J_iload_n 1 rfl 0 0 rfl (D_X11_cell_0.at 0 rfl) ?_
  refine J_bipush 3 rfl ⟨by decide, by decide⟩ (D_X11_cell_0.at 1 rfl) ?_
  refine J_imul 4 rfl (D_X11_cell_0.at 2 rfl) ?_
  refine J_iload_n 5 rfl 1 1 rfl (D_X11_cell_0.at 3 rfl) ?_
  refine J_iadd 6 rfl (D_X11_cell_0.at 4 rfl) ?_
  refine J_iret rfl (D_X11_cell_0.at 5 rfl) (fun _ => ?_)
  obtain ⟨s6, T⟩ := T
  refine J_iald 42 rfl (of_9_1 ho) (Ar.lt (of_9_1 ho)) s6 (D_X9_owned_0.at 21 rfl) ?_
  refine J_goto 46 (D_X9_owned_0.at 22 rfl) (by decide) ?_
  refine J_iadd 47 rfl (D_X9_owned_0.at 24 rfl) ?_
  refine J_istore (lv' := [(4, vI (v4 + (h (o + 2) ((v2 * 10) + v5)))), (0, vR o), (1, vR v1), (2, vI v2), (3, vI v3), (5, vI v5)]) 49 rfl 4 (by decide) rfl (D_X9_owned_0.at 25 rfl) ?_
  refine J_iinc (v := (v5 + 1)) (lv' := [(5, vI (v5 + 1)), (4, vI (v4 + (h (o + 2) ((v2 * 10) + v5)))), (0, vR o), (1, vR v1), (2, vI v2), (3, vI v3)]) 52 rfl 5 5 1 rfl rfl (by decide) rfl (D_X9_owned_0.at 26 rfl) ?_
  refine J_goto 6 (D_X9_owned_0.at 27 rfl) (by decide) ?_
  exact J_sub (lv' := [(0, vR o), (1, vR v1), (2, vI v2), (3, vI v3), (4, vI (v4 + (h (o + 2) ((v2 * 10) + v5)))), (5, vI (v5 + 1))]) [2, 3, 4, 5, 1, 0] rfl T
theorem c_X9_coloured {w : Wd} {o a1 a2 a3 : Int} (ho : Ob 9 o) (ha1 : Ob 7 a1) {h : Hp} {K : Int → Hp → Prop} (T : L_X9_coloured_6 w o a1 a2 a3 0 0 h K) : C_X9_coloured w o a1 a2 a3 h K := by
  refine CGm_of2 (by decide) (by decide) trivial (Nat.le_of_ble_eq_true rfl) ?_
  refine J_iconst 1 rfl (D_X9_coloured_0.at 0 rfl) ?_
  refine J_istore (lv' := [(4, vI 0), (0, vR o), (1, vR a1), (2, vI a2), (3, vI a3)]) 3 rfl 4 (by decide) rfl (D_X9_coloured_0.at 1 rfl) ?_
  refine J_iconst 4 rfl (D_X9_coloured_0.at 2 rfl) ?_
  refine J_istore (lv' := [(5, vI 0), (4, vI 0), (0, vR o), (1, vR a1), (2, vI a2), (3, vI a3)]) 6 rfl 5 (by decide) rfl (D_X9_coloured_0.at 3 rfl) ?_
  exact J_sub (lv' := [(0, vR o), (1, vR a1), (2, vI a2), (3, vI a3), (4, vI 0), (5, vI 0)]) [2, 3, 4, 5, 1, 0] rfl T
theorem l_X9_coloured_6 {w : Wd} {o v1 v2 v3 v4 v5 : Int} (ho : Ob 9 o) (hv1 : Ob 7 v1) {h : Hp} {K : Int → Hp → Prop} (T : (inR v5) ∧ ((inR (h (v1 + 5) 1)) ∧ (((v5 ≥ (h (v1 + 5) 1)) → (K v4 h)) ∧ (¬ (v5 ≥ (h (v1 + 5) 1)) → ((0 ≤ v5 ∧ v5 < 10) ∧ ((inR (h (v1 + 9) v5)) ∧ ((inR v3) ∧ ((((h (v1 + 9) v5) ≠ v3) → (L_X9_coloured_6 w o v1 v2 v3 (v4 + 0) (v5 + 1) h K)) ∧ (¬ ((h (v1 + 9) v5) ≠ v3) → ((0 ≤ ((v2 * 10) + v5) ∧ ((v2 * 10) + v5) < 80) ∧ (L_X9_coloured_6 w o v1 v2 v3 (v4 + (h (o + 2) ((v2 * 10) + v5))) (v5 + 1) h K))))))))))) : L_X9_coloured_6 w o v1 v2 v3 v4 v5 h K := by
  unfold L_X9_coloured_6
  refine J_iload 8 rfl 5 5 rfl (D_X9_coloured_0.at 4 rfl) ?_
  refine J_aload_n 9 rfl 1 1 rfl (Ob.rng hv1) (D_X9_coloured_0.at 5 rfl) ?_
  refine J_getF (ov := (v1 + 5)) (dd := 1005) 12 rfl fl_9_43 rfl (by decide) rfl hv1 (Ob.lt hv1) (D_X9_coloured_0.at 6 rfl) ?_
  refine J_getI (z := (h (v1 + 5) 1)) 15 rfl fl_9_47 rfl (of_7_2 hv1) (Ob.lt (of_7_2 hv1)) (D_X9_coloured_0.at 7 rfl) rfl ?_
  obtain ⟨s1, T⟩ := T
  obtain ⟨s2, T⟩ := T
  refine J_icmp_ge 18 rfl 55 s1 s2 (D_X9_coloured_0.at 8 rfl) (by decide) (fun c8 => ?_) (fun c8 => ?_)
  · replace T := T.1 c8
    refine J_iload 57 rfl 4 4 rfl (D_X9_coloured_0.at 28 rfl) ?_
    exact J_iret rfl (D_X9_coloured_0.at 29 rfl) T
  replace T := T.2 c8
  refine J_iload 20 rfl 4 4 rfl (D_X9_coloured_0.at 9 rfl) ?_
  refine J_aload_n 21 rfl 1 1 rfl (Ob.rng hv1) (D_X9_coloured_0.at 10 rfl) ?_
  refine J_getF (ov := (v1 + 9)) (dd := 1009) 24 rfl fl_9_55 rfl (by decide) rfl hv1 (Ob.lt hv1) (D_X9_coloured_0.at 11 rfl) ?_
  refine J_iload 26 rfl 5 5 rfl (D_X9_coloured_0.at 12 rfl) ?_
  obtain ⟨s3, T⟩ := T
  refine J_iald 27 rfl (of_7_5 hv1) (Ar.lt (of_7_5 hv1)) s3 (D_X9_coloured_0.at 13 rfl) ?_
  refine J_iload_n 28 rfl 3 3 rfl (D_X9_coloured_0.at 14 rfl) ?_
  obtain ⟨s4, T⟩ := T
  obtain ⟨s5, T⟩ := T
  refine J_icmp_ne 31 rfl 45 s4 s5 (D_X9_coloured_0.at 15 rfl) (by decide) (fun c7 => ?_) (fun c7 => ?_)
  · replace T := T.1 c7
    refine J_iconst 46 rfl (D_X9_coloured_0.at 23 rfl) ?_
    refine J_iadd 47 rfl (D_X9_coloured_0.at 24 rfl) ?_
    refine J_istore (lv' := [(4, vI (v4 + 0)), (0, vR o), (1, vR v1), (2, vI v2), (3, vI v3), (5, vI v5)]) 49 rfl 4 (by decide) rfl (D_X9_coloured_0.at 25 rfl) ?_
    refine J_iinc (v := (v5 + 1)) (lv' := [(5, vI (v5 + 1)), (4, vI (v4 + 0)), (0, vR o), (1, vR v1), (2, vI v2), (3, vI v3)]) 52 rfl 5 5 1 rfl rfl (by decide) rfl (D_X9_coloured_0.at 26 rfl) ?_
    refine J_goto 6 (D_X9_coloured_0.at 27 rfl) (by decide) ?_
    exact J_sub (lv' := [(0, vR o), (1, vR v1), (2, vI v2), (3, vI v3), (4, vI (v4 + 0)), (5, vI (v5 + 1))]) [2, 3, 4, 5, 1, 0] rfl T
  replace T := T.2 c7
  refine J_aload_n 32 rfl 0 0 rfl (Ob.rng ho) (D_X9_coloured_0.at 16 rfl) ?_
  refine J_getF (ov := (o + 2)) (dd := 1002) 35 rfl fl_9_15 rfl (by decide) rfl ho (Ob.lt ho) (D_X9_coloured_0.at 17 rfl) ?_
  refine J_iload_n 36 rfl 2 2 rfl (D_X9_coloured_0.at 18 rfl) ?_
  refine J_iload 38 rfl 5 5 rfl (D_X9_coloured_0.at 19 rfl) ?_
  refine J_callSN (d' := 1) (K1 := fun z h0 => rok (some .int) z → JG w true m_X9_coloured 2 NT NT 41 [(0, vR o), (1, vR v1), (2, vI v2), (3, vI v3), (4, vI v4), (5, vI v5)] [vI z, vR (o + 2), vI v4] h0 _) (sr := fun z => [vI z, vR (o + 2), vI v4]) (as := [vI v2, vI v5]) (st := [vR (o + 2), vI v4]) 41 rfl ok_X11_cell sm_X11_cell ml_9_39 rfl (by decide) ⟨Nat.le_refl _, Nat.le_refl _⟩ (Nat.le_of_ble_eq_true rfl) (D_X9_coloured_0.at 20 rfl) (fun _ => rfl) (CGm_of2 (by decide) (by decide) trivial (Nat.le_of_ble_eq_true rfl) ?_) (fun _ _ kq hb => kq hb)
  refine J_iload_n 1 rfl 0 0 rfl (D_X11_cell_0.at 0 rfl) ?_
  refine J_bipush 3 rfl ⟨by decide, by decide⟩ (D_X11_cell_0.at 1 rfl) ?_
  refine J_imul 4 rfl (D_X11_cell_0.at 2 rfl) ?_
  refine J_iload_n 5 rfl 1 1 rfl (D_X11_cell_0.at 3 rfl) ?_
  refine J_iadd 6 rfl (D_X11_cell_0.at 4 rfl) ?_
  refine J_iret rfl (D_X11_cell_0.at 5 rfl) (fun _ => ?_)
  obtain ⟨s6, T⟩ := T
  refine J_iald 42 rfl (of_9_1 ho) (Ar.lt (of_9_1 ho)) s6 (D_X9_coloured_0.at 21 rfl) ?_
  refine J_goto 46 (D_X9_coloured_0.at 22 rfl) (by decide) ?_
  refine J_iadd 47 rfl (D_X9_coloured_0.at 24 rfl) ?_
  refine J_istore (lv' := [(4, vI (v4 + (h (o + 2) ((v2 * 10) + v5)))), (0, vR o), (1, vR v1), (2, vI v2), (3, vI v3), (5, vI v5)]) 49 rfl 4 (by decide) rfl (D_X9_coloured_0.at 25 rfl) ?_
  refine J_iinc (v := (v5 + 1)) (lv' := [(5, vI (v5 + 1)), (4, vI (v4 + (h (o + 2) ((v2 * 10) + v5)))), (0, vR o), (1, vR v1), (2, vI v2), (3, vI v3)]) 52 rfl 5 5 1 rfl rfl (by decide) rfl (D_X9_coloured_0.at 26 rfl) ?_
  refine J_goto 6 (D_X9_coloured_0.at 27 rfl) (by decide) ?_
  exact J_sub (lv' := [(0, vR o), (1, vR v1), (2, vI v2), (3, vI v3), (4, vI (v4 + (h (o + 2) ((v2 * 10) + v5)))), (5, vI (v5 + 1))]) [2, 3, 4, 5, 1, 0] rfl T
theorem c_X0_tell {w : Wd} {a1 a2 a3 : Int} {h : Hp} {K : Int → Hp → Prop} (T : ∀ h1 : Hp, h1 = hu h 54 0 (h 61 7) → (Ob 7 (h1 61 5)) ∧ ((0 ≤ a1 ∧ a1 < 8) ∧ ((0 ≤ a1 ∧ a1 < 8) ∧ ((inR (((h1 61 7) + (h1 ((h1 61 5) + 7) a1)) - (3 * (h1 62 a1)))) ∧ (∀ h7 : Hp, h7 = hu h1 54 1 (max 0 (((h1 61 7) + (h1 ((h1 61 5) + 7) a1)) - (3 * (h1 62 a1)))) → (Ob 7 (h7 61 5)) ∧ ((0 ≤ a2 ∧ a2 < 10) ∧ (∀ h11 : Hp, h11 = hu h7 54 2 (h7 ((h7 61 5) + 12) a2) → ∀ h13 : Hp, h13 = hu h11 54 3 a3 → (0 ≤ a1 ∧ a1 < 8) ∧ (∀ h16 : Hp, h16 = hu h13 54 4 (h13 62 a1) → (Ob 9 (h16 61 6)) ∧ (∀ h19 : Hp, h19 = hu h16 54 5 (h16 (h16 61 6) 4) → ∀ h21 : Hp, h21 = hu h19 54 6 a1 → K 0 h21))))))))) : C_X0_tell w a1 a2 a3 h K := by
  refine CGm_of2 (by decide) (by decide) trivial (Nat.le_of_ble_eq_true rfl) ?_
  refine J_aload_n 1 rfl 0 0 rfl ⟨by decide, by decide⟩ (D_X0_tell_0.at 0 rfl) ?_
  refine J_getF (ov := 52) (dd := 991) 4 rfl fl_0_24 rfl (by decide) rfl ob_61 (Ob.lt ob_61) (D_X0_tell_0.at 1 rfl) ?_
  refine J_getF (ov := 54) (dd := 1002) 7 rfl fl_0_118 rfl (by decide) rfl ob_52 (Ob.lt ob_52) (D_X0_tell_0.at 2 rfl) ?_
  refine J_astore (lv' := [(4, vR 54), (0, vR 61), (1, vI a1), (2, vI a2), (3, vI a3)]) 9 rfl 4 ⟨by decide, by decide⟩ (by decide) rfl (D_X0_tell_0.at 3 rfl) ?_
  refine J_aload 11 rfl 4 0 rfl ⟨by decide, by decide⟩ (D_X0_tell_0.at 4 rfl) ?_
  refine J_iconst 12 rfl (D_X0_tell_0.at 5 rfl) ?_
  refine J_aload_n 13 rfl 0 1 rfl ⟨by decide, by decide⟩ (D_X0_tell_0.at 6 rfl) ?_
  refine J_getI (z := (h 61 7)) 16 rfl fl_0_36 rfl ob_61 (Ob.lt ob_61) (D_X0_tell_0.at 7 rfl) rfl ?_
  refine J_iastH 17 rfl ar_54 (Ar.lt ar_54) ⟨by decide, by decide⟩ trivial (D_X0_tell_0.at 8 rfl) (fun h1 e2 => ?_)
  replace T := T h1 e2
  refine J_aload 19 rfl 4 0 rfl ⟨by decide, by decide⟩ (D_X0_tell_0.at 9 rfl) ?_
  refine J_iconst 20 rfl (D_X0_tell_0.at 10 rfl) ?_
  refine J_aload_n 21 rfl 0 1 rfl ⟨by decide, by decide⟩ (D_X0_tell_0.at 11 rfl) ?_
  refine J_iload_n 22 rfl 1 2 rfl (D_X0_tell_0.at 12 rfl) ?_
  refine J_callV (d' := 1) (K1 := fun z h0 => rok (some .int) z → JG w true m_X0_tell 2 NT NT 25 [(4, vR 54), (0, vR 61), (1, vI a1), (2, vI a2), (3, vI a3)] [vI z, vI 1, vR 54] h0 _) (sr := fun z => [vI z, vI 1, vR 54]) (as := [vI a1]) (st := [vI 1, vR 54]) (o := 61) 25 rfl ok_X0_flowIn im_X0_flowIn se_X0_flowIn ml_0_115 isC_0 ob_61 (Ob.lt ob_61) rfl (by decide) ⟨Nat.le_refl _, Nat.le_refl _⟩ (Nat.le_of_ble_eq_true rfl) (D_X0_tell_0.at 13 rfl) (fun _ => rfl) (CGm_of2 (by decide) (by decide) trivial (Nat.le_of_ble_eq_true rfl) ?_) (fun _ _ kq hb => kq hb)
  refine J_iconst 1 rfl (D_X0_flowIn_0.at 0 rfl) ?_
  refine J_aload_n 2 rfl 0 0 rfl ⟨by decide, by decide⟩ (D_X0_flowIn_0.at 1 rfl) ?_
  refine J_getI (z := (h1 61 7)) 5 rfl fl_0_36 rfl ob_61 (Ob.lt ob_61) (D_X0_flowIn_0.at 2 rfl) rfl ?_
  refine J_aload_n 6 rfl 0 0 rfl ⟨by decide, by decide⟩ (D_X0_flowIn_0.at 3 rfl) ?_
  obtain ⟨s3, T⟩ := T
  refine J_getR (z := (h1 61 5)) 9 rfl fl_0_28 rfl ob_61 (Ob.lt ob_61) (D_X0_flowIn_0.at 4 rfl) rfl ?_
  refine J_getF (ov := ((h1 61 5) + 7)) (dd := 1007) 12 rfl fl_0_80 rfl (by decide) rfl s3 (Ob.lt s3) (D_X0_flowIn_0.at 5 rfl) ?_
  refine J_iload_n 13 rfl 1 1 rfl (D_X0_flowIn_0.at 6 rfl) ?_
  obtain ⟨s4, T⟩ := T
  refine J_iald 14 rfl (of_7_3 s3) (Ar.lt (of_7_3 s3)) s4 (D_X0_flowIn_0.at 7 rfl) ?_
  refine J_iadd 15 rfl (D_X0_flowIn_0.at 8 rfl) ?_
  refine J_iconst 16 rfl (D_X0_flowIn_0.at 9 rfl) ?_
  refine J_aload_n 17 rfl 0 0 rfl ⟨by decide, by decide⟩ (D_X0_flowIn_0.at 10 rfl) ?_
  refine J_getF (ov := 62) (dd := 1001) 20 rfl fl_0_9 rfl (by decide) rfl ob_61 (Ob.lt ob_61) (D_X0_flowIn_0.at 11 rfl) ?_
  refine J_iload_n 21 rfl 1 1 rfl (D_X0_flowIn_0.at 12 rfl) ?_
  obtain ⟨s5, T⟩ := T
  refine J_iald 22 rfl ar_62 (Ar.lt ar_62) s5 (D_X0_flowIn_0.at 13 rfl) ?_
  refine J_imul 23 rfl (D_X0_flowIn_0.at 14 rfl) ?_
  refine J_isub 24 rfl (D_X0_flowIn_0.at 15 rfl) ?_
  obtain ⟨s6, T⟩ := T
  refine J_maxE 27 rfl ml_0_49 ⟨by decide, by decide⟩ s6 (Nat.le_of_ble_eq_true rfl) (by decide) (D_X0_flowIn_0.at 16 rfl) ?_
  refine J_iret rfl (D_X0_flowIn_0.at 17 rfl) (fun _ => ?_)
  refine J_iastH 26 rfl ar_54 (Ar.lt ar_54) ⟨by decide, by decide⟩ trivial (D_X0_tell_0.at 14 rfl) (fun h7 e8 => ?_)
  replace T := T h7 e8
  refine J_aload 28 rfl 4 0 rfl ⟨by decide, by decide⟩ (D_X0_tell_0.at 15 rfl) ?_
  refine J_iconst 29 rfl (D_X0_tell_0.at 16 rfl) ?_
  refine J_aload_n 30 rfl 0 1 rfl ⟨by decide, by decide⟩ (D_X0_tell_0.at 17 rfl) ?_
  obtain ⟨s9, T⟩ := T
  refine J_getR (z := (h7 61 5)) 33 rfl fl_0_28 rfl ob_61 (Ob.lt ob_61) (D_X0_tell_0.at 18 rfl) rfl ?_
  refine J_getF (ov := ((h7 61 5) + 12)) (dd := 1012) 36 rfl fl_0_112 rfl (by decide) rfl s9 (Ob.lt s9) (D_X0_tell_0.at 19 rfl) ?_
  refine J_iload_n 37 rfl 2 3 rfl (D_X0_tell_0.at 20 rfl) ?_
  obtain ⟨s10, T⟩ := T
  refine J_iald 38 rfl (of_7_8 s9) (Ar.lt (of_7_8 s9)) s10 (D_X0_tell_0.at 21 rfl) ?_
  refine J_iastH 39 rfl ar_54 (Ar.lt ar_54) ⟨by decide, by decide⟩ trivial (D_X0_tell_0.at 22 rfl) (fun h11 e12 => ?_)
  replace T := T h11 e12
  refine J_aload 41 rfl 4 0 rfl ⟨by decide, by decide⟩ (D_X0_tell_0.at 23 rfl) ?_
  refine J_iconst 42 rfl (D_X0_tell_0.at 24 rfl) ?_
  refine J_iload_n 43 rfl 3 4 rfl (D_X0_tell_0.at 25 rfl) ?_
  refine J_iastH 44 rfl ar_54 (Ar.lt ar_54) ⟨by decide, by decide⟩ trivial (D_X0_tell_0.at 26 rfl) (fun h13 e14 => ?_)
  replace T := T h13 e14
  refine J_aload 46 rfl 4 0 rfl ⟨by decide, by decide⟩ (D_X0_tell_0.at 27 rfl) ?_
  refine J_iconst 47 rfl (D_X0_tell_0.at 28 rfl) ?_
  refine J_aload_n 48 rfl 0 1 rfl ⟨by decide, by decide⟩ (D_X0_tell_0.at 29 rfl) ?_
  refine J_getF (ov := 62) (dd := 1001) 51 rfl fl_0_9 rfl (by decide) rfl ob_61 (Ob.lt ob_61) (D_X0_tell_0.at 30 rfl) ?_
  refine J_iload_n 52 rfl 1 2 rfl (D_X0_tell_0.at 31 rfl) ?_
  obtain ⟨s15, T⟩ := T
  refine J_iald 53 rfl ar_62 (Ar.lt ar_62) s15 (D_X0_tell_0.at 32 rfl) ?_
  refine J_iastH 54 rfl ar_54 (Ar.lt ar_54) ⟨by decide, by decide⟩ trivial (D_X0_tell_0.at 33 rfl) (fun h16 e17 => ?_)
  replace T := T h16 e17
  refine J_aload 56 rfl 4 0 rfl ⟨by decide, by decide⟩ (D_X0_tell_0.at 34 rfl) ?_
  refine J_iconst 57 rfl (D_X0_tell_0.at 35 rfl) ?_
  refine J_aload_n 58 rfl 0 1 rfl ⟨by decide, by decide⟩ (D_X0_tell_0.at 36 rfl) ?_
  obtain ⟨s18, T⟩ := T
  refine J_getR (z := (h16 61 6)) 61 rfl fl_0_32 rfl ob_61 (Ob.lt ob_61) (D_X0_tell_0.at 37 rfl) rfl ?_
  refine J_getI (z := (h16 (h16 61 6) 4)) 64 rfl fl_0_121 rfl s18 (Ob.lt s18) (D_X0_tell_0.at 38 rfl) rfl ?_
  refine J_iastH 65 rfl ar_54 (Ar.lt ar_54) ⟨by decide, by decide⟩ trivial (D_X0_tell_0.at 39 rfl) (fun h19 e20 => ?_)
  replace T := T h19 e20
  refine J_aload 67 rfl 4 0 rfl ⟨by decide, by decide⟩ (D_X0_tell_0.at 40 rfl) ?_
  refine J_bipush 69 rfl ⟨by decide, by decide⟩ (D_X0_tell_0.at 41 rfl) ?_
  refine J_iload_n 70 rfl 1 2 rfl (D_X0_tell_0.at 42 rfl) ?_
  refine J_iastH 71 rfl ar_54 (Ar.lt ar_54) ⟨by decide, by decide⟩ trivial (D_X0_tell_0.at 43 rfl) (fun h21 e22 => ?_)
  replace T := T h21 e22
  exact J_vret rfl (D_X0_tell_0.at 44 rfl) T
theorem c_X6_join {w : Wd} {a1 a2 a3 : Int} {h : Hp} {K : Int → Hp → Prop} (T : (inR a1) ∧ ((a1 = (-11) → K (iorI a2 a3) h) ∧ (a1 = (-10) → (a2 = 0 ∨ a2 = 1) ∧ ((a3 = 0 ∨ a3 = 1) ∧ (K (a2 * a3) h))) ∧ (a1 = (-9) → (inR a2) ∧ ((inR a3) ∧ (((a2 ≠ a3) → (K 0 h)) ∧ (¬ (a2 ≠ a3) → (K 1 h))))) ∧ (a1 = (-8) → (inR a2) ∧ ((inR a3) ∧ (((a2 ≤ a3) → (K 0 h)) ∧ (¬ (a2 ≤ a3) → (K 1 h))))) ∧ (a1 = (-7) → (inR a2) ∧ ((inR a3) ∧ (((a2 ≥ a3) → (K 0 h)) ∧ (¬ (a2 ≥ a3) → (K 1 h))))) ∧ (a1 = (-6) → (inR a2) ∧ ((inR a3) ∧ (K (max a2 a3) h))) ∧ (a1 = (-5) → (inR a2) ∧ ((inR a3) ∧ (K (min a2 a3) h))) ∧ (a1 = (-4) → (inR a3) ∧ (((a3 ≠ 0) → (C_JM_floorDiv w a2 a3 h (fun r19 h20 => K r19 h20))) ∧ (¬ (a3 ≠ 0) → (K 0 h)))) ∧ (a1 = (-3) → (inR a2) ∧ ((inR a3) ∧ (C_X11_within w (a2 * a3) (-1000000) 1000000 h (fun r25 h26 => K r25 h26)))) ∧ (a1 = (-2) → (inR (a2 - a3)) ∧ (C_X11_within w (a2 - a3) (-1000000) 1000000 h (fun r29 h30 => K r29 h30))) ∧ (a1 = (-1) → (inR (a2 + a3)) ∧ (C_X11_within w (a2 + a3) (-1000000) 1000000 h (fun r33 h34 => K r33 h34))) ∧ ((a1 < (-11) ∨ (-1) < a1) → K 0 h))) : C_X6_join w a1 a2 a3 h K := by
  refine CGm_of2 (by decide) (by decide) trivial (Nat.le_of_ble_eq_true rfl) ?_
  refine J_iload_n 1 rfl 1 1 rfl (D_X6_join_0.at 0 rfl) ?_
  obtain ⟨s1, T⟩ := T
  have tg : a1 = (-11) ∨ a1 = (-10) ∨ a1 = (-9) ∨ a1 = (-8) ∨ a1 = (-7) ∨ a1 = (-6) ∨ a1 = (-5) ∨ a1 = (-4) ∨ a1 = (-3) ∨ a1 = (-2) ∨ a1 = (-1) ∨ (a1 < (-11) ∨ (-1) < a1) := by omega
  rcases tg with g2 | g2 | g2 | g2 | g2 | g2 | g2 | g2 | g2 | g2 | g2 | g2
  · replace T := T.1 g2
    refine J_tab 159 160 s1 (D_X6_join_0.at 1 rfl) ⟨by omega, by omega⟩ (by rw [g2]; rfl) (by decide) ?_
    refine J_iload_n 161 rfl 2 2 rfl (D_X6_join_1.at 20 rfl) ?_
    refine J_iload_n 162 rfl 3 3 rfl (D_X6_join_1.at 21 rfl) ?_
    refine J_ior 163 rfl (D_X6_join_1.at 22 rfl) ?_
    exact J_iret rfl (D_X6_join_1.at 23 rfl) T
  · replace T := T.2.1 g2
    refine J_tab 155 156 s1 (D_X6_join_0.at 1 rfl) ⟨by omega, by omega⟩ (by rw [g2]; rfl) (by decide) ?_
    refine J_iload_n 157 rfl 2 2 rfl (D_X6_join_1.at 16 rfl) ?_
    refine J_iload_n 158 rfl 3 3 rfl (D_X6_join_1.at 17 rfl) ?_
    obtain ⟨s3, T⟩ := T
    obtain ⟨s4, T⟩ := T
    refine J_and01 159 rfl s3 s4 (D_X6_join_1.at 18 rfl) ?_
    exact J_iret rfl (D_X6_join_1.at 19 rfl) T
  · replace T := T.2.2.1 g2
    refine J_tab 144 145 s1 (D_X6_join_0.at 1 rfl) ⟨by omega, by omega⟩ (by rw [g2]; rfl) (by decide) ?_
    refine J_iload_n 146 rfl 2 2 rfl (D_X6_join_1.at 9 rfl) ?_
    refine J_iload_n 147 rfl 3 3 rfl (D_X6_join_1.at 10 rfl) ?_
    obtain ⟨s5, T⟩ := T
    obtain ⟨s6, T⟩ := T
    refine J_icmp_ne 150 rfl 154 s5 s6 (D_X6_join_1.at 11 rfl) (by decide) (fun c7 => ?_) (fun c7 => ?_)
    · replace T := T.1 c7
      refine J_iconst 155 rfl (D_X6_join_1.at 14 rfl) ?_
      exact J_iret rfl (D_X6_join_1.at 15 rfl) T
    replace T := T.2 c7
    refine J_iconst 151 rfl (D_X6_join_1.at 12 rfl) ?_
    refine J_goto 155 (D_X6_join_1.at 13 rfl) (by decide) ?_
    exact J_iret rfl (D_X6_join_1.at 15 rfl) T
  · replace T := T.2.2.2.1 g2
    refine J_tab 133 134 s1 (D_X6_join_0.at 1 rfl) ⟨by omega, by omega⟩ (by rw [g2]; rfl) (by decide) ?_
    refine J_iload_n 135 rfl 2 2 rfl (D_X6_join_1.at 2 rfl) ?_
    refine J_iload_n 136 rfl 3 3 rfl (D_X6_join_1.at 3 rfl) ?_
    obtain ⟨s8, T⟩ := T
    obtain ⟨s9, T⟩ := T
    refine J_icmp_le 139 rfl 143 s8 s9 (D_X6_join_1.at 4 rfl) (by decide) (fun c10 => ?_) (fun c10 => ?_)
    · replace T := T.1 c10
      refine J_iconst 144 rfl (D_X6_join_1.at 7 rfl) ?_
      exact J_iret rfl (D_X6_join_1.at 8 rfl) T
    replace T := T.2 c10
    refine J_iconst 140 rfl (D_X6_join_1.at 5 rfl) ?_
    refine J_goto 144 (D_X6_join_1.at 6 rfl) (by decide) ?_
    exact J_iret rfl (D_X6_join_1.at 8 rfl) T
  · replace T := T.2.2.2.2.1 g2
    refine J_tab 122 123 s1 (D_X6_join_0.at 1 rfl) ⟨by omega, by omega⟩ (by rw [g2]; rfl) (by decide) ?_
    refine J_iload_n 124 rfl 2 2 rfl (D_X6_join_0.at 43 rfl) ?_
    refine J_iload_n 125 rfl 3 3 rfl (D_X6_join_0.at 44 rfl) ?_
    obtain ⟨s11, T⟩ := T
    obtain ⟨s12, T⟩ := T
    refine J_icmp_ge 128 rfl 132 s11 s12 (D_X6_join_0.at 45 rfl) (by decide) (fun c13 => ?_) (fun c13 => ?_)
    · replace T := T.1 c13
      refine J_iconst 133 rfl (D_X6_join_1.at 0 rfl) ?_
      exact J_iret rfl (D_X6_join_1.at 1 rfl) T
    replace T := T.2 c13
    refine J_iconst 129 rfl (D_X6_join_0.at 46 rfl) ?_
    refine J_goto 133 (D_X6_join_0.at 47 rfl) (by decide) ?_
    exact J_iret rfl (D_X6_join_1.at 1 rfl) T
  · replace T := T.2.2.2.2.2.1 g2
    refine J_tab 116 117 s1 (D_X6_join_0.at 1 rfl) ⟨by omega, by omega⟩ (by rw [g2]; rfl) (by decide) ?_
    refine J_iload_n 118 rfl 2 2 rfl (D_X6_join_0.at 39 rfl) ?_
    refine J_iload_n 119 rfl 3 3 rfl (D_X6_join_0.at 40 rfl) ?_
    obtain ⟨s14, T⟩ := T
    obtain ⟨s15, T⟩ := T
    refine J_maxE 122 rfl ml_6_67 s14 s15 (Nat.le_of_ble_eq_true rfl) (by decide) (D_X6_join_0.at 41 rfl) ?_
    exact J_iret rfl (D_X6_join_0.at 42 rfl) T
  · replace T := T.2.2.2.2.2.2.1 g2
    refine J_tab 110 111 s1 (D_X6_join_0.at 1 rfl) ⟨by omega, by omega⟩ (by rw [g2]; rfl) (by decide) ?_
    refine J_iload_n 112 rfl 2 2 rfl (D_X6_join_0.at 35 rfl) ?_
    refine J_iload_n 113 rfl 3 3 rfl (D_X6_join_0.at 36 rfl) ?_
    obtain ⟨s16, T⟩ := T
    obtain ⟨s17, T⟩ := T
    refine J_minE 116 rfl ml_6_64 s16 s17 (Nat.le_of_ble_eq_true rfl) (by decide) (D_X6_join_0.at 37 rfl) ?_
    exact J_iret rfl (D_X6_join_0.at 38 rfl) T
  · replace T := T.2.2.2.2.2.2.2.1 g2
    refine J_tab 96 97 s1 (D_X6_join_0.at 1 rfl) ⟨by omega, by omega⟩ (by rw [g2]; rfl) (by decide) ?_
    refine J_iload_n 98 rfl 3 3 rfl (D_X6_join_0.at 27 rfl) ?_
    obtain ⟨s18, T⟩ := T
    refine J_if_ne 101 rfl 105 s18 (D_X6_join_0.at 28 rfl) (by decide) (fun c22 => ?_) (fun c22 => ?_)
    · replace T := T.1 c22
      refine J_iload_n 106 rfl 2 2 rfl (D_X6_join_0.at 31 rfl) ?_
      refine J_iload_n 107 rfl 3 3 rfl (D_X6_join_0.at 32 rfl) ?_
      refine J_callS (d' := 1) (sr := fun z => [vI z]) (as := [vI a2, vI a3]) (st := []) 110 rfl ok_JM_floorDiv sm_JM_floorDiv ml_6_58 rfl (by decide) ⟨Nat.le_refl _, Nat.le_refl _⟩ (Nat.le_of_ble_eq_true rfl) (D_X6_join_0.at 33 rfl) (fun _ => rfl) T (fun r19 h20 T b21 => ?_)
      exact J_iret rfl (D_X6_join_0.at 34 rfl) T
    replace T := T.2 c22
    refine J_iconst 102 rfl (D_X6_join_0.at 29 rfl) ?_
    refine J_goto 110 (D_X6_join_0.at 30 rfl) (by decide) ?_
    exact J_iret rfl (D_X6_join_0.at 34 rfl) T
  · replace T := T.2.2.2.2.2.2.2.2.1 g2
    refine J_tab 83 84 s1 (D_X6_join_0.at 1 rfl) ⟨by omega, by omega⟩ (by rw [g2]; rfl) (by decide) ?_
    refine J_iload_n 85 rfl 2 2 rfl (D_X6_join_0.at 18 rfl) ?_
    obtain ⟨s23, T⟩ := T
    refine J_i2l 86 rfl s23 (D_X6_join_0.at 19 rfl) ?_
    refine J_iload_n 87 rfl 3 3 rfl (D_X6_join_0.at 20 rfl) ?_
    obtain ⟨s24, T⟩ := T
    refine J_i2l 88 rfl s24 (D_X6_join_0.at 21 rfl) ?_
    refine J_lmul 89 rfl (D_X6_join_0.at 22 rfl) ?_
    refine J_ldc 91 rfl ko_6_52 (D_X6_join_0.at 23 rfl) ?_
    refine J_ldc 93 rfl ko_6_53 (D_X6_join_0.at 24 rfl) ?_
    refine J_callSN (d' := 1) (sr := fun z => [vI z]) (as := [vL (a2 * a3), vI (-1000000), vI 1000000]) (st := []) 96 rfl ok_X11_within sm_X11_within ml_6_54 rfl (by decide) ⟨Nat.le_refl _, Nat.le_refl _⟩ (Nat.le_of_ble_eq_true rfl) (D_X6_join_0.at 25 rfl) (fun _ => rfl) T (fun r25 h26 T b27 => ?_)
    exact J_iret rfl (D_X6_join_0.at 26 rfl) T
  · replace T := T.2.2.2.2.2.2.2.2.2.1 g2
    refine J_tab 71 72 s1 (D_X6_join_0.at 1 rfl) ⟨by omega, by omega⟩ (by rw [g2]; rfl) (by decide) ?_
    refine J_iload_n 73 rfl 2 2 rfl (D_X6_join_0.at 10 rfl) ?_
    refine J_iload_n 74 rfl 3 3 rfl (D_X6_join_0.at 11 rfl) ?_
    refine J_isub 75 rfl (D_X6_join_0.at 12 rfl) ?_
    obtain ⟨s28, T⟩ := T
    refine J_i2l 76 rfl s28 (D_X6_join_0.at 13 rfl) ?_
    refine J_ldc 78 rfl ko_6_52 (D_X6_join_0.at 14 rfl) ?_
    refine J_ldc 80 rfl ko_6_53 (D_X6_join_0.at 15 rfl) ?_
    refine J_callSN (d' := 1) (sr := fun z => [vI z]) (as := [vL (a2 - a3), vI (-1000000), vI 1000000]) (st := []) 83 rfl ok_X11_within sm_X11_within ml_6_54 rfl (by decide) ⟨Nat.le_refl _, Nat.le_refl _⟩ (Nat.le_of_ble_eq_true rfl) (D_X6_join_0.at 16 rfl) (fun _ => rfl) T (fun r29 h30 T b31 => ?_)
    exact J_iret rfl (D_X6_join_0.at 17 rfl) T
  · replace T := T.2.2.2.2.2.2.2.2.2.2.1 g2
    refine J_tab 59 60 s1 (D_X6_join_0.at 1 rfl) ⟨by omega, by omega⟩ (by rw [g2]; rfl) (by decide) ?_
    refine J_iload_n 61 rfl 2 2 rfl (D_X6_join_0.at 2 rfl) ?_
    refine J_iload_n 62 rfl 3 3 rfl (D_X6_join_0.at 3 rfl) ?_
    refine J_iadd 63 rfl (D_X6_join_0.at 4 rfl) ?_
    obtain ⟨s32, T⟩ := T
    refine J_i2l 64 rfl s32 (D_X6_join_0.at 5 rfl) ?_
    refine J_ldc 66 rfl ko_6_52 (D_X6_join_0.at 6 rfl) ?_
    refine J_ldc 68 rfl ko_6_53 (D_X6_join_0.at 7 rfl) ?_
    refine J_callSN (d' := 1) (sr := fun z => [vI z]) (as := [vL (a2 + a3), vI (-1000000), vI 1000000]) (st := []) 71 rfl ok_X11_within sm_X11_within ml_6_54 rfl (by decide) ⟨Nat.le_refl _, Nat.le_refl _⟩ (Nat.le_of_ble_eq_true rfl) (D_X6_join_0.at 8 rfl) (fun _ => rfl) T (fun r33 h34 T b35 => ?_)
    exact J_iret rfl (D_X6_join_0.at 9 rfl) T
  · replace T := T.2.2.2.2.2.2.2.2.2.2.2 g2
    refine J_tabO 164 s1 (D_X6_join_0.at 1 rfl) g2 (by decide) ?_
    refine J_iconst 165 rfl (D_X6_join_1.at 24 rfl) ?_
    exact J_iret rfl (D_X6_join_1.at 25 rfl) T
theorem c_X0_settledIn {w : Wd} {a1 : Int} {h : Hp} {K : Int → Hp → Prop} (T : L_X0_settledIn_4 w a1 0 0 h K) : C_X0_settledIn w a1 h K := by
  refine CGm_of2 (by decide) (by decide) trivial (Nat.le_of_ble_eq_true rfl) ?_
  refine J_iconst 1 rfl (D_X0_settledIn_0.at 0 rfl) ?_
  refine J_istore_n (lv' := [(2, vI 0), (0, vR 61), (1, vI a1)]) 2 rfl 2 (by decide) rfl (D_X0_settledIn_0.at 1 rfl) ?_
  refine J_iconst 3 rfl (D_X0_settledIn_0.at 2 rfl) ?_
  refine J_istore_n (lv' := [(3, vI 0), (2, vI 0), (0, vR 61), (1, vI a1)]) 4 rfl 3 (by decide) rfl (D_X0_settledIn_0.at 3 rfl) ?_
  exact J_sub (lv' := [(0, vR 61), (1, vI a1), (2, vI 0), (3, vI 0)]) [2, 3, 1, 0] rfl T
theorem l_X0_settledIn_4 {w : Wd} {v1 v2 v3 : Int} {h : Hp} {K : Int → Hp → Prop} (T : (Ob 7 (h 61 5)) ∧ ((inR v3) ∧ ((inR (h ((h 61 5) + 5) 1)) ∧ (((v3 ≥ (h ((h 61 5) + 5) 1)) → (K v2 h)) ∧ (¬ (v3 ≥ (h ((h 61 5) + 5) 1)) → ((0 ≤ ((v1 * 10) + v3) ∧ ((v1 * 10) + v3) < 80) ∧ (L_X0_settledIn_4 w v1 (v2 + (h 64 ((v1 * 10) + v3))) (v3 + 1) h K))))))) : L_X0_settledIn_4 w v1 v2 v3 h K := by
  unfold L_X0_settledIn_4
  refine J_iload_n 5 rfl 3 3 rfl (D_X0_settledIn_0.at 4 rfl) ?_
  refine J_aload_n 6 rfl 0 0 rfl ⟨by decide, by decide⟩ (D_X0_settledIn_0.at 5 rfl) ?_
  obtain ⟨s1, T⟩ := T
  refine J_getR (z := (h 61 5)) 9 rfl fl_0_28 rfl ob_61 (Ob.lt ob_61) (D_X0_settledIn_0.at 6 rfl) rfl ?_
  refine J_getF (ov := ((h 61 5) + 5)) (dd := 1005) 12 rfl fl_0_55 rfl (by decide) rfl s1 (Ob.lt s1) (D_X0_settledIn_0.at 7 rfl) ?_
  refine J_getI (z := (h ((h 61 5) + 5) 1)) 15 rfl fl_0_61 rfl (of_7_2 s1) (Ob.lt (of_7_2 s1)) (D_X0_settledIn_0.at 8 rfl) rfl ?_
  obtain ⟨s2, T⟩ := T
  obtain ⟨s3, T⟩ := T
  refine J_icmp_ge 18 rfl 37 s2 s3 (D_X0_settledIn_0.at 9 rfl) (by decide) (fun c5 => ?_) (fun c5 => ?_)
  · replace T := T.1 c5
    refine J_iload_n 38 rfl 2 2 rfl (D_X0_settledIn_0.at 21 rfl) ?_
    exact J_iret rfl (D_X0_settledIn_0.at 22 rfl) T
  replace T := T.2 c5
  refine J_iload_n 19 rfl 2 2 rfl (D_X0_settledIn_0.at 10 rfl) ?_
  refine J_aload_n 20 rfl 0 0 rfl ⟨by decide, by decide⟩ (D_X0_settledIn_0.at 11 rfl) ?_
  refine J_getF (ov := 64) (dd := 1003) 23 rfl fl_0_18 rfl (by decide) rfl ob_61 (Ob.lt ob_61) (D_X0_settledIn_0.at 12 rfl) ?_
  refine J_iload_n 24 rfl 1 1 rfl (D_X0_settledIn_0.at 13 rfl) ?_
  refine J_iload_n 25 rfl 3 3 rfl (D_X0_settledIn_0.at 14 rfl) ?_
  refine J_callSN (d' := 1) (K1 := fun z h0 => rok (some .int) z → JG w true m_X0_settledIn 2 NT NT 28 [(0, vR 61), (1, vI v1), (2, vI v2), (3, vI v3)] [vI z, vR 64, vI v2] h0 _) (sr := fun z => [vI z, vR 64, vI v2]) (as := [vI v1, vI v3]) (st := [vR 64, vI v2]) 28 rfl ok_X11_cell sm_X11_cell ml_0_66 rfl (by decide) ⟨Nat.le_refl _, Nat.le_refl _⟩ (Nat.le_of_ble_eq_true rfl) (D_X0_settledIn_0.at 15 rfl) (fun _ => rfl) (CGm_of2 (by decide) (by decide) trivial (Nat.le_of_ble_eq_true rfl) ?_) (fun _ _ kq hb => kq hb)
  refine J_iload_n 1 rfl 0 0 rfl (D_X11_cell_0.at 0 rfl) ?_
  refine J_bipush 3 rfl ⟨by decide, by decide⟩ (D_X11_cell_0.at 1 rfl) ?_
  refine J_imul 4 rfl (D_X11_cell_0.at 2 rfl) ?_
  refine J_iload_n 5 rfl 1 1 rfl (D_X11_cell_0.at 3 rfl) ?_
  refine J_iadd 6 rfl (D_X11_cell_0.at 4 rfl) ?_
  refine J_iret rfl (D_X11_cell_0.at 5 rfl) (fun _ => ?_)
  obtain ⟨s4, T⟩ := T
  refine J_iald 29 rfl ar_64 (Ar.lt ar_64) s4 (D_X0_settledIn_0.at 16 rfl) ?_
  refine J_iadd 30 rfl (D_X0_settledIn_0.at 17 rfl) ?_
  refine J_istore_n (lv' := [(2, vI (v2 + (h 64 ((v1 * 10) + v3)))), (0, vR 61), (1, vI v1), (3, vI v3)]) 31 rfl 2 (by decide) rfl (D_X0_settledIn_0.at 18 rfl) ?_
  refine J_iinc (v := (v3 + 1)) (lv' := [(3, vI (v3 + 1)), (2, vI (v2 + (h 64 ((v1 * 10) + v3)))), (0, vR 61), (1, vI v1)]) 34 rfl 3 3 1 rfl rfl (by decide) rfl (D_X0_settledIn_0.at 19 rfl) ?_
  refine J_goto 4 (D_X0_settledIn_0.at 20 rfl) (by decide) ?_
  exact J_sub (lv' := [(0, vR 61), (1, vI v1), (2, vI (v2 + (h 64 ((v1 * 10) + v3)))), (3, vI (v3 + 1))]) [2, 3, 1, 0] rfl T
theorem c_X0_toSea {w : Wd} {h : Hp} {K : Int → Hp → Prop} (T : L_X0_toSea_4 w 0 0 h K) : C_X0_toSea w h K := by
  refine CGm_of2 (by decide) (by decide) trivial (Nat.le_of_ble_eq_true rfl) ?_
  refine J_iconst 1 rfl (D_X0_toSea_0.at 0 rfl) ?_
  refine J_istore_n (lv' := [(1, vI 0), (0, vR 61)]) 2 rfl 1 (by decide) rfl (D_X0_toSea_0.at 1 rfl) ?_
  refine J_iconst 3 rfl (D_X0_toSea_0.at 2 rfl) ?_
  refine J_istore_n (lv' := [(2, vI 0), (1, vI 0), (0, vR 61)]) 4 rfl 2 (by decide) rfl (D_X0_toSea_0.at 3 rfl) ?_
  exact J_sub (lv' := [(0, vR 61), (1, vI 0), (2, vI 0)]) [2, 1, 0] rfl T
theorem l_X0_toSea_4 {w : Wd} {v1 v2 : Int} {h : Hp} {K : Int → Hp → Prop} (T : (Ob 7 (h 61 5)) ∧ ((inR v2) ∧ ((inR (h ((h 61 5) + 5) 1)) ∧ (((v2 ≥ (h ((h 61 5) + 5) 1)) → (K v1 h)) ∧ (¬ (v2 ≥ (h ((h 61 5) + 5) 1)) → ((Ob 7 (h 61 5)) ∧ ((inR (h (h 61 5) 12)) ∧ ((((h (h 61 5) 12) ≤ 0) → (K v1 h)) ∧ (¬ ((h (h 61 5) 12) ≤ 0) → ((Ob 7 (h 61 5)) ∧ ((0 ≤ ((((h (h 61 5) 12) - 1) * 10) + v2) ∧ ((((h (h 61 5) 12) - 1) * 10) + v2) < 80) ∧ (L_X0_toSea_4 w (v1 + (h 65 ((((h (h 61 5) 12) - 1) * 10) + v2))) (v2 + 1) h K)))))))))))) : L_X0_toSea_4 w v1 v2 h K := by
  unfold L_X0_toSea_4
  refine J_iload_n 5 rfl 2 2 rfl (D_X0_toSea_0.at 4 rfl) ?_
  refine J_aload_n 6 rfl 0 0 rfl ⟨by decide, by decide⟩ (D_X0_toSea_0.at 5 rfl) ?_
  obtain ⟨s1, T⟩ := T
  refine J_getR (z := (h 61 5)) 9 rfl fl_0_28 rfl ob_61 (Ob.lt ob_61) (D_X0_toSea_0.at 6 rfl) rfl ?_
  refine J_getF (ov := ((h 61 5) + 5)) (dd := 1005) 12 rfl fl_0_55 rfl (by decide) rfl s1 (Ob.lt s1) (D_X0_toSea_0.at 7 rfl) ?_
  refine J_getI (z := (h ((h 61 5) + 5) 1)) 15 rfl fl_0_61 rfl (of_7_2 s1) (Ob.lt (of_7_2 s1)) (D_X0_toSea_0.at 8 rfl) rfl ?_
  obtain ⟨s2, T⟩ := T
  obtain ⟨s3, T⟩ := T
  refine J_icmp_ge 18 rfl 55 s2 s3 (D_X0_toSea_0.at 9 rfl) (by decide) (fun c9 => ?_) (fun c9 => ?_)
  · replace T := T.1 c9
    refine J_iload_n 56 rfl 1 1 rfl (D_X0_toSea_0.at 29 rfl) ?_
    exact J_iret rfl (D_X0_toSea_0.at 30 rfl) T
  replace T := T.2 c9
  refine J_aload_n 19 rfl 0 0 rfl ⟨by decide, by decide⟩ (D_X0_toSea_0.at 10 rfl) ?_
  obtain ⟨s4, T⟩ := T
  refine J_getR (z := (h 61 5)) 22 rfl fl_0_28 rfl ob_61 (Ob.lt ob_61) (D_X0_toSea_0.at 11 rfl) rfl ?_
  refine J_getI (z := (h (h 61 5) 12)) 25 rfl fl_0_134 rfl s4 (Ob.lt s4) (D_X0_toSea_0.at 12 rfl) rfl ?_
  obtain ⟨s5, T⟩ := T
  refine J_if_le 28 rfl 55 s5 (D_X0_toSea_0.at 13 rfl) (by decide) (fun c8 => ?_) (fun c8 => ?_)
  · replace T := T.1 c8
    refine J_iload_n 56 rfl 1 1 rfl (D_X0_toSea_0.at 29 rfl) ?_
    exact J_iret rfl (D_X0_toSea_0.at 30 rfl) T
  replace T := T.2 c8
  refine J_iload_n 29 rfl 1 1 rfl (D_X0_toSea_0.at 14 rfl) ?_
  refine J_aload_n 30 rfl 0 0 rfl ⟨by decide, by decide⟩ (D_X0_toSea_0.at 15 rfl) ?_
  refine J_getF (ov := 65) (dd := 1004) 33 rfl fl_0_21 rfl (by decide) rfl ob_61 (Ob.lt ob_61) (D_X0_toSea_0.at 16 rfl) ?_
  refine J_aload_n 34 rfl 0 0 rfl ⟨by decide, by decide⟩ (D_X0_toSea_0.at 17 rfl) ?_
  obtain ⟨s6, T⟩ := T
  refine J_getR (z := (h 61 5)) 37 rfl fl_0_28 rfl ob_61 (Ob.lt ob_61) (D_X0_toSea_0.at 18 rfl) rfl ?_
  refine J_getI (z := (h (h 61 5) 12)) 40 rfl fl_0_134 rfl s6 (Ob.lt s6) (D_X0_toSea_0.at 19 rfl) rfl ?_
  refine J_iconst 41 rfl (D_X0_toSea_0.at 20 rfl) ?_
  refine J_isub 42 rfl (D_X0_toSea_0.at 21 rfl) ?_
  refine J_iload_n 43 rfl 2 2 rfl (D_X0_toSea_0.at 22 rfl) ?_
  refine J_callSN (d' := 1) (K1 := fun z h0 => rok (some .int) z → JG w true m_X0_toSea 2 NT NT 46 [(0, vR 61), (1, vI v1), (2, vI v2)] [vI z, vR 65, vI v1] h0 _) (sr := fun z => [vI z, vR 65, vI v1]) (as := [vI ((h (h 61 5) 12) - 1), vI v2]) (st := [vR 65, vI v1]) 46 rfl ok_X11_cell sm_X11_cell ml_0_66 rfl (by decide) ⟨Nat.le_refl _, Nat.le_refl _⟩ (Nat.le_of_ble_eq_true rfl) (D_X0_toSea_0.at 23 rfl) (fun _ => rfl) (CGm_of2 (by decide) (by decide) trivial (Nat.le_of_ble_eq_true rfl) ?_) (fun _ _ kq hb => kq hb)
  refine J_iload_n 1 rfl 0 0 rfl (D_X11_cell_0.at 0 rfl) ?_
  refine J_bipush 3 rfl ⟨by decide, by decide⟩ (D_X11_cell_0.at 1 rfl) ?_
  refine J_imul 4 rfl (D_X11_cell_0.at 2 rfl) ?_
  refine J_iload_n 5 rfl 1 1 rfl (D_X11_cell_0.at 3 rfl) ?_
  refine J_iadd 6 rfl (D_X11_cell_0.at 4 rfl) ?_
  refine J_iret rfl (D_X11_cell_0.at 5 rfl) (fun _ => ?_)
  obtain ⟨s7, T⟩ := T
  refine J_iald 47 rfl ar_65 (Ar.lt ar_65) s7 (D_X0_toSea_0.at 24 rfl) ?_
  refine J_iadd 48 rfl (D_X0_toSea_0.at 25 rfl) ?_
  refine J_istore_n (lv' := [(1, vI (v1 + (h 65 ((((h (h 61 5) 12) - 1) * 10) + v2)))), (0, vR 61), (2, vI v2)]) 49 rfl 1 (by decide) rfl (D_X0_toSea_0.at 26 rfl) ?_
  refine J_iinc (v := (v2 + 1)) (lv' := [(2, vI (v2 + 1)), (1, vI (v1 + (h 65 ((((h (h 61 5) 12) - 1) * 10) + v2)))), (0, vR 61)]) 52 rfl 2 2 1 rfl rfl (by decide) rfl (D_X0_toSea_0.at 27 rfl) ?_
  refine J_goto 4 (D_X0_toSea_0.at 28 rfl) (by decide) ?_
  exact J_sub (lv' := [(0, vR 61), (1, vI (v1 + (h 65 ((((h (h 61 5) 12) - 1) * 10) + v2)))), (2, vI (v2 + 1))]) [2, 1, 0] rfl T
theorem c_X0_lay {w : Wd} {h : Hp} {K : Int → Hp → Prop} (T : L_X0_lay_2 w 0 h K) : C_X0_lay w h K := by
  refine CGm_of2 (by decide) (by decide) trivial (Nat.le_of_ble_eq_true rfl) ?_
  refine J_iconst 1 rfl (D_X0_lay_0.at 0 rfl) ?_
  refine J_istore_n (lv' := [(1, vI 0), (0, vR 61)]) 2 rfl 1 (by decide) rfl (D_X0_lay_0.at 1 rfl) ?_
  exact J_sub (lv' := [(0, vR 61), (1, vI 0)]) [1, 0] rfl T
theorem l_X0_lay_2 {w : Wd} {v1 : Int} {h : Hp} {K : Int → Hp → Prop} (T : (Ob 7 (h 61 5)) ∧ ((inR v1) ∧ ((inR (h ((h 61 5) + 5) 1)) ∧ (((v1 ≥ (h ((h 61 5) + 5) 1)) → (K 0 h)) ∧ (¬ (v1 ≥ (h ((h 61 5) + 5) 1)) → ((Ob 9 (h 61 6)) ∧ ((0 ≤ v1 ∧ v1 < 10) ∧ ((0 ≤ v1 ∧ v1 < 10) ∧ ((0 ≤ v1 ∧ v1 < 10) ∧ (∀ h8 : Hp, h8 = hu h ((h 61 6) + 3) v1 ((h ((h 61 6) + 3) v1) - (h 63 v1)) → L_X0_lay_36 w v1 0 h8 K)))))))))) : L_X0_lay_2 w v1 h K := by
  unfold L_X0_lay_2
  refine J_iload_n 3 rfl 1 1 rfl (D_X0_lay_0.at 2 rfl) ?_
  refine J_aload_n 4 rfl 0 0 rfl ⟨by decide, by decide⟩ (D_X0_lay_0.at 3 rfl) ?_
  obtain ⟨s1, T⟩ := T
  refine J_getR (z := (h 61 5)) 7 rfl fl_0_28 rfl ob_61 (Ob.lt ob_61) (D_X0_lay_0.at 4 rfl) rfl ?_
  refine J_getF (ov := ((h 61 5) + 5)) (dd := 1005) 10 rfl fl_0_55 rfl (by decide) rfl s1 (Ob.lt s1) (D_X0_lay_0.at 5 rfl) ?_
  refine J_getI (z := (h ((h 61 5) + 5) 1)) 13 rfl fl_0_61 rfl (of_7_2 s1) (Ob.lt (of_7_2 s1)) (D_X0_lay_0.at 6 rfl) rfl ?_
  obtain ⟨s2, T⟩ := T
  obtain ⟨s3, T⟩ := T
  refine J_icmp_ge 16 rfl 125 s2 s3 (D_X0_lay_0.at 7 rfl) (by decide) (fun c10 => ?_) (fun c10 => ?_)
  · replace T := T.1 c10
    exact J_vret rfl (D_X0_lay_1.at 21 rfl) T
  replace T := T.2 c10
  refine J_aload_n 17 rfl 0 0 rfl ⟨by decide, by decide⟩ (D_X0_lay_0.at 8 rfl) ?_
  obtain ⟨s4, T⟩ := T
  refine J_getR (z := (h 61 6)) 20 rfl fl_0_32 rfl ob_61 (Ob.lt ob_61) (D_X0_lay_0.at 9 rfl) rfl ?_
  refine J_getF (ov := ((h 61 6) + 3)) (dd := 1003) 23 rfl fl_0_92 rfl (by decide) rfl s4 (Ob.lt s4) (D_X0_lay_0.at 10 rfl) ?_
  refine J_iload_n 24 rfl 1 1 rfl (D_X0_lay_0.at 11 rfl) ?_
  refine J_dup2 25 rfl rfl rfl (D_X0_lay_0.at 12 rfl) ?_
  obtain ⟨s5, T⟩ := T
  refine J_iald 26 rfl (of_9_2 s4) (Ar.lt (of_9_2 s4)) s5 (D_X0_lay_0.at 13 rfl) ?_
  refine J_aload_n 27 rfl 0 0 rfl ⟨by decide, by decide⟩ (D_X0_lay_0.at 14 rfl) ?_
  refine J_getF (ov := 63) (dd := 1002) 30 rfl fl_0_15 rfl (by decide) rfl ob_61 (Ob.lt ob_61) (D_X0_lay_0.at 15 rfl) ?_
  refine J_iload_n 31 rfl 1 1 rfl (D_X0_lay_0.at 16 rfl) ?_
  obtain ⟨s6, T⟩ := T
  refine J_iald 32 rfl ar_63 (Ar.lt ar_63) s6 (D_X0_lay_0.at 17 rfl) ?_
  refine J_isub 33 rfl (D_X0_lay_0.at 18 rfl) ?_
  obtain ⟨s7, T⟩ := T
  refine J_iastH 34 rfl (of_9_2 s4) (Ar.lt (of_9_2 s4)) s7 trivial (D_X0_lay_0.at 19 rfl) (fun h8 e9 => ?_)
  replace T := T h8 e9
  refine J_iconst 35 rfl (D_X0_lay_0.at 20 rfl) ?_
  refine J_istore_n (lv' := [(2, vI 0), (0, vR 61), (1, vI v1)]) 36 rfl 2 (by decide) rfl (D_X0_lay_0.at 21 rfl) ?_
  exact J_sub (lv' := [(0, vR 61), (1, vI v1), (2, vI 0)]) [1, 2, 0] rfl T
theorem l_X0_lay_36 {w : Wd} {v1 v2 : Int} {h : Hp} {K : Int → Hp → Prop} (T : (Ob 7 (h 61 5)) ∧ ((inR v2) ∧ ((inR (h (h 61 5) 12)) ∧ (((v2 ≥ (h (h 61 5) 12)) → ((Ob 7 (h 61 5)) ∧ ((inR (h (h 61 5) 12)) ∧ ((((h (h 61 5) 12) ≤ 0) → (L_X0_lay_2 w (v1 + 1) h K)) ∧ (¬ ((h (h 61 5) 12) ≤ 0) → ((Ob 9 (h 61 6)) ∧ ((0 ≤ v1 ∧ v1 < 10) ∧ ((Ob 7 (h 61 5)) ∧ ((0 ≤ ((((h (h 61 5) 12) - 1) * 10) + v1) ∧ ((((h (h 61 5) 12) - 1) * 10) + v1) < 80) ∧ ((0 ≤ v1 ∧ v1 < 10) ∧ (∀ h21 : Hp, h21 = hu h ((h 61 6) + 4) v1 ((h ((h 61 6) + 4) v1) + (h 65 ((((h (h 61 5) 12) - 1) * 10) + v1))) → L_X0_lay_2 w (v1 + 1) h21 K))))))))))) ∧ (¬ (v2 ≥ (h (h 61 5) 12)) → ((Ob 9 (h 61 6)) ∧ ((0 ≤ ((v2 * 10) + v1) ∧ ((v2 * 10) + v1) < 80) ∧ ((0 ≤ ((v2 * 10) + v1) ∧ ((v2 * 10) + v1) < 80) ∧ ((0 ≤ ((v2 * 10) + v1) ∧ ((v2 * 10) + v1) < 80) ∧ (∀ h28 : Hp, h28 = hu h ((h 61 6) + 2) ((v2 * 10) + v1) ((h ((h 61 6) + 2) ((v2 * 10) + v1)) + (h 64 ((v2 * 10) + v1))) → L_X0_lay_36 w v1 (v2 + 1) h28 K)))))))))) : L_X0_lay_36 w v1 v2 h K := by
  unfold L_X0_lay_36
  refine J_iload_n 37 rfl 2 2 rfl (D_X0_lay_0.at 22 rfl) ?_
  refine J_aload_n 38 rfl 0 0 rfl ⟨by decide, by decide⟩ (D_X0_lay_0.at 23 rfl) ?_
  obtain ⟨s11, T⟩ := T
  refine J_getR (z := (h 61 5)) 41 rfl fl_0_28 rfl ob_61 (Ob.lt ob_61) (D_X0_lay_0.at 24 rfl) rfl ?_
  refine J_getI (z := (h (h 61 5) 12)) 44 rfl fl_0_134 rfl s11 (Ob.lt s11) (D_X0_lay_0.at 25 rfl) rfl ?_
  obtain ⟨s12, T⟩ := T
  obtain ⟨s13, T⟩ := T
  refine J_icmp_ge 47 rfl 79 s12 s13 (D_X0_lay_0.at 26 rfl) (by decide) (fun c30 => ?_) (fun c30 => ?_)
  · replace T := T.1 c30
    refine J_aload_n 80 rfl 0 0 rfl ⟨by decide, by decide⟩ (D_X0_lay_0.at 45 rfl) ?_
    obtain ⟨s14, T⟩ := T
    refine J_getR (z := (h 61 5)) 83 rfl fl_0_28 rfl ob_61 (Ob.lt ob_61) (D_X0_lay_0.at 46 rfl) rfl ?_
    refine J_getI (z := (h (h 61 5) 12)) 86 rfl fl_0_134 rfl s14 (Ob.lt s14) (D_X0_lay_0.at 47 rfl) rfl ?_
    obtain ⟨s15, T⟩ := T
    refine J_if_le 89 rfl 119 s15 (D_X0_lay_1.at 0 rfl) (by decide) (fun c23 => ?_) (fun c23 => ?_)
    · replace T := T.1 c23
      refine J_iinc (v := (v1 + 1)) (lv' := [(1, vI (v1 + 1)), (0, vR 61), (2, vI v2)]) 122 rfl 1 1 1 rfl rfl (by decide) rfl (D_X0_lay_1.at 19 rfl) ?_
      refine J_goto 2 (D_X0_lay_1.at 20 rfl) (by decide) ?_
      exact J_sub (lv' := [(0, vR 61), (1, vI (v1 + 1))]) [1, 0] rfl T
    replace T := T.2 c23
    refine J_aload_n 90 rfl 0 0 rfl ⟨by decide, by decide⟩ (D_X0_lay_1.at 1 rfl) ?_
    obtain ⟨s16, T⟩ := T
    refine J_getR (z := (h 61 6)) 93 rfl fl_0_32 rfl ob_61 (Ob.lt ob_61) (D_X0_lay_1.at 2 rfl) rfl ?_
    refine J_getF (ov := ((h 61 6) + 4)) (dd := 1004) 96 rfl fl_0_160 rfl (by decide) rfl s16 (Ob.lt s16) (D_X0_lay_1.at 3 rfl) ?_
    refine J_iload_n 97 rfl 1 1 rfl (D_X0_lay_1.at 4 rfl) ?_
    refine J_dup2 98 rfl rfl rfl (D_X0_lay_1.at 5 rfl) ?_
    obtain ⟨s17, T⟩ := T
    refine J_iald 99 rfl (of_9_3 s16) (Ar.lt (of_9_3 s16)) s17 (D_X0_lay_1.at 6 rfl) ?_
    refine J_aload_n 100 rfl 0 0 rfl ⟨by decide, by decide⟩ (D_X0_lay_1.at 7 rfl) ?_
    refine J_getF (ov := 65) (dd := 1004) 103 rfl fl_0_21 rfl (by decide) rfl ob_61 (Ob.lt ob_61) (D_X0_lay_1.at 8 rfl) ?_
    refine J_aload_n 104 rfl 0 0 rfl ⟨by decide, by decide⟩ (D_X0_lay_1.at 9 rfl) ?_
    obtain ⟨s18, T⟩ := T
    refine J_getR (z := (h 61 5)) 107 rfl fl_0_28 rfl ob_61 (Ob.lt ob_61) (D_X0_lay_1.at 10 rfl) rfl ?_
    refine J_getI (z := (h (h 61 5) 12)) 110 rfl fl_0_134 rfl s18 (Ob.lt s18) (D_X0_lay_1.at 11 rfl) rfl ?_
    refine J_iconst 111 rfl (D_X0_lay_1.at 12 rfl) ?_
    refine J_isub 112 rfl (D_X0_lay_1.at 13 rfl) ?_
    refine J_iload_n 113 rfl 1 1 rfl (D_X0_lay_1.at 14 rfl) ?_
    refine J_callSN (d' := 1) (K1 := fun z h0 => rok (some .int) z → JG w true m_X0_lay 2 NT NT 116 [(0, vR 61), (1, vI v1), (2, vI v2)] [vI z, vR 65, vI (h ((h 61 6) + 4) v1), vI v1, vR ((h 61 6) + 4)] h0 _) (sr := fun z => [vI z, vR 65, vI (h ((h 61 6) + 4) v1), vI v1, vR ((h 61 6) + 4)]) (as := [vI ((h (h 61 5) 12) - 1), vI v1]) (st := [vR 65, vI (h ((h 61 6) + 4) v1), vI v1, vR ((h 61 6) + 4)]) 116 rfl ok_X11_cell sm_X11_cell ml_0_66 rfl (by decide) ⟨Nat.le_refl _, Nat.le_refl _⟩ (Nat.le_of_ble_eq_true rfl) (D_X0_lay_1.at 15 rfl) (fun _ => rfl) (CGm_of2 (by decide) (by decide) trivial (Nat.le_of_ble_eq_true rfl) ?_) (fun _ _ kq hb => kq hb)
    refine J_iload_n 1 rfl 0 0 rfl (D_X11_cell_0.at 0 rfl) ?_
    refine J_bipush 3 rfl ⟨by decide, by decide⟩ (D_X11_cell_0.at 1 rfl) ?_
    refine J_imul 4 rfl (D_X11_cell_0.at 2 rfl) ?_
    refine J_iload_n 5 rfl 1 1 rfl (D_X11_cell_0.at 3 rfl) ?_
    refine J_iadd 6 rfl (D_X11_cell_0.at 4 rfl) ?_
    refine J_iret rfl (D_X11_cell_0.at 5 rfl) (fun _ => ?_)
    obtain ⟨s19, T⟩ := T
    refine J_iald 117 rfl ar_65 (Ar.lt ar_65) s19 (D_X0_lay_1.at 16 rfl) ?_
    refine J_iadd 118 rfl (D_X0_lay_1.at 17 rfl) ?_
    obtain ⟨s20, T⟩ := T
    refine J_iastH 119 rfl (of_9_3 s16) (Ar.lt (of_9_3 s16)) s20 trivial (D_X0_lay_1.at 18 rfl) (fun h21 e22 => ?_)
    replace T := T h21 e22
    refine J_iinc (v := (v1 + 1)) (lv' := [(1, vI (v1 + 1)), (0, vR 61), (2, vI v2)]) 122 rfl 1 1 1 rfl rfl (by decide) rfl (D_X0_lay_1.at 19 rfl) ?_
    refine J_goto 2 (D_X0_lay_1.at 20 rfl) (by decide) ?_
    exact J_sub (lv' := [(0, vR 61), (1, vI (v1 + 1))]) [1, 0] rfl T
  replace T := T.2 c30
  refine J_aload_n 48 rfl 0 0 rfl ⟨by decide, by decide⟩ (D_X0_lay_0.at 27 rfl) ?_
  obtain ⟨s24, T⟩ := T
  refine J_getR (z := (h 61 6)) 51 rfl fl_0_32 rfl ob_61 (Ob.lt ob_61) (D_X0_lay_0.at 28 rfl) rfl ?_
  refine J_getF (ov := ((h 61 6) + 2)) (dd := 1002) 54 rfl fl_0_159 rfl (by decide) rfl s24 (Ob.lt s24) (D_X0_lay_0.at 29 rfl) ?_
  refine J_iload_n 55 rfl 2 2 rfl (D_X0_lay_0.at 30 rfl) ?_
  refine J_iload_n 56 rfl 1 1 rfl (D_X0_lay_0.at 31 rfl) ?_
  refine J_callSN (d' := 1) (K1 := fun z h0 => rok (some .int) z → JG w true m_X0_lay 2 NT NT 59 [(0, vR 61), (1, vI v1), (2, vI v2)] [vI z, vR ((h 61 6) + 2)] h0 _) (sr := fun z => [vI z, vR ((h 61 6) + 2)]) (as := [vI v2, vI v1]) (st := [vR ((h 61 6) + 2)]) 59 rfl ok_X11_cell sm_X11_cell ml_0_66 rfl (by decide) ⟨Nat.le_refl _, Nat.le_refl _⟩ (Nat.le_of_ble_eq_true rfl) (D_X0_lay_0.at 32 rfl) (fun _ => rfl) (CGm_of2 (by decide) (by decide) trivial (Nat.le_of_ble_eq_true rfl) ?_) (fun _ _ kq hb => kq hb)
  refine J_iload_n 1 rfl 0 0 rfl (D_X11_cell_0.at 0 rfl) ?_
  refine J_bipush 3 rfl ⟨by decide, by decide⟩ (D_X11_cell_0.at 1 rfl) ?_
  refine J_imul 4 rfl (D_X11_cell_0.at 2 rfl) ?_
  refine J_iload_n 5 rfl 1 1 rfl (D_X11_cell_0.at 3 rfl) ?_
  refine J_iadd 6 rfl (D_X11_cell_0.at 4 rfl) ?_
  refine J_iret rfl (D_X11_cell_0.at 5 rfl) (fun _ => ?_)
  refine J_dup2 60 rfl rfl rfl (D_X0_lay_0.at 33 rfl) ?_
  obtain ⟨s25, T⟩ := T
  refine J_iald 61 rfl (of_9_1 s24) (Ar.lt (of_9_1 s24)) s25 (D_X0_lay_0.at 34 rfl) ?_
  refine J_aload_n 62 rfl 0 0 rfl ⟨by decide, by decide⟩ (D_X0_lay_0.at 35 rfl) ?_
  refine J_getF (ov := 64) (dd := 1003) 65 rfl fl_0_18 rfl (by decide) rfl ob_61 (Ob.lt ob_61) (D_X0_lay_0.at 36 rfl) ?_
  refine J_iload_n 66 rfl 2 2 rfl (D_X0_lay_0.at 37 rfl) ?_
  refine J_iload_n 67 rfl 1 1 rfl (D_X0_lay_0.at 38 rfl) ?_
  refine J_callSN (d' := 1) (K1 := fun z h0 => rok (some .int) z → JG w true m_X0_lay 2 NT NT 70 [(0, vR 61), (1, vI v1), (2, vI v2)] [vI z, vR 64, vI (h ((h 61 6) + 2) ((v2 * 10) + v1)), vI ((v2 * 10) + v1), vR ((h 61 6) + 2)] h0 _) (sr := fun z => [vI z, vR 64, vI (h ((h 61 6) + 2) ((v2 * 10) + v1)), vI ((v2 * 10) + v1), vR ((h 61 6) + 2)]) (as := [vI v2, vI v1]) (st := [vR 64, vI (h ((h 61 6) + 2) ((v2 * 10) + v1)), vI ((v2 * 10) + v1), vR ((h 61 6) + 2)]) 70 rfl ok_X11_cell sm_X11_cell ml_0_66 rfl (by decide) ⟨Nat.le_refl _, Nat.le_refl _⟩ (Nat.le_of_ble_eq_true rfl) (D_X0_lay_0.at 39 rfl) (fun _ => rfl) (CGm_of2 (by decide) (by decide) trivial (Nat.le_of_ble_eq_true rfl) ?_) (fun _ _ kq hb => kq hb)
  refine J_iload_n 1 rfl 0 0 rfl (D_X11_cell_0.at 0 rfl) ?_
  refine J_bipush 3 rfl ⟨by decide, by decide⟩ (D_X11_cell_0.at 1 rfl) ?_
  refine J_imul 4 rfl (D_X11_cell_0.at 2 rfl) ?_
  refine J_iload_n 5 rfl 1 1 rfl (D_X11_cell_0.at 3 rfl) ?_
  refine J_iadd 6 rfl (D_X11_cell_0.at 4 rfl) ?_
  refine J_iret rfl (D_X11_cell_0.at 5 rfl) (fun _ => ?_)
  obtain ⟨s26, T⟩ := T
  refine J_iald 71 rfl ar_64 (Ar.lt ar_64) s26 (D_X0_lay_0.at 40 rfl) ?_
  refine J_iadd 72 rfl (D_X0_lay_0.at 41 rfl) ?_
  obtain ⟨s27, T⟩ := T
  refine J_iastH 73 rfl (of_9_1 s24) (Ar.lt (of_9_1 s24)) s27 trivial (D_X0_lay_0.at 42 rfl) (fun h28 e29 => ?_)
  replace T := T h28 e29
  refine J_iinc (v := (v2 + 1)) (lv' := [(2, vI (v2 + 1)), (0, vR 61), (1, vI v1)]) 76 rfl 2 2 1 rfl rfl (by decide) rfl (D_X0_lay_0.at 43 rfl) ?_
  refine J_goto 36 (D_X0_lay_0.at 44 rfl) (by decide) ?_
  exact J_sub (lv' := [(0, vR 61), (1, vI v1), (2, vI (v2 + 1))]) [1, 2, 0] rfl T
theorem c_X3_keepBest {w : Wd} {h : Hp} {K : Int → Hp → Prop} (T : C_X11_total w 62 h (fun r1 h2 => ∀ h4 : Hp, h4 = hu h2 66 2 r1 → ∀ h6 : Hp, h6 = hcpy h4 62 0 67 0 8 → K 0 h6)) : C_X3_keepBest w h K := by
  refine CGm_of2 (by decide) (by decide) trivial (Nat.le_of_ble_eq_true rfl) ?_
  refine J_aload_n 1 rfl 0 0 rfl ⟨by decide, by decide⟩ (D_X3_keepBest_0.at 0 rfl) ?_
  refine J_aload_n 2 rfl 0 0 rfl ⟨by decide, by decide⟩ (D_X3_keepBest_0.at 1 rfl) ?_
  refine J_getF (ov := 61) (dd := 995) 5 rfl fl_3_19 rfl (by decide) rfl ob_66 (Ob.lt ob_66) (D_X3_keepBest_0.at 2 rfl) ?_
  refine J_getF (ov := 62) (dd := 1001) 8 rfl fl_3_37 rfl (by decide) rfl ob_61 (Ob.lt ob_61) (D_X3_keepBest_0.at 3 rfl) ?_
  refine J_callSN (d' := 1) (sr := fun z => [vI z, vR 66]) (as := [vR 62]) (st := [vR 66]) 11 rfl ok_X11_total sm_X11_total ml_3_56 rfl (by decide) ⟨Nat.le_refl _, Nat.le_refl _⟩ (Nat.le_of_ble_eq_true rfl) (D_X3_keepBest_0.at 4 rfl) (fun _ => rfl) T (fun r1 h2 T b3 => ?_)
  refine J_putI 14 rfl fl_3_15 rfl rfl ob_66 (Ob.lt ob_66) (D_X3_keepBest_0.at 5 rfl) (fun h4 e5 => ?_)
  replace T := T h4 e5
  refine J_aload_n 15 rfl 0 0 rfl ⟨by decide, by decide⟩ (D_X3_keepBest_0.at 6 rfl) ?_
  refine J_getF (ov := 61) (dd := 995) 18 rfl fl_3_19 rfl (by decide) rfl ob_66 (Ob.lt ob_66) (D_X3_keepBest_0.at 7 rfl) ?_
  refine J_getF (ov := 62) (dd := 1001) 21 rfl fl_3_37 rfl (by decide) rfl ob_61 (Ob.lt ob_61) (D_X3_keepBest_0.at 8 rfl) ?_
  refine J_iconst 22 rfl (D_X3_keepBest_0.at 9 rfl) ?_
  refine J_aload_n 23 rfl 0 0 rfl ⟨by decide, by decide⟩ (D_X3_keepBest_0.at 10 rfl) ?_
  refine J_getF (ov := 67) (dd := 1001) 26 rfl fl_3_9 rfl (by decide) rfl ob_66 (Ob.lt ob_66) (D_X3_keepBest_0.at 11 rfl) ?_
  refine J_iconst 27 rfl (D_X3_keepBest_0.at 12 rfl) ?_
  refine J_bipush 29 rfl ⟨by decide, by decide⟩ (D_X3_keepBest_0.at 13 rfl) ?_
  refine J_copyH 32 rfl ml_3_76 ar_62 ar_67 ⟨by decide, by decide, by decide, by decide, by decide⟩ rfl (by decide) (D_X3_keepBest_0.at 14 rfl) (fun h6 e7 => ?_)
  replace T := T h6 e7
  exact J_vret rfl (D_X3_keepBest_0.at 15 rfl) T
theorem c_X10_twoAt {w : Wd} {a1 : Int} {h : Hp} {K : Int → Hp → Prop} (T : C_X10_byteAt w a1 h (fun r1 h2 => C_X10_byteAt w (a1 + 1) h2 (fun r4 h5 => K ((256 * r1) + r4) h5))) : C_X10_twoAt w a1 h K := by
  refine CGm_of2 (by decide) (by decide) trivial (Nat.le_of_ble_eq_true rfl) ?_
  refine J_sipush 3 rfl ⟨by decide, by decide⟩ (D_X10_twoAt_0.at 0 rfl) ?_
  refine J_aload_n 4 rfl 0 0 rfl ⟨by decide, by decide⟩ (D_X10_twoAt_0.at 1 rfl) ?_
  refine J_iload_n 5 rfl 1 1 rfl (D_X10_twoAt_0.at 2 rfl) ?_
  refine J_callV (d' := 1) (sr := fun z => [vI z, vI 256]) (as := [vI a1]) (st := [vI 256]) (o := 1) 8 rfl ok_X10_byteAt im_X10_byteAt se_X10_byteAt ml_10_22 isC_10 ob_1 (Ob.lt ob_1) rfl (by decide) ⟨Nat.le_refl _, Nat.le_refl _⟩ (Nat.le_of_ble_eq_true rfl) (D_X10_twoAt_0.at 3 rfl) (fun _ => rfl) T (fun r1 h2 T b3 => ?_)
  refine J_imul 9 rfl (D_X10_twoAt_0.at 4 rfl) ?_
  refine J_aload_n 10 rfl 0 0 rfl ⟨by decide, by decide⟩ (D_X10_twoAt_0.at 5 rfl) ?_
  refine J_iload_n 11 rfl 1 1 rfl (D_X10_twoAt_0.at 6 rfl) ?_
  refine J_iconst 12 rfl (D_X10_twoAt_0.at 7 rfl) ?_
  refine J_iadd 13 rfl (D_X10_twoAt_0.at 8 rfl) ?_
  refine J_callV (d' := 1) (sr := fun z => [vI z, vI (256 * r1)]) (as := [vI (a1 + 1)]) (st := [vI (256 * r1)]) (o := 1) 16 rfl ok_X10_byteAt im_X10_byteAt se_X10_byteAt ml_10_22 isC_10 ob_1 (Ob.lt ob_1) rfl (by decide) ⟨Nat.le_refl _, Nat.le_refl _⟩ (Nat.le_of_ble_eq_true rfl) (D_X10_twoAt_0.at 9 rfl) (fun _ => rfl) T (fun r4 h5 T b6 => ?_)
  refine J_iadd 17 rfl (D_X10_twoAt_0.at 10 rfl) ?_
  exact J_iret rfl (D_X10_twoAt_0.at 11 rfl) T
theorem c_X10_number {w : Wd} {a1 a2 : Int} {h : Hp} {K : Int → Hp → Prop} (T : C_X10_next w h (fun _ h2 => C_X10_byteAt w (h2 1 2) h2 (fun r4 h5 => (inR r4) ∧ (((r4 < 48) → (L_X10_number_25 w h5 K)) ∧ (¬ (r4 < 48) → ((inR r4) ∧ (((r4 > 57) → (L_X10_number_25 w h5 K)) ∧ (¬ (r4 > 57) → (C_X10_isGlued w h5 (fun r9 h10 => (r9 = 0 ∨ r9 = 1) → ((r9 = 0) → (L_X10_number_37 w a1 a2 0 0 h10 K)) ∧ (¬ (r9 = 0) → (L_X10_number_25 w h10 K)))))))))))) : C_X10_number w a1 a2 h K := by
  refine CGm_of2 (by decide) (by decide) trivial (Nat.le_of_ble_eq_true rfl) ?_
  refine J_aload_n 1 rfl 0 0 rfl ⟨by decide, by decide⟩ (D_X10_number_0.at 0 rfl) ?_
  refine J_callV (d' := 1) (sr := fun z => []) (as := []) (st := []) (o := 1) 4 rfl ok_X10_next im_X10_next se_X10_next ml_10_39 isC_10 ob_1 (Ob.lt ob_1) rfl (by decide) ⟨Nat.le_refl _, Nat.le_refl _⟩ (Nat.le_of_ble_eq_true rfl) (D_X10_number_0.at 1 rfl) (fun _ => rfl) T (fun r1 h2 T b3 => ?_)
  refine J_aload_n 5 rfl 0 0 rfl ⟨by decide, by decide⟩ (D_X10_number_0.at 2 rfl) ?_
  refine J_aload_n 6 rfl 0 0 rfl ⟨by decide, by decide⟩ (D_X10_number_0.at 3 rfl) ?_
  refine J_getI (z := (h2 1 2)) 9 rfl fl_10_26 rfl ob_1 (Ob.lt ob_1) (D_X10_number_0.at 4 rfl) rfl ?_
  refine J_callV (d' := 1) (sr := fun z => [vI z]) (as := [vI (h2 1 2)]) (st := []) (o := 1) 12 rfl ok_X10_byteAt im_X10_byteAt se_X10_byteAt ml_10_22 isC_10 ob_1 (Ob.lt ob_1) rfl (by decide) ⟨Nat.le_refl _, Nat.le_refl _⟩ (Nat.le_of_ble_eq_true rfl) (D_X10_number_0.at 5 rfl) (fun _ => rfl) T (fun r4 h5 T b6 => ?_)
  refine J_callS (d' := 1) (K1 := fun z h0 => rok (some .boolean) z → JG w true m_X10_number 3 NT NT 15 [(0, vR 1), (1, vI a1), (2, vI a2)] [vI z] h0 _) (sr := fun z => [vI z]) (as := [vI r4]) (st := []) 15 rfl ok_X10_isDigit sm_X10_isDigit ml_10_42 rfl (by decide) ⟨Nat.le_refl _, Nat.le_refl _⟩ (Nat.le_of_ble_eq_true rfl) (D_X10_number_0.at 6 rfl) (fun _ => rfl) (CGm_of2 (by decide) (by decide) trivial (Nat.le_of_ble_eq_true rfl) ?_) (fun _ _ kq hb => kq hb)
  refine J_iload_n 1 rfl 0 0 rfl (D_X10_isDigit_0.at 0 rfl) ?_
  refine J_bipush 3 rfl ⟨by decide, by decide⟩ (D_X10_isDigit_0.at 1 rfl) ?_
  obtain ⟨s7, T⟩ := T
  refine J_icmp_lt 6 rfl 16 s7 ⟨by decide, by decide⟩ (D_X10_isDigit_0.at 2 rfl) (by decide) (fun c14 => ?_) (fun c14 => ?_)
  · replace T := T.1 c14
    refine J_iconst 17 rfl (D_X10_isDigit_0.at 8 rfl) ?_
    refine J_zret rfl (Or.inl rfl) (D_X10_isDigit_0.at 9 rfl) (fun _ => ?_)
    refine J_if_eq 18 rfl 25 ⟨by decide, by decide⟩ (D_X10_number_0.at 7 rfl) (by decide) (fun _ => ?_) (fun c => absurd (by decide) c)
    exact J_sub (lv' := [(0, vR 1)]) [0] rfl T
  replace T := T.2 c14
  refine J_iload_n 7 rfl 0 0 rfl (D_X10_isDigit_0.at 3 rfl) ?_
  refine J_bipush 9 rfl ⟨by decide, by decide⟩ (D_X10_isDigit_0.at 4 rfl) ?_
  obtain ⟨s8, T⟩ := T
  refine J_icmp_gt 12 rfl 16 s8 ⟨by decide, by decide⟩ (D_X10_isDigit_0.at 5 rfl) (by decide) (fun c13 => ?_) (fun c13 => ?_)
  · replace T := T.1 c13
    refine J_iconst 17 rfl (D_X10_isDigit_0.at 8 rfl) ?_
    refine J_zret rfl (Or.inl rfl) (D_X10_isDigit_0.at 9 rfl) (fun _ => ?_)
    refine J_if_eq 18 rfl 25 ⟨by decide, by decide⟩ (D_X10_number_0.at 7 rfl) (by decide) (fun _ => ?_) (fun c => absurd (by decide) c)
    exact J_sub (lv' := [(0, vR 1)]) [0] rfl T
  replace T := T.2 c13
  refine J_iconst 13 rfl (D_X10_isDigit_0.at 6 rfl) ?_
  refine J_goto 17 (D_X10_isDigit_0.at 7 rfl) (by decide) ?_
  refine J_zret rfl (Or.inr rfl) (D_X10_isDigit_0.at 9 rfl) (fun _ => ?_)
  refine J_if_eq 18 rfl 25 ⟨by decide, by decide⟩ (D_X10_number_0.at 7 rfl) (by decide) (fun c => absurd c (by decide)) (fun _ => ?_)
  refine J_aload_n 19 rfl 0 0 rfl ⟨by decide, by decide⟩ (D_X10_number_0.at 8 rfl) ?_
  refine J_callV (d' := 1) (sr := fun z => [vI z]) (as := []) (st := []) (o := 1) 22 rfl ok_X10_isGlued im_X10_isGlued se_X10_isGlued ml_10_66 isC_10 ob_1 (Ob.lt ob_1) rfl (by decide) ⟨Nat.le_refl _, Nat.le_refl _⟩ (Nat.le_of_ble_eq_true rfl) (D_X10_number_0.at 9 rfl) (fun _ => rfl) T (fun r9 h10 T b11 => ?_)
  replace T := T b11
  refine J_if_eq 25 rfl 32 (inR_b b11) (D_X10_number_0.at 10 rfl) (by decide) (fun c12 => ?_) (fun c12 => ?_)
  · replace T := T.1 c12
    refine J_iconst 33 rfl (D_X10_number_0.at 16 rfl) ?_
    refine J_istore_n (lv' := [(3, vI 0), (0, vR 1), (1, vI a1), (2, vI a2)]) 34 rfl 3 (by decide) rfl (D_X10_number_0.at 17 rfl) ?_
    refine J_iconst 35 rfl (D_X10_number_0.at 18 rfl) ?_
    refine J_istore (lv' := [(4, vI 0), (3, vI 0), (0, vR 1), (1, vI a1), (2, vI a2)]) 37 rfl 4 (by decide) rfl (D_X10_number_0.at 19 rfl) ?_
    exact J_sub (lv' := [(0, vR 1), (1, vI a1), (2, vI a2), (3, vI 0), (4, vI 0)]) [2, 3, 4, 1, 0] rfl T
  replace T := T.2 c12
  exact J_sub (lv' := [(0, vR 1)]) [0] rfl T
theorem l_X10_number_37 {w : Wd} {v1 v2 v3 v4 : Int} {h : Hp} {K : Int → Hp → Prop} (T : (inR v4) ∧ (((v4 ≥ 4) → (L_X10_number_90 w v1 v2 v3 h K)) ∧ (¬ (v4 ≥ 4) → (C_X10_byteAt w (h 1 2) h (fun r16 h17 => (inR r16) ∧ (((r16 < 48) → (L_X10_number_90 w v1 v2 v3 h17 K)) ∧ (¬ (r16 < 48) → ((inR r16) ∧ (((r16 > 57) → (L_X10_number_90 w v1 v2 v3 h17 K)) ∧ (¬ (r16 > 57) → (C_X10_byteAt w (h17 1 2) h17 (fun r21 h22 => ∀ h24 : Hp, h24 = hu h22 1 2 ((h22 1 2) + 1) → L_X10_number_37 w v1 v2 (((10 * v3) + r21) - 48) (v4 + 1) h24 K)))))))))))) : L_X10_number_37 w v1 v2 v3 v4 h K := by
  unfold L_X10_number_37
  refine J_iload 39 rfl 4 4 rfl (D_X10_number_0.at 20 rfl) ?_
  refine J_iconst 40 rfl (D_X10_number_0.at 21 rfl) ?_
  obtain ⟨s15, T⟩ := T
  refine J_icmp_ge 43 rfl 90 s15 ⟨by decide, by decide⟩ (D_X10_number_0.at 22 rfl) (by decide) (fun c28 => ?_) (fun c28 => ?_)
  · replace T := T.1 c28
    exact J_sub (lv' := [(0, vR 1), (1, vI v1), (2, vI v2), (3, vI v3)]) [0, 1, 2, 3] rfl T
  replace T := T.2 c28
  refine J_aload_n 44 rfl 0 0 rfl ⟨by decide, by decide⟩ (D_X10_number_0.at 23 rfl) ?_
  refine J_aload_n 45 rfl 0 0 rfl ⟨by decide, by decide⟩ (D_X10_number_0.at 24 rfl) ?_
  refine J_getI (z := (h 1 2)) 48 rfl fl_10_26 rfl ob_1 (Ob.lt ob_1) (D_X10_number_0.at 25 rfl) rfl ?_
  refine J_callV (d' := 1) (sr := fun z => [vI z]) (as := [vI (h 1 2)]) (st := []) (o := 1) 51 rfl ok_X10_byteAt im_X10_byteAt se_X10_byteAt ml_10_22 isC_10 ob_1 (Ob.lt ob_1) rfl (by decide) ⟨Nat.le_refl _, Nat.le_refl _⟩ (Nat.le_of_ble_eq_true rfl) (D_X10_number_0.at 26 rfl) (fun _ => rfl) T (fun r16 h17 T b18 => ?_)
  refine J_callS (d' := 1) (K1 := fun z h0 => rok (some .boolean) z → JG w true m_X10_number 3 NT NT 54 [(0, vR 1), (1, vI v1), (2, vI v2), (3, vI v3), (4, vI v4)] [vI z] h0 _) (sr := fun z => [vI z]) (as := [vI r16]) (st := []) 54 rfl ok_X10_isDigit sm_X10_isDigit ml_10_42 rfl (by decide) ⟨Nat.le_refl _, Nat.le_refl _⟩ (Nat.le_of_ble_eq_true rfl) (D_X10_number_0.at 27 rfl) (fun _ => rfl) (CGm_of2 (by decide) (by decide) trivial (Nat.le_of_ble_eq_true rfl) ?_) (fun _ _ kq hb => kq hb)
  refine J_iload_n 1 rfl 0 0 rfl (D_X10_isDigit_0.at 0 rfl) ?_
  refine J_bipush 3 rfl ⟨by decide, by decide⟩ (D_X10_isDigit_0.at 1 rfl) ?_
  obtain ⟨s19, T⟩ := T
  refine J_icmp_lt 6 rfl 16 s19 ⟨by decide, by decide⟩ (D_X10_isDigit_0.at 2 rfl) (by decide) (fun c27 => ?_) (fun c27 => ?_)
  · replace T := T.1 c27
    refine J_iconst 17 rfl (D_X10_isDigit_0.at 8 rfl) ?_
    refine J_zret rfl (Or.inl rfl) (D_X10_isDigit_0.at 9 rfl) (fun _ => ?_)
    refine J_if_eq 57 rfl 90 ⟨by decide, by decide⟩ (D_X10_number_0.at 28 rfl) (by decide) (fun _ => ?_) (fun c => absurd (by decide) c)
    exact J_sub (lv' := [(0, vR 1), (1, vI v1), (2, vI v2), (3, vI v3)]) [0, 1, 2, 3] rfl T
  replace T := T.2 c27
  refine J_iload_n 7 rfl 0 0 rfl (D_X10_isDigit_0.at 3 rfl) ?_
  refine J_bipush 9 rfl ⟨by decide, by decide⟩ (D_X10_isDigit_0.at 4 rfl) ?_
  obtain ⟨s20, T⟩ := T
  refine J_icmp_gt 12 rfl 16 s20 ⟨by decide, by decide⟩ (D_X10_isDigit_0.at 5 rfl) (by decide) (fun c26 => ?_) (fun c26 => ?_)
  · replace T := T.1 c26
    refine J_iconst 17 rfl (D_X10_isDigit_0.at 8 rfl) ?_
    refine J_zret rfl (Or.inl rfl) (D_X10_isDigit_0.at 9 rfl) (fun _ => ?_)
    refine J_if_eq 57 rfl 90 ⟨by decide, by decide⟩ (D_X10_number_0.at 28 rfl) (by decide) (fun _ => ?_) (fun c => absurd (by decide) c)
    exact J_sub (lv' := [(0, vR 1), (1, vI v1), (2, vI v2), (3, vI v3)]) [0, 1, 2, 3] rfl T
  replace T := T.2 c26
  refine J_iconst 13 rfl (D_X10_isDigit_0.at 6 rfl) ?_
  refine J_goto 17 (D_X10_isDigit_0.at 7 rfl) (by decide) ?_
  refine J_zret rfl (Or.inr rfl) (D_X10_isDigit_0.at 9 rfl) (fun _ => ?_)
  refine J_if_eq 57 rfl 90 ⟨by decide, by decide⟩ (D_X10_number_0.at 28 rfl) (by decide) (fun c => absurd c (by decide)) (fun _ => ?_)
  refine J_bipush 59 rfl ⟨by decide, by decide⟩ (D_X10_number_0.at 29 rfl) ?_
  refine J_iload_n 60 rfl 3 3 rfl (D_X10_number_0.at 30 rfl) ?_
  refine J_imul 61 rfl (D_X10_number_0.at 31 rfl) ?_
  refine J_aload_n 62 rfl 0 0 rfl ⟨by decide, by decide⟩ (D_X10_number_0.at 32 rfl) ?_
  refine J_aload_n 63 rfl 0 0 rfl ⟨by decide, by decide⟩ (D_X10_number_0.at 33 rfl) ?_
  refine J_getI (z := (h17 1 2)) 66 rfl fl_10_26 rfl ob_1 (Ob.lt ob_1) (D_X10_number_0.at 34 rfl) rfl ?_
  refine J_callV (d' := 1) (sr := fun z => [vI z, vI (10 * v3)]) (as := [vI (h17 1 2)]) (st := [vI (10 * v3)]) (o := 1) 69 rfl ok_X10_byteAt im_X10_byteAt se_X10_byteAt ml_10_22 isC_10 ob_1 (Ob.lt ob_1) rfl (by decide) ⟨Nat.le_refl _, Nat.le_refl _⟩ (Nat.le_of_ble_eq_true rfl) (D_X10_number_0.at 35 rfl) (fun _ => rfl) T (fun r21 h22 T b23 => ?_)
  refine J_iadd 70 rfl (D_X10_number_0.at 36 rfl) ?_
  refine J_bipush 72 rfl ⟨by decide, by decide⟩ (D_X10_number_0.at 37 rfl) ?_
  refine J_isub 73 rfl (D_X10_number_0.at 38 rfl) ?_
  refine J_istore_n (lv' := [(3, vI (((10 * v3) + r21) - 48)), (0, vR 1), (1, vI v1), (2, vI v2), (4, vI v4)]) 74 rfl 3 (by decide) rfl (D_X10_number_0.at 39 rfl) ?_
  refine J_aload_n 75 rfl 0 1 rfl ⟨by decide, by decide⟩ (D_X10_number_0.at 40 rfl) ?_
  refine J_dup 76 rfl rfl (D_X10_number_0.at 41 rfl) ?_
  refine J_getI (z := (h22 1 2)) 79 rfl fl_10_26 rfl ob_1 (Ob.lt ob_1) (D_X10_number_0.at 42 rfl) rfl ?_
  refine J_iconst 80 rfl (D_X10_number_0.at 43 rfl) ?_
  refine J_iadd 81 rfl (D_X10_number_0.at 44 rfl) ?_
  refine J_putI 84 rfl fl_10_26 rfl rfl ob_1 (Ob.lt ob_1) (D_X10_number_0.at 45 rfl) (fun h24 e25 => ?_)
  replace T := T h24 e25
  refine J_iinc (v := (v4 + 1)) (lv' := [(4, vI (v4 + 1)), (3, vI (((10 * v3) + r21) - 48)), (0, vR 1), (1, vI v1), (2, vI v2)]) 87 rfl 4 4 1 rfl rfl (by decide) rfl (D_X10_number_0.at 46 rfl) ?_
  refine J_goto 37 (D_X10_number_0.at 47 rfl) (by decide) ?_
  exact J_sub (lv' := [(0, vR 1), (1, vI v1), (2, vI v2), (3, vI (((10 * v3) + r21) - 48)), (4, vI (v4 + 1))]) [2, 3, 4, 1, 0] rfl T
theorem l_X10_number_90 {w : Wd} {v1 v2 v3 : Int} {h : Hp} {K : Int → Hp → Prop} (T : C_X10_byteAt w (h 1 2) h (fun r29 h30 => (inR r29) ∧ (((r29 < 48) → ((inR v3) ∧ ((inR v1) ∧ (((v3 < v1) → (L_X10_number_121 w h30 K)) ∧ (¬ (v3 < v1) → ((inR v3) ∧ ((inR v2) ∧ (((v3 ≤ v2) → (K v3 h30)) ∧ (¬ (v3 ≤ v2) → (L_X10_number_121 w h30 K)))))))))) ∧ (¬ (r29 < 48) → ((inR r29) ∧ (((r29 > 57) → ((inR v3) ∧ ((inR v1) ∧ (((v3 < v1) → (L_X10_number_121 w h30 K)) ∧ (¬ (v3 < v1) → ((inR v3) ∧ ((inR v2) ∧ (((v3 ≤ v2) → (K v3 h30)) ∧ (¬ (v3 ≤ v2) → (L_X10_number_121 w h30 K)))))))))) ∧ (¬ (r29 > 57) → (C_X10_failHere w h30 (fun r46 h47 => (r46 = 0 ∨ r46 = 1) → K (-1) h47))))))))) : L_X10_number_90 w v1 v2 v3 h K := by
  unfold L_X10_number_90
  refine J_aload_n 91 rfl 0 0 rfl ⟨by decide, by decide⟩ (D_X10_number_1.at 0 rfl) ?_
  refine J_aload_n 92 rfl 0 0 rfl ⟨by decide, by decide⟩ (D_X10_number_1.at 1 rfl) ?_
  refine J_getI (z := (h 1 2)) 95 rfl fl_10_26 rfl ob_1 (Ob.lt ob_1) (D_X10_number_1.at 2 rfl) rfl ?_
  refine J_callV (d' := 1) (sr := fun z => [vI z]) (as := [vI (h 1 2)]) (st := []) (o := 1) 98 rfl ok_X10_byteAt im_X10_byteAt se_X10_byteAt ml_10_22 isC_10 ob_1 (Ob.lt ob_1) rfl (by decide) ⟨Nat.le_refl _, Nat.le_refl _⟩ (Nat.le_of_ble_eq_true rfl) (D_X10_number_1.at 3 rfl) (fun _ => rfl) T (fun r29 h30 T b31 => ?_)
  refine J_callS (d' := 1) (K1 := fun z h0 => rok (some .boolean) z → JG w true m_X10_number 3 NT NT 101 [(0, vR 1), (1, vI v1), (2, vI v2), (3, vI v3)] [vI z] h0 _) (sr := fun z => [vI z]) (as := [vI r29]) (st := []) 101 rfl ok_X10_isDigit sm_X10_isDigit ml_10_42 rfl (by decide) ⟨Nat.le_refl _, Nat.le_refl _⟩ (Nat.le_of_ble_eq_true rfl) (D_X10_number_1.at 4 rfl) (fun _ => rfl) (CGm_of2 (by decide) (by decide) trivial (Nat.le_of_ble_eq_true rfl) ?_) (fun _ _ kq hb => kq hb)
  refine J_iload_n 1 rfl 0 0 rfl (D_X10_isDigit_0.at 0 rfl) ?_
  refine J_bipush 3 rfl ⟨by decide, by decide⟩ (D_X10_isDigit_0.at 1 rfl) ?_
  obtain ⟨s32, T⟩ := T
  refine J_icmp_lt 6 rfl 16 s32 ⟨by decide, by decide⟩ (D_X10_isDigit_0.at 2 rfl) (by decide) (fun c50 => ?_) (fun c50 => ?_)
  · replace T := T.1 c50
    refine J_iconst 17 rfl (D_X10_isDigit_0.at 8 rfl) ?_
    refine J_zret rfl (Or.inl rfl) (D_X10_isDigit_0.at 9 rfl) (fun _ => ?_)
    refine J_if_eq 104 rfl 111 ⟨by decide, by decide⟩ (D_X10_number_1.at 5 rfl) (by decide) (fun _ => ?_) (fun c => absurd (by decide) c)
    refine J_iload_n 112 rfl 3 3 rfl (D_X10_number_1.at 11 rfl) ?_
    refine J_iload_n 113 rfl 1 1 rfl (D_X10_number_1.at 12 rfl) ?_
    obtain ⟨s33, T⟩ := T
    obtain ⟨s34, T⟩ := T
    refine J_icmp_lt 116 rfl 121 s33 s34 (D_X10_number_1.at 13 rfl) (by decide) (fun c38 => ?_) (fun c38 => ?_)
    · replace T := T.1 c38
      exact J_sub (lv' := [(0, vR 1)]) [0] rfl T
    replace T := T.2 c38
    refine J_iload_n 117 rfl 3 3 rfl (D_X10_number_1.at 14 rfl) ?_
    refine J_iload_n 118 rfl 2 2 rfl (D_X10_number_1.at 15 rfl) ?_
    obtain ⟨s35, T⟩ := T
    obtain ⟨s36, T⟩ := T
    refine J_icmp_le 121 rfl 133 s35 s36 (D_X10_number_1.at 16 rfl) (by decide) (fun c37 => ?_) (fun c37 => ?_)
    · replace T := T.1 c37
      refine J_iload_n 134 rfl 3 3 rfl (D_X10_number_1.at 25 rfl) ?_
      exact J_iret rfl (D_X10_number_1.at 26 rfl) T
    replace T := T.2 c37
    exact J_sub (lv' := [(0, vR 1)]) [0] rfl T
  replace T := T.2 c50
  refine J_iload_n 7 rfl 0 0 rfl (D_X10_isDigit_0.at 3 rfl) ?_
  refine J_bipush 9 rfl ⟨by decide, by decide⟩ (D_X10_isDigit_0.at 4 rfl) ?_
  obtain ⟨s39, T⟩ := T
  refine J_icmp_gt 12 rfl 16 s39 ⟨by decide, by decide⟩ (D_X10_isDigit_0.at 5 rfl) (by decide) (fun c49 => ?_) (fun c49 => ?_)
  · replace T := T.1 c49
    refine J_iconst 17 rfl (D_X10_isDigit_0.at 8 rfl) ?_
    refine J_zret rfl (Or.inl rfl) (D_X10_isDigit_0.at 9 rfl) (fun _ => ?_)
    refine J_if_eq 104 rfl 111 ⟨by decide, by decide⟩ (D_X10_number_1.at 5 rfl) (by decide) (fun _ => ?_) (fun c => absurd (by decide) c)
    refine J_iload_n 112 rfl 3 3 rfl (D_X10_number_1.at 11 rfl) ?_
    refine J_iload_n 113 rfl 1 1 rfl (D_X10_number_1.at 12 rfl) ?_
    obtain ⟨s40, T⟩ := T
    obtain ⟨s41, T⟩ := T
    refine J_icmp_lt 116 rfl 121 s40 s41 (D_X10_number_1.at 13 rfl) (by decide) (fun c45 => ?_) (fun c45 => ?_)
    · replace T := T.1 c45
      exact J_sub (lv' := [(0, vR 1)]) [0] rfl T
    replace T := T.2 c45
    refine J_iload_n 117 rfl 3 3 rfl (D_X10_number_1.at 14 rfl) ?_
    refine J_iload_n 118 rfl 2 2 rfl (D_X10_number_1.at 15 rfl) ?_
    obtain ⟨s42, T⟩ := T
    obtain ⟨s43, T⟩ := T
    refine J_icmp_le 121 rfl 133 s42 s43 (D_X10_number_1.at 16 rfl) (by decide) (fun c44 => ?_) (fun c44 => ?_)
    · replace T := T.1 c44
      refine J_iload_n 134 rfl 3 3 rfl (D_X10_number_1.at 25 rfl) ?_
      exact J_iret rfl (D_X10_number_1.at 26 rfl) T
    replace T := T.2 c44
    exact J_sub (lv' := [(0, vR 1)]) [0] rfl T
  replace T := T.2 c49
  refine J_iconst 13 rfl (D_X10_isDigit_0.at 6 rfl) ?_
  refine J_goto 17 (D_X10_isDigit_0.at 7 rfl) (by decide) ?_
  refine J_zret rfl (Or.inr rfl) (D_X10_isDigit_0.at 9 rfl) (fun _ => ?_)
  refine J_if_eq 104 rfl 111 ⟨by decide, by decide⟩ (D_X10_number_1.at 5 rfl) (by decide) (fun c => absurd c (by decide)) (fun _ => ?_)
  refine J_aload_n 105 rfl 0 0 rfl ⟨by decide, by decide⟩ (D_X10_number_1.at 6 rfl) ?_
  refine J_callV (d' := 2) (sr := fun z => [vI z]) (as := []) (st := []) (o := 1) 108 rfl ok_X10_failHere im_X10_failHere se_X10_failHere ml_10_50 isC_10 ob_1 (Ob.lt ob_1) rfl (by decide) ⟨Nat.le_refl _, Nat.le_refl _⟩ (Nat.le_of_ble_eq_true rfl) (D_X10_number_1.at 7 rfl) (fun _ => rfl) T (fun r46 h47 T b48 => ?_)
  replace T := T b48
  refine J_pop 109 rfl rfl (D_X10_number_1.at 8 rfl) ?_
  refine J_iconst 110 rfl (D_X10_number_1.at 9 rfl) ?_
  exact J_iret rfl (D_X10_number_1.at 10 rfl) T
theorem l_X10_number_121 {w : Wd} {h : Hp} {K : Int → Hp → Prop} (T : C_X10_fail w 2 (h 1 3) h (fun r51 h52 => (r51 = 0 ∨ r51 = 1) → K (-1) h52)) : L_X10_number_121 w h K := by
  unfold L_X10_number_121
  refine J_aload_n 122 rfl 0 0 rfl ⟨by decide, by decide⟩ (D_X10_number_1.at 17 rfl) ?_
  refine J_iconst 123 rfl (D_X10_number_1.at 18 rfl) ?_
  refine J_aload_n 124 rfl 0 0 rfl ⟨by decide, by decide⟩ (D_X10_number_1.at 19 rfl) ?_
  refine J_getI (z := (h 1 3)) 127 rfl fl_10_29 rfl ob_1 (Ob.lt ob_1) (D_X10_number_1.at 20 rfl) rfl ?_
  refine J_callV (d' := 1) (sr := fun z => [vI z]) (as := [vI 2, vI (h 1 3)]) (st := []) (o := 1) 130 rfl ok_X10_fail im_X10_fail se_X10_fail ml_10_35 isC_10 ob_1 (Ob.lt ob_1) rfl (by decide) ⟨Nat.le_refl _, Nat.le_refl _⟩ (Nat.le_of_ble_eq_true rfl) (D_X10_number_1.at 21 rfl) (fun _ => rfl) T (fun r51 h52 T b53 => ?_)
  replace T := T b53
  refine J_pop 131 rfl rfl (D_X10_number_1.at 22 rfl) ?_
  refine J_iconst 132 rfl (D_X10_number_1.at 23 rfl) ?_
  exact J_iret rfl (D_X10_number_1.at 24 rfl) T
theorem l_X10_number_25 {w : Wd} {h : Hp} {K : Int → Hp → Prop} (T : C_X10_failHere w h (fun r54 h55 => (r54 = 0 ∨ r54 = 1) → K (-1) h55)) : L_X10_number_25 w h K := by
  unfold L_X10_number_25
  refine J_aload_n 26 rfl 0 0 rfl ⟨by decide, by decide⟩ (D_X10_number_0.at 11 rfl) ?_
  refine J_callV (d' := 2) (sr := fun z => [vI z]) (as := []) (st := []) (o := 1) 29 rfl ok_X10_failHere im_X10_failHere se_X10_failHere ml_10_50 isC_10 ob_1 (Ob.lt ob_1) rfl (by decide) ⟨Nat.le_refl _, Nat.le_refl _⟩ (Nat.le_of_ble_eq_true rfl) (D_X10_number_0.at 12 rfl) (fun _ => rfl) T (fun r54 h55 T b56 => ?_)
  replace T := T b56
  refine J_pop 30 rfl rfl (D_X10_number_0.at 13 rfl) ?_
  refine J_iconst 31 rfl (D_X10_number_0.at 14 rfl) ?_
  exact J_iret rfl (D_X10_number_0.at 15 rfl) T
theorem c_X10_needSign {w : Wd} {a1 : Int} {h : Hp} {K : Int → Hp → Prop} (T : C_X10_sign w a1 h (fun r1 h2 => (r1 = 0 ∨ r1 = 1) → ((r1 ≠ 0) → (K 1 h2)) ∧ (¬ (r1 ≠ 0) → (C_X10_failHere w h2 (fun r4 h5 => (r4 = 0 ∨ r4 = 1) → ((r4 = 0) → (K 0 h5)) ∧ (¬ (r4 = 0) → (K 1 h5))))))) : C_X10_needSign w a1 h K := by
  refine CGm_of2 (by decide) (by decide) trivial (Nat.le_of_ble_eq_true rfl) ?_
  refine J_aload_n 1 rfl 0 0 rfl ⟨by decide, by decide⟩ (D_X10_needSign_0.at 0 rfl) ?_
  refine J_iload_n 2 rfl 1 1 rfl (D_X10_needSign_0.at 1 rfl) ?_
  refine J_callV (d' := 2) (sr := fun z => [vI z]) (as := [vI a1]) (st := []) (o := 1) 5 rfl ok_X10_sign im_X10_sign se_X10_sign ml_10_46 isC_10 ob_1 (Ob.lt ob_1) rfl (by decide) ⟨Nat.le_refl _, Nat.le_refl _⟩ (Nat.le_of_ble_eq_true rfl) (D_X10_needSign_0.at 2 rfl) (fun _ => rfl) T (fun r1 h2 T b3 => ?_)
  replace T := T b3
  refine J_if_ne 8 rfl 15 (inR_b b3) (D_X10_needSign_0.at 3 rfl) (by decide) (fun c8 => ?_) (fun c8 => ?_)
  · replace T := T.1 c8
    refine J_iconst 16 rfl (D_X10_needSign_0.at 7 rfl) ?_
    refine J_goto 20 (D_X10_needSign_0.at 8 rfl) (by decide) ?_
    exact J_zret rfl (Or.inr rfl) (D_X10_needSign_0.at 10 rfl) T
  replace T := T.2 c8
  refine J_aload_n 9 rfl 0 0 rfl ⟨by decide, by decide⟩ (D_X10_needSign_0.at 4 rfl) ?_
  refine J_callV (d' := 2) (sr := fun z => [vI z]) (as := []) (st := []) (o := 1) 12 rfl ok_X10_failHere im_X10_failHere se_X10_failHere ml_10_50 isC_10 ob_1 (Ob.lt ob_1) rfl (by decide) ⟨Nat.le_refl _, Nat.le_refl _⟩ (Nat.le_of_ble_eq_true rfl) (D_X10_needSign_0.at 5 rfl) (fun _ => rfl) T (fun r4 h5 T b6 => ?_)
  replace T := T b6
  refine J_if_eq 15 rfl 19 (inR_b b6) (D_X10_needSign_0.at 6 rfl) (by decide) (fun c7 => ?_) (fun c7 => ?_)
  · replace T := T.1 c7
    refine J_iconst 20 rfl (D_X10_needSign_0.at 9 rfl) ?_
    exact J_zret rfl (Or.inl rfl) (D_X10_needSign_0.at 10 rfl) T
  replace T := T.2 c7
  refine J_iconst 16 rfl (D_X10_needSign_0.at 7 rfl) ?_
  refine J_goto 20 (D_X10_needSign_0.at 8 rfl) (by decide) ?_
  exact J_zret rfl (Or.inr rfl) (D_X10_needSign_0.at 10 rfl) T
theorem c_X6_reckon {w : Wd} {a1 : Int} (ha1 : Ob 1 a1) {h : Hp} {K : Int → Hp → Prop} (T : ∀ h1 : Hp, h1 = hu h 52 4 0 → L_X6_reckon_7 w a1 0 h1 K) : C_X6_reckon w a1 h K := by
  refine CGm_of2 (by decide) (by decide) trivial (Nat.le_of_ble_eq_true rfl) ?_
  refine J_aload_n 1 rfl 0 0 rfl ⟨by decide, by decide⟩ (D_X6_reckon_0.at 0 rfl) ?_
  refine J_iconst 2 rfl (D_X6_reckon_0.at 1 rfl) ?_
  refine J_putI 5 rfl fl_6_24 rfl rfl ob_52 (Ob.lt ob_52) (D_X6_reckon_0.at 2 rfl) (fun h1 e2 => ?_)
  replace T := T h1 e2
  refine J_iconst 6 rfl (D_X6_reckon_0.at 3 rfl) ?_
  refine J_istore_n (lv' := [(2, vI 0), (0, vR 52), (1, vR a1)]) 7 rfl 2 (by decide) rfl (D_X6_reckon_0.at 4 rfl) ?_
  exact J_sub (lv' := [(0, vR 52), (1, vR a1), (2, vI 0)]) [1, 2, 0] rfl T
theorem l_X6_reckon_7 {w : Wd} {v1 v2 : Int} (hv1 : Ob 1 v1) {h : Hp} {K : Int → Hp → Prop} (T : (inR v2) ∧ ((inR (h v1 1)) ∧ (((v2 ≥ (h v1 1)) → (C_X6_pop w h (fun r5 h6 => K r5 h6))) ∧ (¬ (v2 ≥ (h v1 1)) → ((inR v2) ∧ (((v2 ≥ 1600) → (C_X6_pop w h (fun r9 h10 => K r9 h10))) ∧ (¬ (v2 ≥ 1600) → ((0 ≤ v2 ∧ v2 < 1600) ∧ ((inR (h (v1 + 1) v2)) ∧ ((((h (v1 + 1) v2) < 0) → ((inR (h (v1 + 1) v2)) ∧ ((((h (v1 + 1) v2) > (-20)) → ((inR (h (v1 + 1) v2)) ∧ ((((h (v1 + 1) v2) ≠ (-12)) → ((inR (h (v1 + 1) v2)) ∧ ((((h (v1 + 1) v2) ≠ (-13)) → ((inR (h (v1 + 1) v2)) ∧ ((((h (v1 + 1) v2) ≠ (-14)) → (C_X6_pop w h (fun r18 h19 => C_X6_pop w h19 (fun r21 h22 => C_X6_join w (h (v1 + 1) v2) r21 r18 h22 (fun r24 h25 => C_X6_push w r24 h25 (fun _ h28 => L_X6_reckon_7 w v1 (v2 + 1) h28 K)))))) ∧ (¬ ((h (v1 + 1) v2) ≠ (-14)) → (C_X6_pop w h (fun r30 h31 => C_X6_entry w 56 r30 h31 (fun r33 h34 => C_X6_push w r33 h34 (fun _ h37 => L_X6_reckon_7 w v1 (v2 + 1) h37 K)))))))) ∧ (¬ ((h (v1 + 1) v2) ≠ (-13)) → (C_X6_pop w h (fun r40 h41 => C_X6_entry w 55 r40 h41 (fun r43 h44 => C_X6_push w r43 h44 (fun _ h47 => L_X6_reckon_7 w v1 (v2 + 1) h47 K)))))))) ∧ (¬ ((h (v1 + 1) v2) ≠ (-12)) → (C_X6_pop w h (fun r50 h51 => C_X6_push w (1 - r50) h51 (fun _ h54 => L_X6_reckon_7 w v1 (v2 + 1) h54 K))))))) ∧ (¬ ((h (v1 + 1) v2) > (-20)) → (C_X6_entry w 54 ((-20) - (h (v1 + 1) v2)) h (fun r57 h58 => C_X6_push w r57 h58 (fun _ h61 => L_X6_reckon_7 w v1 (v2 + 1) h61 K))))))) ∧ (¬ ((h (v1 + 1) v2) < 0) → (C_X6_push w (h (v1 + 1) v2) h (fun _ h65 => L_X6_reckon_7 w v1 (v2 + 1) h65 K))))))))))))) : L_X6_reckon_7 w v1 v2 h K := by
  unfold L_X6_reckon_7
  refine J_iload_n 8 rfl 2 2 rfl (D_X6_reckon_0.at 5 rfl) ?_
  refine J_aload_n 9 rfl 1 1 rfl (Ob.rng hv1) (D_X6_reckon_0.at 6 rfl) ?_
  refine J_getI (z := (h v1 1)) 12 rfl fl_6_28 rfl hv1 (Ob.lt hv1) (D_X6_reckon_0.at 7 rfl) rfl ?_
  obtain ⟨s3, T⟩ := T
  obtain ⟨s4, T⟩ := T
  refine J_icmp_ge 15 rfl 161 s3 s4 (D_X6_reckon_0.at 8 rfl) (by decide) (fun c69 => ?_) (fun c69 => ?_)
  · replace T := T.1 c69
    refine J_aload_n 162 rfl 0 0 rfl ⟨by decide, by decide⟩ (D_X6_reckon_1.at 34 rfl) ?_
    refine J_callV (d' := 1) (sr := fun z => [vI z]) (as := []) (st := []) (o := 52) 165 rfl ok_X6_pop im_X6_pop se_X6_pop ml_6_44 isC_6 ob_52 (Ob.lt ob_52) rfl (by decide) ⟨Nat.le_refl _, Nat.le_refl _⟩ (Nat.le_of_ble_eq_true rfl) (D_X6_reckon_1.at 35 rfl) (fun _ => rfl) T (fun r5 h6 T b7 => ?_)
    exact J_iret rfl (D_X6_reckon_1.at 36 rfl) T
  replace T := T.2 c69
  refine J_iload_n 16 rfl 2 2 rfl (D_X6_reckon_0.at 9 rfl) ?_
  refine J_aload_n 17 rfl 1 1 rfl (Ob.rng hv1) (D_X6_reckon_0.at 10 rfl) ?_
  refine J_getF (ov := (v1 + 1)) (dd := 1001) 20 rfl fl_6_33 rfl (by decide) rfl hv1 (Ob.lt hv1) (D_X6_reckon_0.at 11 rfl) ?_
  refine J_alenE (v := 1600) 21 rfl rfl (by decide) (of_1_0 hv1) (Ar.lt (of_1_0 hv1)) (D_X6_reckon_0.at 12 rfl) ?_
  obtain ⟨s8, T⟩ := T
  refine J_icmp_ge 24 rfl 161 s8 ⟨by decide, by decide⟩ (D_X6_reckon_0.at 13 rfl) (by decide) (fun c68 => ?_) (fun c68 => ?_)
  · replace T := T.1 c68
    refine J_aload_n 162 rfl 0 0 rfl ⟨by decide, by decide⟩ (D_X6_reckon_1.at 34 rfl) ?_
    refine J_callV (d' := 1) (sr := fun z => [vI z]) (as := []) (st := []) (o := 52) 165 rfl ok_X6_pop im_X6_pop se_X6_pop ml_6_44 isC_6 ob_52 (Ob.lt ob_52) rfl (by decide) ⟨Nat.le_refl _, Nat.le_refl _⟩ (Nat.le_of_ble_eq_true rfl) (D_X6_reckon_1.at 35 rfl) (fun _ => rfl) T (fun r9 h10 T b11 => ?_)
    exact J_iret rfl (D_X6_reckon_1.at 36 rfl) T
  replace T := T.2 c68
  refine J_aload_n 25 rfl 1 1 rfl (Ob.rng hv1) (D_X6_reckon_0.at 14 rfl) ?_
  refine J_getF (ov := (v1 + 1)) (dd := 1001) 28 rfl fl_6_33 rfl (by decide) rfl hv1 (Ob.lt hv1) (D_X6_reckon_0.at 15 rfl) ?_
  refine J_iload_n 29 rfl 2 2 rfl (D_X6_reckon_0.at 16 rfl) ?_
  obtain ⟨s12, T⟩ := T
  refine J_iald 30 rfl (of_1_0 hv1) (Ar.lt (of_1_0 hv1)) s12 (D_X6_reckon_0.at 17 rfl) ?_
  refine J_istore_n (lv' := [(3, vI (h (v1 + 1) v2)), (0, vR 52), (1, vR v1), (2, vI v2)]) 31 rfl 3 (by decide) rfl (D_X6_reckon_0.at 18 rfl) ?_
  refine J_iload_n 32 rfl 3 0 rfl (D_X6_reckon_0.at 19 rfl) ?_
  obtain ⟨s13, T⟩ := T
  refine J_if_lt 35 rfl 43 s13 (D_X6_reckon_0.at 20 rfl) (by decide) (fun c67 => ?_) (fun c67 => ?_)
  · replace T := T.1 c67
    refine J_iload_n 44 rfl 3 0 rfl (D_X6_reckon_0.at 25 rfl) ?_
    refine J_bipush 46 rfl ⟨by decide, by decide⟩ (D_X6_reckon_0.at 26 rfl) ?_
    obtain ⟨s14, T⟩ := T
    refine J_icmp_gt 49 rfl 67 s14 ⟨by decide, by decide⟩ (D_X6_reckon_0.at 27 rfl) (by decide) (fun c63 => ?_) (fun c63 => ?_)
    · replace T := T.1 c63
      refine J_iload_n 68 rfl 3 0 rfl (D_X6_reckon_0.at 37 rfl) ?_
      refine J_bipush 70 rfl ⟨by decide, by decide⟩ (D_X6_reckon_0.at 38 rfl) ?_
      obtain ⟨s15, T⟩ := T
      refine J_icmp_ne 73 rfl 86 s15 ⟨by decide, by decide⟩ (D_X6_reckon_0.at 39 rfl) (by decide) (fun c56 => ?_) (fun c56 => ?_)
      · replace T := T.1 c56
        refine J_iload_n 87 rfl 3 0 rfl (D_X6_reckon_0.at 47 rfl) ?_
        refine J_bipush 89 rfl ⟨by decide, by decide⟩ (D_X6_reckon_1.at 0 rfl) ?_
        obtain ⟨s16, T⟩ := T
        refine J_icmp_ne 92 rfl 110 s16 ⟨by decide, by decide⟩ (D_X6_reckon_1.at 1 rfl) (by decide) (fun c49 => ?_) (fun c49 => ?_)
        · replace T := T.1 c49
          refine J_iload_n 111 rfl 3 0 rfl (D_X6_reckon_1.at 10 rfl) ?_
          refine J_bipush 113 rfl ⟨by decide, by decide⟩ (D_X6_reckon_1.at 11 rfl) ?_
          obtain ⟨s17, T⟩ := T
          refine J_icmp_ne 116 rfl 134 s17 ⟨by decide, by decide⟩ (D_X6_reckon_1.at 12 rfl) (by decide) (fun c39 => ?_) (fun c39 => ?_)
          · replace T := T.1 c39
            refine J_aload_n 135 rfl 0 1 rfl ⟨by decide, by decide⟩ (D_X6_reckon_1.at 21 rfl) ?_
            refine J_callV (d' := 1) (sr := fun z => [vI z]) (as := []) (st := []) (o := 52) 138 rfl ok_X6_pop im_X6_pop se_X6_pop ml_6_44 isC_6 ob_52 (Ob.lt ob_52) rfl (by decide) ⟨Nat.le_refl _, Nat.le_refl _⟩ (Nat.le_of_ble_eq_true rfl) (D_X6_reckon_1.at 22 rfl) (fun _ => rfl) T (fun r18 h19 T b20 => ?_)
            refine J_istore (lv' := [(4, vI r18), (3, vI (h (v1 + 1) v2)), (0, vR 52), (1, vR v1), (2, vI v2)]) 140 rfl 4 (by decide) rfl (D_X6_reckon_1.at 23 rfl) ?_
            refine J_aload_n 141 rfl 0 2 rfl ⟨by decide, by decide⟩ (D_X6_reckon_1.at 24 rfl) ?_
            refine J_aload_n 142 rfl 0 2 rfl ⟨by decide, by decide⟩ (D_X6_reckon_1.at 25 rfl) ?_
            refine J_iload_n 143 rfl 3 1 rfl (D_X6_reckon_1.at 26 rfl) ?_
            refine J_aload_n 144 rfl 0 2 rfl ⟨by decide, by decide⟩ (D_X6_reckon_1.at 27 rfl) ?_
            refine J_callV (d' := 1) (sr := fun z => [vI z, vI (h (v1 + 1) v2), vR 52, vR 52]) (as := []) (st := [vI (h (v1 + 1) v2), vR 52, vR 52]) (o := 52) 147 rfl ok_X6_pop im_X6_pop se_X6_pop ml_6_44 isC_6 ob_52 (Ob.lt ob_52) rfl (by decide) ⟨Nat.le_refl _, Nat.le_refl _⟩ (Nat.le_of_ble_eq_true rfl) (D_X6_reckon_1.at 28 rfl) (fun _ => rfl) T (fun r21 h22 T b23 => ?_)
            refine J_iload 149 rfl 4 0 rfl (D_X6_reckon_1.at 29 rfl) ?_
            refine J_callV (d' := 2) (sr := fun z => [vI z, vR 52]) (as := [vI (h (v1 + 1) v2), vI r21, vI r18]) (st := [vR 52]) (o := 52) 152 rfl ok_X6_join im_X6_join se_X6_join ml_6_48 isC_6 ob_52 (Ob.lt ob_52) rfl (by decide) ⟨Nat.le_refl _, Nat.le_refl _⟩ (Nat.le_of_ble_eq_true rfl) (D_X6_reckon_1.at 30 rfl) (fun _ => rfl) T (fun r24 h25 T b26 => ?_)
            refine J_callV (d' := 1) (sr := fun z => []) (as := [vI r24]) (st := []) (o := 52) 155 rfl ok_X6_push im_X6_push se_X6_push ml_6_36 isC_6 ob_52 (Ob.lt ob_52) rfl (by decide) ⟨Nat.le_refl _, Nat.le_refl _⟩ (Nat.le_of_ble_eq_true rfl) (D_X6_reckon_1.at 31 rfl) (fun _ => rfl) T (fun r27 h28 T b29 => ?_)
            refine J_iinc (v := (v2 + 1)) (lv' := [(2, vI (v2 + 1)), (4, vI r18), (3, vI (h (v1 + 1) v2)), (0, vR 52), (1, vR v1)]) 158 rfl 2 4 1 rfl rfl (by decide) rfl (D_X6_reckon_1.at 32 rfl) ?_
            refine J_goto 7 (D_X6_reckon_1.at 33 rfl) (by decide) ?_
            exact J_sub (lv' := [(0, vR 52), (1, vR v1), (2, vI (v2 + 1))]) [3, 4, 0] rfl T
          replace T := T.2 c39
          refine J_aload_n 117 rfl 0 1 rfl ⟨by decide, by decide⟩ (D_X6_reckon_1.at 13 rfl) ?_
          refine J_aload_n 118 rfl 0 1 rfl ⟨by decide, by decide⟩ (D_X6_reckon_1.at 14 rfl) ?_
          refine J_getF (ov := 56) (dd := 1004) 121 rfl fl_6_21 rfl (by decide) rfl ob_52 (Ob.lt ob_52) (D_X6_reckon_1.at 15 rfl) ?_
          refine J_aload_n 122 rfl 0 1 rfl ⟨by decide, by decide⟩ (D_X6_reckon_1.at 16 rfl) ?_
          refine J_callV (d' := 1) (sr := fun z => [vI z, vR 56, vR 52]) (as := []) (st := [vR 56, vR 52]) (o := 52) 125 rfl ok_X6_pop im_X6_pop se_X6_pop ml_6_44 isC_6 ob_52 (Ob.lt ob_52) rfl (by decide) ⟨Nat.le_refl _, Nat.le_refl _⟩ (Nat.le_of_ble_eq_true rfl) (D_X6_reckon_1.at 17 rfl) (fun _ => rfl) T (fun r30 h31 T b32 => ?_)
          refine J_callS (d' := 1) (sr := fun z => [vI z, vR 52]) (as := [vR 56, vI r30]) (st := [vR 52]) 128 rfl ok_X6_entry sm_X6_entry ml_6_40 rfl (by decide) ⟨Nat.le_refl _, Nat.le_refl _⟩ (Nat.le_of_ble_eq_true rfl) (D_X6_reckon_1.at 18 rfl) (fun _ => rfl) T (fun r33 h34 T b35 => ?_)
          refine J_callV (d' := 1) (sr := fun z => []) (as := [vI r33]) (st := []) (o := 52) 131 rfl ok_X6_push im_X6_push se_X6_push ml_6_36 isC_6 ob_52 (Ob.lt ob_52) rfl (by decide) ⟨Nat.le_refl _, Nat.le_refl _⟩ (Nat.le_of_ble_eq_true rfl) (D_X6_reckon_1.at 19 rfl) (fun _ => rfl) T (fun r36 h37 T b38 => ?_)
          refine J_goto 155 (D_X6_reckon_1.at 20 rfl) (by decide) ?_
          refine J_iinc (v := (v2 + 1)) (lv' := [(2, vI (v2 + 1)), (3, vI (h (v1 + 1) v2)), (0, vR 52), (1, vR v1)]) 158 rfl 2 3 1 rfl rfl (by decide) rfl (D_X6_reckon_1.at 32 rfl) ?_
          refine J_goto 7 (D_X6_reckon_1.at 33 rfl) (by decide) ?_
          exact J_sub (lv' := [(0, vR 52), (1, vR v1), (2, vI (v2 + 1))]) [2, 3, 0] rfl T
        replace T := T.2 c49
        refine J_aload_n 93 rfl 0 1 rfl ⟨by decide, by decide⟩ (D_X6_reckon_1.at 2 rfl) ?_
        refine J_aload_n 94 rfl 0 1 rfl ⟨by decide, by decide⟩ (D_X6_reckon_1.at 3 rfl) ?_
        refine J_getF (ov := 55) (dd := 1003) 97 rfl fl_6_18 rfl (by decide) rfl ob_52 (Ob.lt ob_52) (D_X6_reckon_1.at 4 rfl) ?_
        refine J_aload_n 98 rfl 0 1 rfl ⟨by decide, by decide⟩ (D_X6_reckon_1.at 5 rfl) ?_
        refine J_callV (d' := 1) (sr := fun z => [vI z, vR 55, vR 52]) (as := []) (st := [vR 55, vR 52]) (o := 52) 101 rfl ok_X6_pop im_X6_pop se_X6_pop ml_6_44 isC_6 ob_52 (Ob.lt ob_52) rfl (by decide) ⟨Nat.le_refl _, Nat.le_refl _⟩ (Nat.le_of_ble_eq_true rfl) (D_X6_reckon_1.at 6 rfl) (fun _ => rfl) T (fun r40 h41 T b42 => ?_)
        refine J_callS (d' := 1) (sr := fun z => [vI z, vR 52]) (as := [vR 55, vI r40]) (st := [vR 52]) 104 rfl ok_X6_entry sm_X6_entry ml_6_40 rfl (by decide) ⟨Nat.le_refl _, Nat.le_refl _⟩ (Nat.le_of_ble_eq_true rfl) (D_X6_reckon_1.at 7 rfl) (fun _ => rfl) T (fun r43 h44 T b45 => ?_)
        refine J_callV (d' := 1) (sr := fun z => []) (as := [vI r43]) (st := []) (o := 52) 107 rfl ok_X6_push im_X6_push se_X6_push ml_6_36 isC_6 ob_52 (Ob.lt ob_52) rfl (by decide) ⟨Nat.le_refl _, Nat.le_refl _⟩ (Nat.le_of_ble_eq_true rfl) (D_X6_reckon_1.at 8 rfl) (fun _ => rfl) T (fun r46 h47 T b48 => ?_)
        refine J_goto 155 (D_X6_reckon_1.at 9 rfl) (by decide) ?_
        refine J_iinc (v := (v2 + 1)) (lv' := [(2, vI (v2 + 1)), (3, vI (h (v1 + 1) v2)), (0, vR 52), (1, vR v1)]) 158 rfl 2 3 1 rfl rfl (by decide) rfl (D_X6_reckon_1.at 32 rfl) ?_
        refine J_goto 7 (D_X6_reckon_1.at 33 rfl) (by decide) ?_
        exact J_sub (lv' := [(0, vR 52), (1, vR v1), (2, vI (v2 + 1))]) [2, 3, 0] rfl T
      replace T := T.2 c56
      refine J_aload_n 74 rfl 0 1 rfl ⟨by decide, by decide⟩ (D_X6_reckon_0.at 40 rfl) ?_
      refine J_iconst 75 rfl (D_X6_reckon_0.at 41 rfl) ?_
      refine J_aload_n 76 rfl 0 1 rfl ⟨by decide, by decide⟩ (D_X6_reckon_0.at 42 rfl) ?_
      refine J_callV (d' := 1) (sr := fun z => [vI z, vI 1, vR 52]) (as := []) (st := [vI 1, vR 52]) (o := 52) 79 rfl ok_X6_pop im_X6_pop se_X6_pop ml_6_44 isC_6 ob_52 (Ob.lt ob_52) rfl (by decide) ⟨Nat.le_refl _, Nat.le_refl _⟩ (Nat.le_of_ble_eq_true rfl) (D_X6_reckon_0.at 43 rfl) (fun _ => rfl) T (fun r50 h51 T b52 => ?_)
      refine J_isub 80 rfl (D_X6_reckon_0.at 44 rfl) ?_
      refine J_callV (d' := 1) (sr := fun z => []) (as := [vI (1 - r50)]) (st := []) (o := 52) 83 rfl ok_X6_push im_X6_push se_X6_push ml_6_36 isC_6 ob_52 (Ob.lt ob_52) rfl (by decide) ⟨Nat.le_refl _, Nat.le_refl _⟩ (Nat.le_of_ble_eq_true rfl) (D_X6_reckon_0.at 45 rfl) (fun _ => rfl) T (fun r53 h54 T b55 => ?_)
      refine J_goto 155 (D_X6_reckon_0.at 46 rfl) (by decide) ?_
      refine J_iinc (v := (v2 + 1)) (lv' := [(2, vI (v2 + 1)), (3, vI (h (v1 + 1) v2)), (0, vR 52), (1, vR v1)]) 158 rfl 2 3 1 rfl rfl (by decide) rfl (D_X6_reckon_1.at 32 rfl) ?_
      refine J_goto 7 (D_X6_reckon_1.at 33 rfl) (by decide) ?_
      exact J_sub (lv' := [(0, vR 52), (1, vR v1), (2, vI (v2 + 1))]) [2, 3, 0] rfl T
    replace T := T.2 c63
    refine J_aload_n 50 rfl 0 1 rfl ⟨by decide, by decide⟩ (D_X6_reckon_0.at 28 rfl) ?_
    refine J_aload_n 51 rfl 0 1 rfl ⟨by decide, by decide⟩ (D_X6_reckon_0.at 29 rfl) ?_
    refine J_getF (ov := 54) (dd := 1002) 54 rfl fl_6_15 rfl (by decide) rfl ob_52 (Ob.lt ob_52) (D_X6_reckon_0.at 30 rfl) ?_
    refine J_bipush 56 rfl ⟨by decide, by decide⟩ (D_X6_reckon_0.at 31 rfl) ?_
    refine J_iload_n 57 rfl 3 0 rfl (D_X6_reckon_0.at 32 rfl) ?_
    refine J_isub 58 rfl (D_X6_reckon_0.at 33 rfl) ?_
    refine J_callS (d' := 1) (sr := fun z => [vI z, vR 52]) (as := [vR 54, vI ((-20) - (h (v1 + 1) v2))]) (st := [vR 52]) 61 rfl ok_X6_entry sm_X6_entry ml_6_40 rfl (by decide) ⟨Nat.le_refl _, Nat.le_refl _⟩ (Nat.le_of_ble_eq_true rfl) (D_X6_reckon_0.at 34 rfl) (fun _ => rfl) T (fun r57 h58 T b59 => ?_)
    refine J_callV (d' := 1) (sr := fun z => []) (as := [vI r57]) (st := []) (o := 52) 64 rfl ok_X6_push im_X6_push se_X6_push ml_6_36 isC_6 ob_52 (Ob.lt ob_52) rfl (by decide) ⟨Nat.le_refl _, Nat.le_refl _⟩ (Nat.le_of_ble_eq_true rfl) (D_X6_reckon_0.at 35 rfl) (fun _ => rfl) T (fun r60 h61 T b62 => ?_)
    refine J_goto 155 (D_X6_reckon_0.at 36 rfl) (by decide) ?_
    refine J_iinc (v := (v2 + 1)) (lv' := [(2, vI (v2 + 1)), (3, vI (h (v1 + 1) v2)), (0, vR 52), (1, vR v1)]) 158 rfl 2 3 1 rfl rfl (by decide) rfl (D_X6_reckon_1.at 32 rfl) ?_
    refine J_goto 7 (D_X6_reckon_1.at 33 rfl) (by decide) ?_
    exact J_sub (lv' := [(0, vR 52), (1, vR v1), (2, vI (v2 + 1))]) [2, 3, 0] rfl T
  replace T := T.2 c67
  refine J_aload_n 36 rfl 0 1 rfl ⟨by decide, by decide⟩ (D_X6_reckon_0.at 21 rfl) ?_
  refine J_iload_n 37 rfl 3 0 rfl (D_X6_reckon_0.at 22 rfl) ?_
  refine J_callV (d' := 1) (sr := fun z => []) (as := [vI (h (v1 + 1) v2)]) (st := []) (o := 52) 40 rfl ok_X6_push im_X6_push se_X6_push ml_6_36 isC_6 ob_52 (Ob.lt ob_52) rfl (by decide) ⟨Nat.le_refl _, Nat.le_refl _⟩ (Nat.le_of_ble_eq_true rfl) (D_X6_reckon_0.at 23 rfl) (fun _ => rfl) T (fun r64 h65 T b66 => ?_)
  refine J_goto 155 (D_X6_reckon_0.at 24 rfl) (by decide) ?_
  refine J_iinc (v := (v2 + 1)) (lv' := [(2, vI (v2 + 1)), (3, vI (h (v1 + 1) v2)), (0, vR 52), (1, vR v1)]) 158 rfl 2 3 1 rfl rfl (by decide) rfl (D_X6_reckon_1.at 32 rfl) ?_
  refine J_goto 7 (D_X6_reckon_1.at 33 rfl) (by decide) ?_
  exact J_sub (lv' := [(0, vR 52), (1, vR v1), (2, vI (v2 + 1))]) [2, 3, 0] rfl T
theorem c_X0_settledGrains {w : Wd} {h : Hp} {K : Int → Hp → Prop} (T : L_X0_settledGrains_4 w 0 0 h K) : C_X0_settledGrains w h K := by
  refine CGm_of2 (by decide) (by decide) trivial (Nat.le_of_ble_eq_true rfl) ?_
  refine J_iconst 1 rfl (D_X0_settledGrains_0.at 0 rfl) ?_
  refine J_istore_n (lv' := [(1, vI 0), (0, vR 61)]) 2 rfl 1 (by decide) rfl (D_X0_settledGrains_0.at 1 rfl) ?_
  refine J_iconst 3 rfl (D_X0_settledGrains_0.at 2 rfl) ?_
  refine J_istore_n (lv' := [(2, vI 0), (1, vI 0), (0, vR 61)]) 4 rfl 2 (by decide) rfl (D_X0_settledGrains_0.at 3 rfl) ?_
  exact J_sub (lv' := [(0, vR 61), (1, vI 0), (2, vI 0)]) [2, 1, 0] rfl T
theorem l_X0_settledGrains_4 {w : Wd} {v1 v2 : Int} {h : Hp} {K : Int → Hp → Prop} (T : (Ob 7 (h 61 5)) ∧ ((inR v2) ∧ ((inR (h (h 61 5) 12)) ∧ (((v2 ≥ (h (h 61 5) 12)) → (K v1 h)) ∧ (¬ (v2 ≥ (h (h 61 5) 12)) → (C_X0_settledIn w v2 h (fun r4 h5 => L_X0_settledGrains_4 w (v1 + r4) (v2 + 1) h5 K))))))) : L_X0_settledGrains_4 w v1 v2 h K := by
  unfold L_X0_settledGrains_4
  refine J_iload_n 5 rfl 2 2 rfl (D_X0_settledGrains_0.at 4 rfl) ?_
  refine J_aload_n 6 rfl 0 0 rfl ⟨by decide, by decide⟩ (D_X0_settledGrains_0.at 5 rfl) ?_
  obtain ⟨s1, T⟩ := T
  refine J_getR (z := (h 61 5)) 9 rfl fl_0_28 rfl ob_61 (Ob.lt ob_61) (D_X0_settledGrains_0.at 6 rfl) rfl ?_
  refine J_getI (z := (h (h 61 5) 12)) 12 rfl fl_0_134 rfl s1 (Ob.lt s1) (D_X0_settledGrains_0.at 7 rfl) rfl ?_
  obtain ⟨s2, T⟩ := T
  obtain ⟨s3, T⟩ := T
  refine J_icmp_ge 15 rfl 29 s2 s3 (D_X0_settledGrains_0.at 8 rfl) (by decide) (fun c7 => ?_) (fun c7 => ?_)
  · replace T := T.1 c7
    refine J_iload_n 30 rfl 1 1 rfl (D_X0_settledGrains_0.at 17 rfl) ?_
    exact J_iret rfl (D_X0_settledGrains_0.at 18 rfl) T
  replace T := T.2 c7
  refine J_iload_n 16 rfl 1 1 rfl (D_X0_settledGrains_0.at 9 rfl) ?_
  refine J_aload_n 17 rfl 0 0 rfl ⟨by decide, by decide⟩ (D_X0_settledGrains_0.at 10 rfl) ?_
  refine J_iload_n 18 rfl 2 2 rfl (D_X0_settledGrains_0.at 11 rfl) ?_
  refine J_callV (d' := 2) (sr := fun z => [vI z, vI v1]) (as := [vI v2]) (st := [vI v1]) (o := 61) 21 rfl ok_X0_settledIn im_X0_settledIn se_X0_settledIn ml_0_143 isC_0 ob_61 (Ob.lt ob_61) rfl (by decide) ⟨Nat.le_refl _, Nat.le_refl _⟩ (Nat.le_of_ble_eq_true rfl) (D_X0_settledGrains_0.at 12 rfl) (fun _ => rfl) T (fun r4 h5 T b6 => ?_)
  refine J_iadd 22 rfl (D_X0_settledGrains_0.at 13 rfl) ?_
  refine J_istore_n (lv' := [(1, vI (v1 + r4)), (0, vR 61), (2, vI v2)]) 23 rfl 1 (by decide) rfl (D_X0_settledGrains_0.at 14 rfl) ?_
  refine J_iinc (v := (v2 + 1)) (lv' := [(2, vI (v2 + 1)), (1, vI (v1 + r4)), (0, vR 61)]) 26 rfl 2 2 1 rfl rfl (by decide) rfl (D_X0_settledGrains_0.at 15 rfl) ?_
  refine J_goto 4 (D_X0_settledGrains_0.at 16 rfl) (by decide) ?_
  exact J_sub (lv' := [(0, vR 61), (1, vI (v1 + r4)), (2, vI (v2 + 1))]) [2, 1, 0] rfl T
theorem c_X0_mostSettled {w : Wd} {h : Hp} {K : Int → Hp → Prop} (T : L_X0_mostSettled_6 w (-1) 0 0 h K) : C_X0_mostSettled w h K := by
  refine CGm_of2 (by decide) (by decide) trivial (Nat.le_of_ble_eq_true rfl) ?_
  refine J_iconst 1 rfl (D_X0_mostSettled_0.at 0 rfl) ?_
  refine J_istore_n (lv' := [(1, vI (-1)), (0, vR 61)]) 2 rfl 1 (by decide) rfl (D_X0_mostSettled_0.at 1 rfl) ?_
  refine J_iconst 3 rfl (D_X0_mostSettled_0.at 2 rfl) ?_
  refine J_istore_n (lv' := [(2, vI 0), (1, vI (-1)), (0, vR 61)]) 4 rfl 2 (by decide) rfl (D_X0_mostSettled_0.at 3 rfl) ?_
  refine J_iconst 5 rfl (D_X0_mostSettled_0.at 4 rfl) ?_
  refine J_istore_n (lv' := [(3, vI 0), (2, vI 0), (1, vI (-1)), (0, vR 61)]) 6 rfl 3 (by decide) rfl (D_X0_mostSettled_0.at 5 rfl) ?_
  exact J_sub (lv' := [(0, vR 61), (1, vI (-1)), (2, vI 0), (3, vI 0)]) [3, 2, 1, 0] rfl T
theorem l_X0_mostSettled_6 {w : Wd} {v1 v2 v3 : Int} {h : Hp} {K : Int → Hp → Prop} (T : (Ob 7 (h 61 5)) ∧ ((inR v3) ∧ ((inR (h (h 61 5) 12)) ∧ (((v3 ≥ (h (h 61 5) 12)) → (K v1 h)) ∧ (¬ (v3 ≥ (h (h 61 5) 12)) → (C_X0_settledIn w v3 h (fun r4 h5 => (inR r4) ∧ ((inR v2) ∧ (((r4 ≤ v2) → (L_X0_mostSettled_6 w v1 v2 (v3 + 1) h5 K)) ∧ (¬ (r4 ≤ v2) → (C_X0_settledIn w v3 h5 (fun r9 h10 => L_X0_mostSettled_6 w v3 r9 (v3 + 1) h10 K)))))))))))) : L_X0_mostSettled_6 w v1 v2 v3 h K := by
  unfold L_X0_mostSettled_6
  refine J_iload_n 7 rfl 3 3 rfl (D_X0_mostSettled_0.at 6 rfl) ?_
  refine J_aload_n 8 rfl 0 0 rfl ⟨by decide, by decide⟩ (D_X0_mostSettled_0.at 7 rfl) ?_
  obtain ⟨s1, T⟩ := T
  refine J_getR (z := (h 61 5)) 11 rfl fl_0_28 rfl ob_61 (Ob.lt ob_61) (D_X0_mostSettled_0.at 8 rfl) rfl ?_
  refine J_getI (z := (h (h 61 5) 12)) 14 rfl fl_0_134 rfl s1 (Ob.lt s1) (D_X0_mostSettled_0.at 9 rfl) rfl ?_
  obtain ⟨s2, T⟩ := T
  obtain ⟨s3, T⟩ := T
  refine J_icmp_ge 17 rfl 40 s2 s3 (D_X0_mostSettled_0.at 10 rfl) (by decide) (fun c13 => ?_) (fun c13 => ?_)
  · replace T := T.1 c13
    refine J_iload_n 41 rfl 1 1 rfl (D_X0_mostSettled_0.at 24 rfl) ?_
    exact J_iret rfl (D_X0_mostSettled_0.at 25 rfl) T
  replace T := T.2 c13
  refine J_aload_n 18 rfl 0 0 rfl ⟨by decide, by decide⟩ (D_X0_mostSettled_0.at 11 rfl) ?_
  refine J_iload_n 19 rfl 3 3 rfl (D_X0_mostSettled_0.at 12 rfl) ?_
  refine J_callV (d' := 2) (sr := fun z => [vI z]) (as := [vI v3]) (st := []) (o := 61) 22 rfl ok_X0_settledIn im_X0_settledIn se_X0_settledIn ml_0_143 isC_0 ob_61 (Ob.lt ob_61) rfl (by decide) ⟨Nat.le_refl _, Nat.le_refl _⟩ (Nat.le_of_ble_eq_true rfl) (D_X0_mostSettled_0.at 13 rfl) (fun _ => rfl) T (fun r4 h5 T b6 => ?_)
  refine J_iload_n 23 rfl 2 2 rfl (D_X0_mostSettled_0.at 14 rfl) ?_
  obtain ⟨s7, T⟩ := T
  obtain ⟨s8, T⟩ := T
  refine J_icmp_le 26 rfl 34 s7 s8 (D_X0_mostSettled_0.at 15 rfl) (by decide) (fun c12 => ?_) (fun c12 => ?_)
  · replace T := T.1 c12
    refine J_iinc (v := (v3 + 1)) (lv' := [(3, vI (v3 + 1)), (0, vR 61), (1, vI v1), (2, vI v2)]) 37 rfl 3 3 1 rfl rfl (by decide) rfl (D_X0_mostSettled_0.at 22 rfl) ?_
    refine J_goto 6 (D_X0_mostSettled_0.at 23 rfl) (by decide) ?_
    exact J_sub (lv' := [(0, vR 61), (1, vI v1), (2, vI v2), (3, vI (v3 + 1))]) [1, 2, 3, 0] rfl T
  replace T := T.2 c12
  refine J_aload_n 27 rfl 0 0 rfl ⟨by decide, by decide⟩ (D_X0_mostSettled_0.at 16 rfl) ?_
  refine J_iload_n 28 rfl 3 3 rfl (D_X0_mostSettled_0.at 17 rfl) ?_
  refine J_callV (d' := 2) (sr := fun z => [vI z]) (as := [vI v3]) (st := []) (o := 61) 31 rfl ok_X0_settledIn im_X0_settledIn se_X0_settledIn ml_0_143 isC_0 ob_61 (Ob.lt ob_61) rfl (by decide) ⟨Nat.le_refl _, Nat.le_refl _⟩ (Nat.le_of_ble_eq_true rfl) (D_X0_mostSettled_0.at 18 rfl) (fun _ => rfl) T (fun r9 h10 T b11 => ?_)
  refine J_istore_n (lv' := [(2, vI r9), (0, vR 61), (1, vI v1), (3, vI v3)]) 32 rfl 2 (by decide) rfl (D_X0_mostSettled_0.at 19 rfl) ?_
  refine J_iload_n 33 rfl 3 3 rfl (D_X0_mostSettled_0.at 20 rfl) ?_
  refine J_istore_n (lv' := [(1, vI v3), (2, vI r9), (0, vR 61), (3, vI v3)]) 34 rfl 1 (by decide) rfl (D_X0_mostSettled_0.at 21 rfl) ?_
  refine J_iinc (v := (v3 + 1)) (lv' := [(3, vI (v3 + 1)), (1, vI v3), (2, vI r9), (0, vR 61)]) 37 rfl 3 3 1 rfl rfl (by decide) rfl (D_X0_mostSettled_0.at 22 rfl) ?_
  refine J_goto 6 (D_X0_mostSettled_0.at 23 rfl) (by decide) ?_
  exact J_sub (lv' := [(0, vR 61), (1, vI v3), (2, vI r9), (3, vI (v3 + 1))]) [3, 1, 2, 0] rfl T
theorem c_X0_leftIn {w : Wd} {a1 : Int} {h : Hp} {K : Int → Hp → Prop} (T : (Ob 9 (h 61 6)) ∧ (C_X9_lyingIn w (h 61 6) a1 h (fun r2 h3 => C_X0_settledIn w a1 h3 (fun r5 h6 => K (r2 + r5) h6)))) : C_X0_leftIn w a1 h K := by
  refine CGm_of2 (by decide) (by decide) trivial (Nat.le_of_ble_eq_true rfl) ?_
  refine J_aload_n 1 rfl 0 0 rfl ⟨by decide, by decide⟩ (D_X0_leftIn_0.at 0 rfl) ?_
  obtain ⟨s1, T⟩ := T
  refine J_getR (z := (h 61 6)) 4 rfl fl_0_32 rfl ob_61 (Ob.lt ob_61) (D_X0_leftIn_0.at 1 rfl) rfl ?_
  refine J_iload_n 5 rfl 1 1 rfl (D_X0_leftIn_0.at 2 rfl) ?_
  refine J_callV (d' := 2) (sr := fun z => [vI z]) (as := [vI a1]) (st := []) (o := (h 61 6)) 8 rfl ok_X9_lyingIn im_X9_lyingIn se_X9_lyingIn ml_0_146 isC_9 s1 (Ob.lt s1) rfl (by decide) ⟨Nat.le_refl _, Nat.le_refl _⟩ (Nat.le_of_ble_eq_true rfl) (D_X0_leftIn_0.at 3 rfl) (fun _ => rfl) T (fun r2 h3 T b4 => ?_)
  refine J_aload_n 9 rfl 0 0 rfl ⟨by decide, by decide⟩ (D_X0_leftIn_0.at 4 rfl) ?_
  refine J_iload_n 10 rfl 1 1 rfl (D_X0_leftIn_0.at 5 rfl) ?_
  refine J_callV (d' := 2) (sr := fun z => [vI z, vI r2]) (as := [vI a1]) (st := [vI r2]) (o := 61) 13 rfl ok_X0_settledIn im_X0_settledIn se_X0_settledIn ml_0_143 isC_0 ob_61 (Ob.lt ob_61) rfl (by decide) ⟨Nat.le_refl _, Nat.le_refl _⟩ (Nat.le_of_ble_eq_true rfl) (D_X0_leftIn_0.at 6 rfl) (fun _ => rfl) T (fun r5 h6 T b7 => ?_)
  refine J_iadd 14 rfl (D_X0_leftIn_0.at 7 rfl) ?_
  exact J_iret rfl (D_X0_leftIn_0.at 8 rfl) T
theorem c_X0_cutOf {w : Wd} {a1 : Int} {h : Hp} {K : Int → Hp → Prop} (T : (inR (h 61 7)) ∧ ((((h 61 7) = 0) → (K 0 h)) ∧ (¬ ((h 61 7) = 0) → ((Ob 7 (h 61 5)) ∧ ((inR (h ((h 61 5) + 13) 1)) ∧ ((((h ((h 61 5) + 13) 1) ≤ 0) → (K 0 h)) ∧ (¬ ((h ((h 61 5) + 13) 1) ≤ 0) → ((Ob 7 (h 61 5)) ∧ ((0 ≤ a1 ∧ a1 < 10) ∧ ((Ob 9 (h 61 6)) ∧ ((0 ≤ a1 ∧ a1 < 10) ∧ (C_X0_tell w (h ((h 61 5) + 10) a1) a1 (h ((h 61 6) + 3) a1) h (fun _ h9 => (Ob 7 (h9 61 5)) ∧ (C_X6_reckon w ((h9 61 5) + 13) h9 (fun r12 h13 => (inR r12) ∧ ((Ob 9 (h13 61 6)) ∧ ((0 ≤ a1 ∧ a1 < 10) ∧ (C_X11_within w r12 0 (h13 ((h13 61 6) + 3) a1) h13 (fun r18 h19 => K r18 h19))))))))))))))))))) : C_X0_cutOf w a1 h K := by
  refine CGm_of2 (by decide) (by decide) trivial (Nat.le_of_ble_eq_true rfl) ?_
  refine J_aload_n 1 rfl 0 0 rfl ⟨by decide, by decide⟩ (D_X0_cutOf_0.at 0 rfl) ?_
  refine J_getI (z := (h 61 7)) 4 rfl fl_0_36 rfl ob_61 (Ob.lt ob_61) (D_X0_cutOf_0.at 1 rfl) rfl ?_
  obtain ⟨s1, T⟩ := T
  refine J_if_eq 7 rfl 20 s1 (D_X0_cutOf_0.at 2 rfl) (by decide) (fun c22 => ?_) (fun c22 => ?_)
  · replace T := T.1 c22
    refine J_iconst 21 rfl (D_X0_cutOf_0.at 8 rfl) ?_
    exact J_iret rfl (D_X0_cutOf_0.at 9 rfl) T
  replace T := T.2 c22
  refine J_aload_n 8 rfl 0 0 rfl ⟨by decide, by decide⟩ (D_X0_cutOf_0.at 3 rfl) ?_
  obtain ⟨s2, T⟩ := T
  refine J_getR (z := (h 61 5)) 11 rfl fl_0_28 rfl ob_61 (Ob.lt ob_61) (D_X0_cutOf_0.at 4 rfl) rfl ?_
  refine J_getF (ov := ((h 61 5) + 13)) (dd := 1013) 14 rfl fl_0_83 rfl (by decide) rfl s2 (Ob.lt s2) (D_X0_cutOf_0.at 5 rfl) ?_
  refine J_callV (d' := 1) (K1 := fun z h0 => rok (some .boolean) z → JG w true m_X0_cutOf 4 NT NT 17 [(0, vR 61), (1, vI a1)] [vI z] h0 _) (sr := fun z => [vI z]) (as := []) (st := []) (o := ((h 61 5) + 13)) 17 rfl ok_X1_isTold im_X1_isTold se_X1_isTold ml_0_86 isC_1 (of_7_9 s2) (Ob.lt (of_7_9 s2)) rfl (by decide) ⟨Nat.le_refl _, Nat.le_refl _⟩ (Nat.le_of_ble_eq_true rfl) (D_X0_cutOf_0.at 6 rfl) (fun _ => rfl) (CGm_of2 (by decide) (by decide) trivial (Nat.le_of_ble_eq_true rfl) ?_) (fun _ _ kq hb => kq hb)
  refine J_aload_n 1 rfl 0 0 rfl (Ob.rng (of_7_9 s2)) (D_X1_isTold_0.at 0 rfl) ?_
  refine J_getI (z := (h ((h 61 5) + 13) 1)) 4 rfl fl_1_15 rfl (of_7_9 s2) (Ob.lt (of_7_9 s2)) (D_X1_isTold_0.at 1 rfl) rfl ?_
  obtain ⟨s3, T⟩ := T
  refine J_if_le 7 rfl 11 s3 (D_X1_isTold_0.at 2 rfl) (by decide) (fun c21 => ?_) (fun c21 => ?_)
  · replace T := T.1 c21
    refine J_iconst 12 rfl (D_X1_isTold_0.at 5 rfl) ?_
    refine J_zret rfl (Or.inl rfl) (D_X1_isTold_0.at 6 rfl) (fun _ => ?_)
    refine J_if_ne 20 rfl 22 ⟨by decide, by decide⟩ (D_X0_cutOf_0.at 7 rfl) (by decide) (fun c => absurd c (by decide)) (fun _ => ?_)
    refine J_iconst 21 rfl (D_X0_cutOf_0.at 8 rfl) ?_
    exact J_iret rfl (D_X0_cutOf_0.at 9 rfl) T
  replace T := T.2 c21
  refine J_iconst 8 rfl (D_X1_isTold_0.at 3 rfl) ?_
  refine J_goto 12 (D_X1_isTold_0.at 4 rfl) (by decide) ?_
  refine J_zret rfl (Or.inr rfl) (D_X1_isTold_0.at 6 rfl) (fun _ => ?_)
  refine J_if_ne 20 rfl 22 ⟨by decide, by decide⟩ (D_X0_cutOf_0.at 7 rfl) (by decide) (fun _ => ?_) (fun c => absurd (by decide) c)
  refine J_aload_n 23 rfl 0 0 rfl ⟨by decide, by decide⟩ (D_X0_cutOf_0.at 10 rfl) ?_
  refine J_aload_n 24 rfl 0 0 rfl ⟨by decide, by decide⟩ (D_X0_cutOf_0.at 11 rfl) ?_
  obtain ⟨s4, T⟩ := T
  refine J_getR (z := (h 61 5)) 27 rfl fl_0_28 rfl ob_61 (Ob.lt ob_61) (D_X0_cutOf_0.at 12 rfl) rfl ?_
  refine J_getF (ov := ((h 61 5) + 10)) (dd := 1010) 30 rfl fl_0_69 rfl (by decide) rfl s4 (Ob.lt s4) (D_X0_cutOf_0.at 13 rfl) ?_
  refine J_iload_n 31 rfl 1 1 rfl (D_X0_cutOf_0.at 14 rfl) ?_
  obtain ⟨s5, T⟩ := T
  refine J_iald 32 rfl (of_7_6 s4) (Ar.lt (of_7_6 s4)) s5 (D_X0_cutOf_0.at 15 rfl) ?_
  refine J_iload_n 33 rfl 1 1 rfl (D_X0_cutOf_0.at 16 rfl) ?_
  refine J_aload_n 34 rfl 0 0 rfl ⟨by decide, by decide⟩ (D_X0_cutOf_0.at 17 rfl) ?_
  obtain ⟨s6, T⟩ := T
  refine J_getR (z := (h 61 6)) 37 rfl fl_0_32 rfl ob_61 (Ob.lt ob_61) (D_X0_cutOf_0.at 18 rfl) rfl ?_
  refine J_getF (ov := ((h 61 6) + 3)) (dd := 1003) 40 rfl fl_0_92 rfl (by decide) rfl s6 (Ob.lt s6) (D_X0_cutOf_0.at 19 rfl) ?_
  refine J_iload_n 41 rfl 1 1 rfl (D_X0_cutOf_0.at 20 rfl) ?_
  obtain ⟨s7, T⟩ := T
  refine J_iald 42 rfl (of_9_2 s6) (Ar.lt (of_9_2 s6)) s7 (D_X0_cutOf_0.at 21 rfl) ?_
  refine J_callV (d' := 2) (sr := fun z => []) (as := [vI (h ((h 61 5) + 10) a1), vI a1, vI (h ((h 61 6) + 3) a1)]) (st := []) (o := 61) 45 rfl ok_X0_tell im_X0_tell se_X0_tell ml_0_95 isC_0 ob_61 (Ob.lt ob_61) rfl (by decide) ⟨Nat.le_refl _, Nat.le_refl _⟩ (Nat.le_of_ble_eq_true rfl) (D_X0_cutOf_0.at 22 rfl) (fun _ => rfl) T (fun r8 h9 T b10 => ?_)
  refine J_aload_n 46 rfl 0 0 rfl ⟨by decide, by decide⟩ (D_X0_cutOf_0.at 23 rfl) ?_
  refine J_getF (ov := 52) (dd := 991) 49 rfl fl_0_24 rfl (by decide) rfl ob_61 (Ob.lt ob_61) (D_X0_cutOf_0.at 24 rfl) ?_
  refine J_aload_n 50 rfl 0 0 rfl ⟨by decide, by decide⟩ (D_X0_cutOf_0.at 25 rfl) ?_
  obtain ⟨s11, T⟩ := T
  refine J_getR (z := (h9 61 5)) 53 rfl fl_0_28 rfl ob_61 (Ob.lt ob_61) (D_X0_cutOf_0.at 26 rfl) rfl ?_
  refine J_getF (ov := ((h9 61 5) + 13)) (dd := 1013) 56 rfl fl_0_83 rfl (by decide) rfl s11 (Ob.lt s11) (D_X0_cutOf_0.at 27 rfl) ?_
  refine J_callV (d' := 3) (sr := fun z => [vI z]) (as := [vR ((h9 61 5) + 13)]) (st := []) (o := 52) 59 rfl ok_X6_reckon im_X6_reckon se_X6_reckon ml_0_99 isC_6 ob_52 (Ob.lt ob_52) rfl (by decide) ⟨Nat.le_refl _, Nat.le_refl _⟩ (Nat.le_of_ble_eq_true rfl) (D_X0_cutOf_0.at 28 rfl) (fun _ => rfl) T (fun r12 h13 T b14 => ?_)
  obtain ⟨s15, T⟩ := T
  refine J_i2l 60 rfl s15 (D_X0_cutOf_0.at 29 rfl) ?_
  refine J_iconst 61 rfl (D_X0_cutOf_0.at 30 rfl) ?_
  refine J_aload_n 62 rfl 0 0 rfl ⟨by decide, by decide⟩ (D_X0_cutOf_0.at 31 rfl) ?_
  obtain ⟨s16, T⟩ := T
  refine J_getR (z := (h13 61 6)) 65 rfl fl_0_32 rfl ob_61 (Ob.lt ob_61) (D_X0_cutOf_0.at 32 rfl) rfl ?_
  refine J_getF (ov := ((h13 61 6) + 3)) (dd := 1003) 68 rfl fl_0_92 rfl (by decide) rfl s16 (Ob.lt s16) (D_X0_cutOf_0.at 33 rfl) ?_
  refine J_iload_n 69 rfl 1 1 rfl (D_X0_cutOf_0.at 34 rfl) ?_
  obtain ⟨s17, T⟩ := T
  refine J_iald 70 rfl (of_9_2 s16) (Ar.lt (of_9_2 s16)) s17 (D_X0_cutOf_0.at 35 rfl) ?_
  refine J_callSN (d' := 1) (sr := fun z => [vI z]) (as := [vL r12, vI 0, vI (h13 ((h13 61 6) + 3) a1)]) (st := []) 73 rfl ok_X11_within sm_X11_within ml_0_105 rfl (by decide) ⟨Nat.le_refl _, Nat.le_refl _⟩ (Nat.le_of_ble_eq_true rfl) (D_X0_cutOf_0.at 36 rfl) (fun _ => rfl) T (fun r18 h19 T b20 => ?_)
  exact J_iret rfl (D_X0_cutOf_0.at 37 rfl) T
theorem c_X0_settling {w : Wd} {a1 a2 a3 : Int} {h : Hp} {K : Int → Hp → Prop} (T : (inR (h 61 7)) ∧ ((((h 61 7) = 0) → (K 0 h)) ∧ (¬ ((h 61 7) = 0) → ((inR a3) ∧ (((a3 ≠ 0) → ((Ob 7 (h 61 5)) ∧ ((inR (h ((h 61 5) + 15) 1)) ∧ ((((h ((h 61 5) + 15) 1) ≤ 0) → ((Ob 7 (h 61 5)) ∧ ((0 ≤ a2 ∧ a2 < 10) ∧ ((Ob 7 (h 61 5)) ∧ ((0 ≤ a1 ∧ a1 < 8) ∧ ((0 ≤ a1 ∧ a1 < 8) ∧ ((inR (((h 61 7) + (h ((h 61 5) + 7) a1)) - (3 * (h 62 a1)))) ∧ ((inR (h ((h 61 5) + 12) a2)) ∧ ((inR (max 0 (((h 61 7) + (h ((h 61 5) + 7) a1)) - (3 * (h 62 a1))))) ∧ ((((h ((h 61 5) + 12) a2) ≤ (max 0 (((h 61 7) + (h ((h 61 5) + 7) a1)) - (3 * (h 62 a1))))) → (K 0 h)) ∧ (¬ ((h ((h 61 5) + 12) a2) ≤ (max 0 (((h 61 7) + (h ((h 61 5) + 7) a1)) - (3 * (h 62 a1))))) → (K a3 h)))))))))))) ∧ (¬ ((h ((h 61 5) + 15) 1) ≤ 0) → (C_X0_tell w a1 a2 a3 h (fun _ h15 => (Ob 7 (h15 61 5)) ∧ (C_X6_reckon w ((h15 61 5) + 15) h15 (fun r18 h19 => (inR r18) ∧ (C_X11_within w r18 0 a3 h19 (fun r22 h23 => K r22 h23))))))))))) ∧ (¬ (a3 ≠ 0) → (K 0 h))))))) : C_X0_settling w a1 a2 a3 h K := by
  refine CGm_of2 (by decide) (by decide) trivial (Nat.le_of_ble_eq_true rfl) ?_
  refine J_aload_n 1 rfl 0 0 rfl ⟨by decide, by decide⟩ (D_X0_settling_0.at 0 rfl) ?_
  refine J_getI (z := (h 61 7)) 4 rfl fl_0_36 rfl ob_61 (Ob.lt ob_61) (D_X0_settling_0.at 1 rfl) rfl ?_
  obtain ⟨s1, T⟩ := T
  refine J_if_eq 7 rfl 11 s1 (D_X0_settling_0.at 2 rfl) (by decide) (fun c27 => ?_) (fun c27 => ?_)
  · replace T := T.1 c27
    refine J_iconst 12 rfl (D_X0_settling_0.at 5 rfl) ?_
    exact J_iret rfl (D_X0_settling_0.at 6 rfl) T
  replace T := T.2 c27
  refine J_iload_n 8 rfl 3 3 rfl (D_X0_settling_0.at 3 rfl) ?_
  obtain ⟨s2, T⟩ := T
  refine J_if_ne 11 rfl 13 s2 (D_X0_settling_0.at 4 rfl) (by decide) (fun c26 => ?_) (fun c26 => ?_)
  · replace T := T.1 c26
    refine J_aload_n 14 rfl 0 0 rfl ⟨by decide, by decide⟩ (D_X0_settling_0.at 7 rfl) ?_
    obtain ⟨s3, T⟩ := T
    refine J_getR (z := (h 61 5)) 17 rfl fl_0_28 rfl ob_61 (Ob.lt ob_61) (D_X0_settling_0.at 8 rfl) rfl ?_
    refine J_getF (ov := ((h 61 5) + 15)) (dd := 1015) 20 rfl fl_0_109 rfl (by decide) rfl s3 (Ob.lt s3) (D_X0_settling_0.at 9 rfl) ?_
    refine J_callV (d' := 1) (K1 := fun z h0 => rok (some .boolean) z → JG w true m_X0_settling 4 NT NT 23 [(0, vR 61), (1, vI a1), (2, vI a2), (3, vI a3)] [vI z] h0 _) (sr := fun z => [vI z]) (as := []) (st := []) (o := ((h 61 5) + 15)) 23 rfl ok_X1_isTold im_X1_isTold se_X1_isTold ml_0_86 isC_1 (of_7_10 s3) (Ob.lt (of_7_10 s3)) rfl (by decide) ⟨Nat.le_refl _, Nat.le_refl _⟩ (Nat.le_of_ble_eq_true rfl) (D_X0_settling_0.at 10 rfl) (fun _ => rfl) (CGm_of2 (by decide) (by decide) trivial (Nat.le_of_ble_eq_true rfl) ?_) (fun _ _ kq hb => kq hb)
    refine J_aload_n 1 rfl 0 0 rfl (Ob.rng (of_7_10 s3)) (D_X1_isTold_0.at 0 rfl) ?_
    refine J_getI (z := (h ((h 61 5) + 15) 1)) 4 rfl fl_1_15 rfl (of_7_10 s3) (Ob.lt (of_7_10 s3)) (D_X1_isTold_0.at 1 rfl) rfl ?_
    obtain ⟨s4, T⟩ := T
    refine J_if_le 7 rfl 11 s4 (D_X1_isTold_0.at 2 rfl) (by decide) (fun c25 => ?_) (fun c25 => ?_)
    · replace T := T.1 c25
      refine J_iconst 12 rfl (D_X1_isTold_0.at 5 rfl) ?_
      refine J_zret rfl (Or.inl rfl) (D_X1_isTold_0.at 6 rfl) (fun _ => ?_)
      refine J_if_ne 26 rfl 49 ⟨by decide, by decide⟩ (D_X0_settling_0.at 11 rfl) (by decide) (fun c => absurd c (by decide)) (fun _ => ?_)
      refine J_aload_n 27 rfl 0 0 rfl ⟨by decide, by decide⟩ (D_X0_settling_0.at 12 rfl) ?_
      obtain ⟨s5, T⟩ := T
      refine J_getR (z := (h 61 5)) 30 rfl fl_0_28 rfl ob_61 (Ob.lt ob_61) (D_X0_settling_0.at 13 rfl) rfl ?_
      refine J_getF (ov := ((h 61 5) + 12)) (dd := 1012) 33 rfl fl_0_112 rfl (by decide) rfl s5 (Ob.lt s5) (D_X0_settling_0.at 14 rfl) ?_
      refine J_iload_n 34 rfl 2 2 rfl (D_X0_settling_0.at 15 rfl) ?_
      obtain ⟨s6, T⟩ := T
      refine J_iald 35 rfl (of_7_8 s5) (Ar.lt (of_7_8 s5)) s6 (D_X0_settling_0.at 16 rfl) ?_
      refine J_aload_n 36 rfl 0 0 rfl ⟨by decide, by decide⟩ (D_X0_settling_0.at 17 rfl) ?_
      refine J_iload_n 37 rfl 1 1 rfl (D_X0_settling_0.at 18 rfl) ?_
      refine J_callV (d' := 1) (K1 := fun z h0 => rok (some .int) z → JG w true m_X0_settling 4 NT NT 40 [(0, vR 61), (1, vI a1), (2, vI a2), (3, vI a3)] [vI z, vI (h ((h 61 5) + 12) a2)] h0 _) (sr := fun z => [vI z, vI (h ((h 61 5) + 12) a2)]) (as := [vI a1]) (st := [vI (h ((h 61 5) + 12) a2)]) (o := 61) 40 rfl ok_X0_flowIn im_X0_flowIn se_X0_flowIn ml_0_115 isC_0 ob_61 (Ob.lt ob_61) rfl (by decide) ⟨Nat.le_refl _, Nat.le_refl _⟩ (Nat.le_of_ble_eq_true rfl) (D_X0_settling_0.at 19 rfl) (fun _ => rfl) (CGm_of2 (by decide) (by decide) trivial (Nat.le_of_ble_eq_true rfl) ?_) (fun _ _ kq hb => kq hb)
      refine J_iconst 1 rfl (D_X0_flowIn_0.at 0 rfl) ?_
      refine J_aload_n 2 rfl 0 0 rfl ⟨by decide, by decide⟩ (D_X0_flowIn_0.at 1 rfl) ?_
      refine J_getI (z := (h 61 7)) 5 rfl fl_0_36 rfl ob_61 (Ob.lt ob_61) (D_X0_flowIn_0.at 2 rfl) rfl ?_
      refine J_aload_n 6 rfl 0 0 rfl ⟨by decide, by decide⟩ (D_X0_flowIn_0.at 3 rfl) ?_
      obtain ⟨s7, T⟩ := T
      refine J_getR (z := (h 61 5)) 9 rfl fl_0_28 rfl ob_61 (Ob.lt ob_61) (D_X0_flowIn_0.at 4 rfl) rfl ?_
      refine J_getF (ov := ((h 61 5) + 7)) (dd := 1007) 12 rfl fl_0_80 rfl (by decide) rfl s7 (Ob.lt s7) (D_X0_flowIn_0.at 5 rfl) ?_
      refine J_iload_n 13 rfl 1 1 rfl (D_X0_flowIn_0.at 6 rfl) ?_
      obtain ⟨s8, T⟩ := T
      refine J_iald 14 rfl (of_7_3 s7) (Ar.lt (of_7_3 s7)) s8 (D_X0_flowIn_0.at 7 rfl) ?_
      refine J_iadd 15 rfl (D_X0_flowIn_0.at 8 rfl) ?_
      refine J_iconst 16 rfl (D_X0_flowIn_0.at 9 rfl) ?_
      refine J_aload_n 17 rfl 0 0 rfl ⟨by decide, by decide⟩ (D_X0_flowIn_0.at 10 rfl) ?_
      refine J_getF (ov := 62) (dd := 1001) 20 rfl fl_0_9 rfl (by decide) rfl ob_61 (Ob.lt ob_61) (D_X0_flowIn_0.at 11 rfl) ?_
      refine J_iload_n 21 rfl 1 1 rfl (D_X0_flowIn_0.at 12 rfl) ?_
      obtain ⟨s9, T⟩ := T
      refine J_iald 22 rfl ar_62 (Ar.lt ar_62) s9 (D_X0_flowIn_0.at 13 rfl) ?_
      refine J_imul 23 rfl (D_X0_flowIn_0.at 14 rfl) ?_
      refine J_isub 24 rfl (D_X0_flowIn_0.at 15 rfl) ?_
      obtain ⟨s10, T⟩ := T
      refine J_maxE 27 rfl ml_0_49 ⟨by decide, by decide⟩ s10 (Nat.le_of_ble_eq_true rfl) (by decide) (D_X0_flowIn_0.at 16 rfl) ?_
      refine J_iret rfl (D_X0_flowIn_0.at 17 rfl) (fun _ => ?_)
      obtain ⟨s11, T⟩ := T
      obtain ⟨s12, T⟩ := T
      refine J_icmp_le 43 rfl 47 s11 s12 (D_X0_settling_0.at 20 rfl) (by decide) (fun c13 => ?_) (fun c13 => ?_)
      · replace T := T.1 c13
        refine J_iconst 48 rfl (D_X0_settling_0.at 23 rfl) ?_
        exact J_iret rfl (D_X0_settling_0.at 24 rfl) T
      replace T := T.2 c13
      refine J_iload_n 44 rfl 3 3 rfl (D_X0_settling_0.at 21 rfl) ?_
      refine J_goto 48 (D_X0_settling_0.at 22 rfl) (by decide) ?_
      exact J_iret rfl (D_X0_settling_0.at 24 rfl) T
    replace T := T.2 c25
    refine J_iconst 8 rfl (D_X1_isTold_0.at 3 rfl) ?_
    refine J_goto 12 (D_X1_isTold_0.at 4 rfl) (by decide) ?_
    refine J_zret rfl (Or.inr rfl) (D_X1_isTold_0.at 6 rfl) (fun _ => ?_)
    refine J_if_ne 26 rfl 49 ⟨by decide, by decide⟩ (D_X0_settling_0.at 11 rfl) (by decide) (fun _ => ?_) (fun c => absurd (by decide) c)
    refine J_aload_n 50 rfl 0 0 rfl ⟨by decide, by decide⟩ (D_X0_settling_0.at 25 rfl) ?_
    refine J_iload_n 51 rfl 1 1 rfl (D_X0_settling_0.at 26 rfl) ?_
    refine J_iload_n 52 rfl 2 2 rfl (D_X0_settling_0.at 27 rfl) ?_
    refine J_iload_n 53 rfl 3 3 rfl (D_X0_settling_0.at 28 rfl) ?_
    refine J_callV (d' := 2) (sr := fun z => []) (as := [vI a1, vI a2, vI a3]) (st := []) (o := 61) 56 rfl ok_X0_tell im_X0_tell se_X0_tell ml_0_95 isC_0 ob_61 (Ob.lt ob_61) rfl (by decide) ⟨Nat.le_refl _, Nat.le_refl _⟩ (Nat.le_of_ble_eq_true rfl) (D_X0_settling_0.at 29 rfl) (fun _ => rfl) T (fun r14 h15 T b16 => ?_)
    refine J_aload_n 57 rfl 0 0 rfl ⟨by decide, by decide⟩ (D_X0_settling_0.at 30 rfl) ?_
    refine J_getF (ov := 52) (dd := 991) 60 rfl fl_0_24 rfl (by decide) rfl ob_61 (Ob.lt ob_61) (D_X0_settling_0.at 31 rfl) ?_
    refine J_aload_n 61 rfl 0 0 rfl ⟨by decide, by decide⟩ (D_X0_settling_0.at 32 rfl) ?_
    obtain ⟨s17, T⟩ := T
    refine J_getR (z := (h15 61 5)) 64 rfl fl_0_28 rfl ob_61 (Ob.lt ob_61) (D_X0_settling_0.at 33 rfl) rfl ?_
    refine J_getF (ov := ((h15 61 5) + 15)) (dd := 1015) 67 rfl fl_0_109 rfl (by decide) rfl s17 (Ob.lt s17) (D_X0_settling_0.at 34 rfl) ?_
    refine J_callV (d' := 3) (sr := fun z => [vI z]) (as := [vR ((h15 61 5) + 15)]) (st := []) (o := 52) 70 rfl ok_X6_reckon im_X6_reckon se_X6_reckon ml_0_99 isC_6 ob_52 (Ob.lt ob_52) rfl (by decide) ⟨Nat.le_refl _, Nat.le_refl _⟩ (Nat.le_of_ble_eq_true rfl) (D_X0_settling_0.at 35 rfl) (fun _ => rfl) T (fun r18 h19 T b20 => ?_)
    obtain ⟨s21, T⟩ := T
    refine J_i2l 71 rfl s21 (D_X0_settling_0.at 36 rfl) ?_
    refine J_iconst 72 rfl (D_X0_settling_0.at 37 rfl) ?_
    refine J_iload_n 73 rfl 3 3 rfl (D_X0_settling_0.at 38 rfl) ?_
    refine J_callSN (d' := 1) (sr := fun z => [vI z]) (as := [vL r18, vI 0, vI a3]) (st := []) 76 rfl ok_X11_within sm_X11_within ml_0_105 rfl (by decide) ⟨Nat.le_refl _, Nat.le_refl _⟩ (Nat.le_of_ble_eq_true rfl) (D_X0_settling_0.at 39 rfl) (fun _ => rfl) T (fun r22 h23 T b24 => ?_)
    exact J_iret rfl (D_X0_settling_0.at 40 rfl) T
  replace T := T.2 c26
  refine J_iconst 12 rfl (D_X0_settling_0.at 5 rfl) ?_
  exact J_iret rfl (D_X0_settling_0.at 6 rfl) T
theorem c_X0_shareLeft {w : Wd} {a1 a2 : Int} {h : Hp} {K : Int → Hp → Prop} (T : (Ob 9 (h 61 6)) ∧ ((Ob 7 (h 61 5)) ∧ (C_X9_owned w (h 61 6) (h 61 5) a1 a2 h (fun r3 h4 => L_X0_shareLeft_17 w a1 a2 r3 0 h4 K)))) : C_X0_shareLeft w a1 a2 h K := by
  refine CGm_of2 (by decide) (by decide) trivial (Nat.le_of_ble_eq_true rfl) ?_
  refine J_aload_n 1 rfl 0 0 rfl ⟨by decide, by decide⟩ (D_X0_shareLeft_0.at 0 rfl) ?_
  obtain ⟨s1, T⟩ := T
  refine J_getR (z := (h 61 6)) 4 rfl fl_0_32 rfl ob_61 (Ob.lt ob_61) (D_X0_shareLeft_0.at 1 rfl) rfl ?_
  refine J_aload_n 5 rfl 0 0 rfl ⟨by decide, by decide⟩ (D_X0_shareLeft_0.at 2 rfl) ?_
  obtain ⟨s2, T⟩ := T
  refine J_getR (z := (h 61 5)) 8 rfl fl_0_28 rfl ob_61 (Ob.lt ob_61) (D_X0_shareLeft_0.at 3 rfl) rfl ?_
  refine J_iload_n 9 rfl 1 1 rfl (D_X0_shareLeft_0.at 4 rfl) ?_
  refine J_iload_n 10 rfl 2 2 rfl (D_X0_shareLeft_0.at 5 rfl) ?_
  refine J_callV (d' := 2) (sr := fun z => [vI z]) (as := [vR (h 61 5), vI a1, vI a2]) (st := []) (o := (h 61 6)) 13 rfl ok_X9_owned im_X9_owned se_X9_owned ml_0_149 isC_9 s1 (Ob.lt s1) rfl (by decide) ⟨Nat.le_refl _, Nat.le_refl _⟩ (Nat.le_of_ble_eq_true rfl) (D_X0_shareLeft_0.at 6 rfl) (fun _ => rfl) T (fun r3 h4 T b5 => ?_)
  refine J_istore_n (lv' := [(3, vI r3), (0, vR 61), (1, vI a1), (2, vI a2)]) 14 rfl 3 (by decide) rfl (D_X0_shareLeft_0.at 7 rfl) ?_
  refine J_iconst 15 rfl (D_X0_shareLeft_0.at 8 rfl) ?_
  refine J_istore (lv' := [(4, vI 0), (3, vI r3), (0, vR 61), (1, vI a1), (2, vI a2)]) 17 rfl 4 (by decide) rfl (D_X0_shareLeft_0.at 9 rfl) ?_
  exact J_sub (lv' := [(0, vR 61), (1, vI a1), (2, vI a2), (3, vI r3), (4, vI 0)]) [2, 3, 4, 1, 0] rfl T
theorem l_X0_shareLeft_17 {w : Wd} {v1 v2 v3 v4 : Int} {h : Hp} {K : Int → Hp → Prop} (T : (Ob 7 (h 61 5)) ∧ ((inR v4) ∧ ((inR (h ((h 61 5) + 5) 1)) ∧ (((v4 ≥ (h ((h 61 5) + 5) 1)) → (C_X0_leftIn w v1 h (fun r9 h10 => (inR r9) ∧ (((r9 ≥ 1) → ((0 ≤ (1000 * v3) ∧ (1000 * v3) < 2147483648) ∧ ((0 < r9 ∧ r9 < 2147483648) ∧ (K ((1000 * v3) / r9) h10)))) ∧ (¬ (r9 ≥ 1) → (K 0 h10)))))) ∧ (¬ (v4 ≥ (h ((h 61 5) + 5) 1)) → ((Ob 7 (h 61 5)) ∧ ((0 ≤ v4 ∧ v4 < 10) ∧ ((inR (h ((h 61 5) + 8) v4)) ∧ ((inR v2) ∧ ((((h ((h 61 5) + 8) v4) ≠ v2) → (L_X0_shareLeft_17 w v1 v2 (v3 + 0) (v4 + 1) h K)) ∧ (¬ ((h ((h 61 5) + 8) v4) ≠ v2) → ((0 ≤ ((v1 * 10) + v4) ∧ ((v1 * 10) + v4) < 80) ∧ (L_X0_shareLeft_17 w v1 v2 (v3 + (h 64 ((v1 * 10) + v4))) (v4 + 1) h K))))))))))))) : L_X0_shareLeft_17 w v1 v2 v3 v4 h K := by
  unfold L_X0_shareLeft_17
  refine J_iload 19 rfl 4 4 rfl (D_X0_shareLeft_0.at 10 rfl) ?_
  refine J_aload_n 20 rfl 0 0 rfl ⟨by decide, by decide⟩ (D_X0_shareLeft_0.at 11 rfl) ?_
  obtain ⟨s6, T⟩ := T
  refine J_getR (z := (h 61 5)) 23 rfl fl_0_28 rfl ob_61 (Ob.lt ob_61) (D_X0_shareLeft_0.at 12 rfl) rfl ?_
  refine J_getF (ov := ((h 61 5) + 5)) (dd := 1005) 26 rfl fl_0_55 rfl (by decide) rfl s6 (Ob.lt s6) (D_X0_shareLeft_0.at 13 rfl) ?_
  refine J_getI (z := (h ((h 61 5) + 5) 1)) 29 rfl fl_0_61 rfl (of_7_2 s6) (Ob.lt (of_7_2 s6)) (D_X0_shareLeft_0.at 14 rfl) rfl ?_
  obtain ⟨s7, T⟩ := T
  obtain ⟨s8, T⟩ := T
  refine J_icmp_ge 32 rfl 70 s7 s8 (D_X0_shareLeft_0.at 15 rfl) (by decide) (fun c22 => ?_) (fun c22 => ?_)
  · replace T := T.1 c22
    refine J_iload_n 71 rfl 3 3 rfl (D_X0_shareLeft_0.at 36 rfl) ?_
    refine J_aload_n 72 rfl 0 0 rfl ⟨by decide, by decide⟩ (D_X0_shareLeft_0.at 37 rfl) ?_
    refine J_iload_n 73 rfl 1 1 rfl (D_X0_shareLeft_0.at 38 rfl) ?_
    refine J_callV (d' := 3) (sr := fun z => [vI z, vI v3]) (as := [vI v1]) (st := [vI v3]) (o := 61) 76 rfl ok_X0_leftIn im_X0_leftIn se_X0_leftIn ml_0_137 isC_0 ob_61 (Ob.lt ob_61) rfl (by decide) ⟨Nat.le_refl _, Nat.le_refl _⟩ (Nat.le_of_ble_eq_true rfl) (D_X0_shareLeft_0.at 39 rfl) (fun _ => rfl) T (fun r9 h10 T b11 => ?_)
    refine J_callSN (d' := 1) (K1 := fun z h0 => rok (some .int) z → JG w true m_X0_shareLeft 4 NT NT 79 [(0, vR 61), (1, vI v1), (2, vI v2), (3, vI v3), (4, vI v4)] [vI z] h0 _) (sr := fun z => [vI z]) (as := [vI v3, vI r9]) (st := []) 79 rfl ok_X11_thousandths sm_X11_thousandths ml_0_156 rfl (by decide) ⟨Nat.le_refl _, Nat.le_refl _⟩ (Nat.le_of_ble_eq_true rfl) (D_X0_shareLeft_0.at 40 rfl) (fun _ => rfl) (CGm_of2 (by decide) (by decide) trivial (Nat.le_of_ble_eq_true rfl) ?_) (fun _ _ kq hb => kq hb)
    refine J_iload_n 1 rfl 1 1 rfl (D_X11_thousandths_0.at 0 rfl) ?_
    refine J_iconst 2 rfl (D_X11_thousandths_0.at 1 rfl) ?_
    obtain ⟨s12, T⟩ := T
    refine J_icmp_ge 5 rfl 9 s12 ⟨by decide, by decide⟩ (D_X11_thousandths_0.at 2 rfl) (by decide) (fun c15 => ?_) (fun c15 => ?_)
    · replace T := T.1 c15
      refine J_sipush 12 rfl ⟨by decide, by decide⟩ (D_X11_thousandths_0.at 5 rfl) ?_
      refine J_iload_n 13 rfl 0 0 rfl (D_X11_thousandths_0.at 6 rfl) ?_
      refine J_imul 14 rfl (D_X11_thousandths_0.at 7 rfl) ?_
      refine J_iload_n 15 rfl 1 1 rfl (D_X11_thousandths_0.at 8 rfl) ?_
      obtain ⟨s13, T⟩ := T
      obtain ⟨s14, T⟩ := T
      refine J_idiv 16 rfl s13 s14 (D_X11_thousandths_0.at 9 rfl) ?_
      refine J_iret rfl (D_X11_thousandths_0.at 10 rfl) (fun _ => ?_)
      exact J_iret rfl (D_X0_shareLeft_0.at 41 rfl) T
    replace T := T.2 c15
    refine J_iconst 6 rfl (D_X11_thousandths_0.at 3 rfl) ?_
    refine J_goto 16 (D_X11_thousandths_0.at 4 rfl) (by decide) ?_
    refine J_iret rfl (D_X11_thousandths_0.at 10 rfl) (fun _ => ?_)
    exact J_iret rfl (D_X0_shareLeft_0.at 41 rfl) T
  replace T := T.2 c22
  refine J_iload_n 33 rfl 3 3 rfl (D_X0_shareLeft_0.at 16 rfl) ?_
  refine J_aload_n 34 rfl 0 0 rfl ⟨by decide, by decide⟩ (D_X0_shareLeft_0.at 17 rfl) ?_
  obtain ⟨s16, T⟩ := T
  refine J_getR (z := (h 61 5)) 37 rfl fl_0_28 rfl ob_61 (Ob.lt ob_61) (D_X0_shareLeft_0.at 18 rfl) rfl ?_
  refine J_getF (ov := ((h 61 5) + 8)) (dd := 1008) 40 rfl fl_0_153 rfl (by decide) rfl s16 (Ob.lt s16) (D_X0_shareLeft_0.at 19 rfl) ?_
  refine J_iload 42 rfl 4 4 rfl (D_X0_shareLeft_0.at 20 rfl) ?_
  obtain ⟨s17, T⟩ := T
  refine J_iald 43 rfl (of_7_4 s16) (Ar.lt (of_7_4 s16)) s17 (D_X0_shareLeft_0.at 21 rfl) ?_
  refine J_iload_n 44 rfl 2 2 rfl (D_X0_shareLeft_0.at 22 rfl) ?_
  obtain ⟨s18, T⟩ := T
  obtain ⟨s19, T⟩ := T
  refine J_icmp_ne 47 rfl 61 s18 s19 (D_X0_shareLeft_0.at 23 rfl) (by decide) (fun c21 => ?_) (fun c21 => ?_)
  · replace T := T.1 c21
    refine J_iconst 62 rfl (D_X0_shareLeft_0.at 31 rfl) ?_
    refine J_iadd 63 rfl (D_X0_shareLeft_0.at 32 rfl) ?_
    refine J_istore_n (lv' := [(3, vI (v3 + 0)), (0, vR 61), (1, vI v1), (2, vI v2), (4, vI v4)]) 64 rfl 3 (by decide) rfl (D_X0_shareLeft_0.at 33 rfl) ?_
    refine J_iinc (v := (v4 + 1)) (lv' := [(4, vI (v4 + 1)), (3, vI (v3 + 0)), (0, vR 61), (1, vI v1), (2, vI v2)]) 67 rfl 4 4 1 rfl rfl (by decide) rfl (D_X0_shareLeft_0.at 34 rfl) ?_
    refine J_goto 17 (D_X0_shareLeft_0.at 35 rfl) (by decide) ?_
    exact J_sub (lv' := [(0, vR 61), (1, vI v1), (2, vI v2), (3, vI (v3 + 0)), (4, vI (v4 + 1))]) [2, 3, 4, 1, 0] rfl T
  replace T := T.2 c21
  refine J_aload_n 48 rfl 0 0 rfl ⟨by decide, by decide⟩ (D_X0_shareLeft_0.at 24 rfl) ?_
  refine J_getF (ov := 64) (dd := 1003) 51 rfl fl_0_18 rfl (by decide) rfl ob_61 (Ob.lt ob_61) (D_X0_shareLeft_0.at 25 rfl) ?_
  refine J_iload_n 52 rfl 1 1 rfl (D_X0_shareLeft_0.at 26 rfl) ?_
  refine J_iload 54 rfl 4 4 rfl (D_X0_shareLeft_0.at 27 rfl) ?_
  refine J_callSN (d' := 1) (K1 := fun z h0 => rok (some .int) z → JG w true m_X0_shareLeft 4 NT NT 57 [(0, vR 61), (1, vI v1), (2, vI v2), (3, vI v3), (4, vI v4)] [vI z, vR 64, vI v3] h0 _) (sr := fun z => [vI z, vR 64, vI v3]) (as := [vI v1, vI v4]) (st := [vR 64, vI v3]) 57 rfl ok_X11_cell sm_X11_cell ml_0_66 rfl (by decide) ⟨Nat.le_refl _, Nat.le_refl _⟩ (Nat.le_of_ble_eq_true rfl) (D_X0_shareLeft_0.at 28 rfl) (fun _ => rfl) (CGm_of2 (by decide) (by decide) trivial (Nat.le_of_ble_eq_true rfl) ?_) (fun _ _ kq hb => kq hb)
  refine J_iload_n 1 rfl 0 0 rfl (D_X11_cell_0.at 0 rfl) ?_
  refine J_bipush 3 rfl ⟨by decide, by decide⟩ (D_X11_cell_0.at 1 rfl) ?_
  refine J_imul 4 rfl (D_X11_cell_0.at 2 rfl) ?_
  refine J_iload_n 5 rfl 1 1 rfl (D_X11_cell_0.at 3 rfl) ?_
  refine J_iadd 6 rfl (D_X11_cell_0.at 4 rfl) ?_
  refine J_iret rfl (D_X11_cell_0.at 5 rfl) (fun _ => ?_)
  obtain ⟨s20, T⟩ := T
  refine J_iald 58 rfl ar_64 (Ar.lt ar_64) s20 (D_X0_shareLeft_0.at 29 rfl) ?_
  refine J_goto 62 (D_X0_shareLeft_0.at 30 rfl) (by decide) ?_
  refine J_iadd 63 rfl (D_X0_shareLeft_0.at 32 rfl) ?_
  refine J_istore_n (lv' := [(3, vI (v3 + (h 64 ((v1 * 10) + v4)))), (0, vR 61), (1, vI v1), (2, vI v2), (4, vI v4)]) 64 rfl 3 (by decide) rfl (D_X0_shareLeft_0.at 33 rfl) ?_
  refine J_iinc (v := (v4 + 1)) (lv' := [(4, vI (v4 + 1)), (3, vI (v3 + (h 64 ((v1 * 10) + v4)))), (0, vR 61), (1, vI v1), (2, vI v2)]) 67 rfl 4 4 1 rfl rfl (by decide) rfl (D_X0_shareLeft_0.at 34 rfl) ?_
  refine J_goto 17 (D_X0_shareLeft_0.at 35 rfl) (by decide) ?_
  exact J_sub (lv' := [(0, vR 61), (1, vI v1), (2, vI v2), (3, vI (v3 + (h 64 ((v1 * 10) + v4)))), (4, vI (v4 + 1))]) [2, 3, 4, 1, 0] rfl T
theorem c_X0_tellAll {w : Wd} {h : Hp} {K : Int → Hp → Prop} (T : ∀ h1 : Hp, h1 = hu h 54 0 (h 61 7) → C_X0_taken w h1 (fun r3 h4 => ∀ h6 : Hp, h6 = hu h4 54 7 r3 → C_X0_toSea w h6 (fun r8 h9 => ∀ h11 : Hp, h11 = hu h9 54 8 r8 → L_X0_tellAll_43 w 0 h11 K))) : C_X0_tellAll w h K := by
  refine CGm_of2 (by decide) (by decide) trivial (Nat.le_of_ble_eq_true rfl) ?_
  refine J_aload_n 1 rfl 0 0 rfl ⟨by decide, by decide⟩ (D_X0_tellAll_0.at 0 rfl) ?_
  refine J_getF (ov := 52) (dd := 991) 4 rfl fl_0_24 rfl (by decide) rfl ob_61 (Ob.lt ob_61) (D_X0_tellAll_0.at 1 rfl) ?_
  refine J_getF (ov := 54) (dd := 1002) 7 rfl fl_0_118 rfl (by decide) rfl ob_52 (Ob.lt ob_52) (D_X0_tellAll_0.at 2 rfl) ?_
  refine J_iconst 8 rfl (D_X0_tellAll_0.at 3 rfl) ?_
  refine J_aload_n 9 rfl 0 0 rfl ⟨by decide, by decide⟩ (D_X0_tellAll_0.at 4 rfl) ?_
  refine J_getI (z := (h 61 7)) 12 rfl fl_0_36 rfl ob_61 (Ob.lt ob_61) (D_X0_tellAll_0.at 5 rfl) rfl ?_
  refine J_iastH 13 rfl ar_54 (Ar.lt ar_54) ⟨by decide, by decide⟩ trivial (D_X0_tellAll_0.at 6 rfl) (fun h1 e2 => ?_)
  replace T := T h1 e2
  refine J_aload_n 14 rfl 0 0 rfl ⟨by decide, by decide⟩ (D_X0_tellAll_0.at 7 rfl) ?_
  refine J_getF (ov := 52) (dd := 991) 17 rfl fl_0_24 rfl (by decide) rfl ob_61 (Ob.lt ob_61) (D_X0_tellAll_0.at 8 rfl) ?_
  refine J_getF (ov := 54) (dd := 1002) 20 rfl fl_0_118 rfl (by decide) rfl ob_52 (Ob.lt ob_52) (D_X0_tellAll_0.at 9 rfl) ?_
  refine J_bipush 22 rfl ⟨by decide, by decide⟩ (D_X0_tellAll_0.at 10 rfl) ?_
  refine J_aload_n 23 rfl 0 0 rfl ⟨by decide, by decide⟩ (D_X0_tellAll_0.at 11 rfl) ?_
  refine J_callV (d' := 1) (sr := fun z => [vI z, vI 7, vR 54]) (as := []) (st := [vI 7, vR 54]) (o := 61) 26 rfl ok_X0_taken im_X0_taken se_X0_taken ml_0_124 isC_0 ob_61 (Ob.lt ob_61) rfl (by decide) ⟨Nat.le_refl _, Nat.le_refl _⟩ (Nat.le_of_ble_eq_true rfl) (D_X0_tellAll_0.at 12 rfl) (fun _ => rfl) T (fun r3 h4 T b5 => ?_)
  refine J_iastH 27 rfl ar_54 (Ar.lt ar_54) ⟨by decide, by decide⟩ trivial (D_X0_tellAll_0.at 13 rfl) (fun h6 e7 => ?_)
  replace T := T h6 e7
  refine J_aload_n 28 rfl 0 0 rfl ⟨by decide, by decide⟩ (D_X0_tellAll_0.at 14 rfl) ?_
  refine J_getF (ov := 52) (dd := 991) 31 rfl fl_0_24 rfl (by decide) rfl ob_61 (Ob.lt ob_61) (D_X0_tellAll_0.at 15 rfl) ?_
  refine J_getF (ov := 54) (dd := 1002) 34 rfl fl_0_118 rfl (by decide) rfl ob_52 (Ob.lt ob_52) (D_X0_tellAll_0.at 16 rfl) ?_
  refine J_bipush 36 rfl ⟨by decide, by decide⟩ (D_X0_tellAll_0.at 17 rfl) ?_
  refine J_aload_n 37 rfl 0 0 rfl ⟨by decide, by decide⟩ (D_X0_tellAll_0.at 18 rfl) ?_
  refine J_callV (d' := 2) (sr := fun z => [vI z, vI 8, vR 54]) (as := []) (st := [vI 8, vR 54]) (o := 61) 40 rfl ok_X0_toSea im_X0_toSea se_X0_toSea ml_0_128 isC_0 ob_61 (Ob.lt ob_61) rfl (by decide) ⟨Nat.le_refl _, Nat.le_refl _⟩ (Nat.le_of_ble_eq_true rfl) (D_X0_tellAll_0.at 19 rfl) (fun _ => rfl) T (fun r8 h9 T b10 => ?_)
  refine J_iastH 41 rfl ar_54 (Ar.lt ar_54) ⟨by decide, by decide⟩ trivial (D_X0_tellAll_0.at 20 rfl) (fun h11 e12 => ?_)
  replace T := T h11 e12
  refine J_iconst 42 rfl (D_X0_tellAll_0.at 21 rfl) ?_
  refine J_istore_n (lv' := [(1, vI 0), (0, vR 61)]) 43 rfl 1 (by decide) rfl (D_X0_tellAll_0.at 22 rfl) ?_
  exact J_sub (lv' := [(0, vR 61), (1, vI 0)]) [1, 0] rfl T
theorem l_X0_tellAll_43 {w : Wd} {v1 : Int} {h : Hp} {K : Int → Hp → Prop} (T : (inR v1) ∧ (((v1 ≥ 8) → (L_X0_tellAll_86 w 0 h K)) ∧ (¬ (v1 ≥ 8) → ((Ob 7 (h 61 5)) ∧ ((inR v1) ∧ ((inR (h (h 61 5) 12)) ∧ (((v1 ≥ (h (h 61 5) 12)) → ((0 ≤ v1 ∧ v1 < 8) ∧ (∀ h18 : Hp, h18 = hu h 55 v1 0 → L_X0_tellAll_43 w (v1 + 1) h18 K))) ∧ (¬ (v1 ≥ (h (h 61 5) 12)) → (C_X0_leftIn w v1 h (fun r20 h21 => (0 ≤ v1 ∧ v1 < 8) ∧ (∀ h24 : Hp, h24 = hu h21 55 v1 r20 → L_X0_tellAll_43 w (v1 + 1) h24 K))))))))))) : L_X0_tellAll_43 w v1 h K := by
  unfold L_X0_tellAll_43
  refine J_iload_n 44 rfl 1 1 rfl (D_X0_tellAll_0.at 23 rfl) ?_
  refine J_bipush 46 rfl ⟨by decide, by decide⟩ (D_X0_tellAll_0.at 24 rfl) ?_
  obtain ⟨s13, T⟩ := T
  refine J_icmp_ge 49 rfl 84 s13 ⟨by decide, by decide⟩ (D_X0_tellAll_0.at 25 rfl) (by decide) (fun c27 => ?_) (fun c27 => ?_)
  · replace T := T.1 c27
    refine J_iconst 85 rfl (D_X0_tellAll_0.at 43 rfl) ?_
    refine J_istore_n (lv' := [(1, vI 0), (0, vR 61)]) 86 rfl 1 (by decide) rfl (D_X0_tellAll_0.at 44 rfl) ?_
    exact J_sub (lv' := [(0, vR 61), (1, vI 0)]) [1, 0] rfl T
  replace T := T.2 c27
  refine J_aload_n 50 rfl 0 0 rfl ⟨by decide, by decide⟩ (D_X0_tellAll_0.at 26 rfl) ?_
  refine J_getF (ov := 52) (dd := 991) 53 rfl fl_0_24 rfl (by decide) rfl ob_61 (Ob.lt ob_61) (D_X0_tellAll_0.at 27 rfl) ?_
  refine J_getF (ov := 55) (dd := 1003) 56 rfl fl_0_131 rfl (by decide) rfl ob_52 (Ob.lt ob_52) (D_X0_tellAll_0.at 28 rfl) ?_
  refine J_iload_n 57 rfl 1 1 rfl (D_X0_tellAll_0.at 29 rfl) ?_
  refine J_iload_n 58 rfl 1 1 rfl (D_X0_tellAll_0.at 30 rfl) ?_
  refine J_aload_n 59 rfl 0 0 rfl ⟨by decide, by decide⟩ (D_X0_tellAll_0.at 31 rfl) ?_
  obtain ⟨s14, T⟩ := T
  refine J_getR (z := (h 61 5)) 62 rfl fl_0_28 rfl ob_61 (Ob.lt ob_61) (D_X0_tellAll_0.at 32 rfl) rfl ?_
  refine J_getI (z := (h (h 61 5) 12)) 65 rfl fl_0_134 rfl s14 (Ob.lt s14) (D_X0_tellAll_0.at 33 rfl) rfl ?_
  obtain ⟨s15, T⟩ := T
  obtain ⟨s16, T⟩ := T
  refine J_icmp_ge 68 rfl 76 s15 s16 (D_X0_tellAll_0.at 34 rfl) (by decide) (fun c26 => ?_) (fun c26 => ?_)
  · replace T := T.1 c26
    refine J_iconst 77 rfl (D_X0_tellAll_0.at 39 rfl) ?_
    obtain ⟨s17, T⟩ := T
    refine J_iastH 78 rfl ar_55 (Ar.lt ar_55) s17 trivial (D_X0_tellAll_0.at 40 rfl) (fun h18 e19 => ?_)
    replace T := T h18 e19
    refine J_iinc (v := (v1 + 1)) (lv' := [(1, vI (v1 + 1)), (0, vR 61)]) 81 rfl 1 1 1 rfl rfl (by decide) rfl (D_X0_tellAll_0.at 41 rfl) ?_
    refine J_goto 43 (D_X0_tellAll_0.at 42 rfl) (by decide) ?_
    exact J_sub (lv' := [(0, vR 61), (1, vI (v1 + 1))]) [1, 0] rfl T
  replace T := T.2 c26
  refine J_aload_n 69 rfl 0 0 rfl ⟨by decide, by decide⟩ (D_X0_tellAll_0.at 35 rfl) ?_
  refine J_iload_n 70 rfl 1 1 rfl (D_X0_tellAll_0.at 36 rfl) ?_
  refine J_callV (d' := 3) (sr := fun z => [vI z, vI v1, vR 55]) (as := [vI v1]) (st := [vI v1, vR 55]) (o := 61) 73 rfl ok_X0_leftIn im_X0_leftIn se_X0_leftIn ml_0_137 isC_0 ob_61 (Ob.lt ob_61) rfl (by decide) ⟨Nat.le_refl _, Nat.le_refl _⟩ (Nat.le_of_ble_eq_true rfl) (D_X0_tellAll_0.at 37 rfl) (fun _ => rfl) T (fun r20 h21 T b22 => ?_)
  refine J_goto 77 (D_X0_tellAll_0.at 38 rfl) (by decide) ?_
  obtain ⟨s23, T⟩ := T
  refine J_iastH 78 rfl ar_55 (Ar.lt ar_55) s23 trivial (D_X0_tellAll_0.at 40 rfl) (fun h24 e25 => ?_)
  replace T := T h24 e25
  refine J_iinc (v := (v1 + 1)) (lv' := [(1, vI (v1 + 1)), (0, vR 61)]) 81 rfl 1 1 1 rfl rfl (by decide) rfl (D_X0_tellAll_0.at 41 rfl) ?_
  refine J_goto 43 (D_X0_tellAll_0.at 42 rfl) (by decide) ?_
  exact J_sub (lv' := [(0, vR 61), (1, vI (v1 + 1))]) [1, 0] rfl T
theorem l_X0_tellAll_86 {w : Wd} {v1 : Int} {h : Hp} {K : Int → Hp → Prop} (T : (inR v1) ∧ (((v1 ≥ 10) → (K 0 h)) ∧ (¬ (v1 ≥ 10) → ((Ob 7 (h 61 5)) ∧ ((inR v1) ∧ ((inR (h ((h 61 5) + 5) 1)) ∧ (((v1 ≥ (h ((h 61 5) + 5) 1)) → ((0 ≤ v1 ∧ v1 < 10) ∧ (∀ h33 : Hp, h33 = hu h 56 v1 0 → L_X0_tellAll_86 w (v1 + 1) h33 K))) ∧ (¬ (v1 ≥ (h ((h 61 5) + 5) 1)) → ((Ob 9 (h 61 6)) ∧ ((0 ≤ v1 ∧ v1 < 10) ∧ ((0 ≤ v1 ∧ v1 < 10) ∧ ((0 ≤ v1 ∧ v1 < 10) ∧ (∀ h39 : Hp, h39 = hu h 56 v1 ((h ((h 61 6) + 3) v1) - (h 63 v1)) → L_X0_tellAll_86 w (v1 + 1) h39 K))))))))))))) : L_X0_tellAll_86 w v1 h K := by
  unfold L_X0_tellAll_86
  refine J_iload_n 87 rfl 1 1 rfl (D_X0_tellAll_0.at 45 rfl) ?_
  refine J_bipush 89 rfl ⟨by decide, by decide⟩ (D_X0_tellAll_0.at 46 rfl) ?_
  obtain ⟨s28, T⟩ := T
  refine J_icmp_ge 92 rfl 141 s28 ⟨by decide, by decide⟩ (D_X0_tellAll_0.at 47 rfl) (by decide) (fun c42 => ?_) (fun c42 => ?_)
  · replace T := T.1 c42
    exact J_vret rfl (D_X0_tellAll_1.at 25 rfl) T
  replace T := T.2 c42
  refine J_aload_n 93 rfl 0 0 rfl ⟨by decide, by decide⟩ (D_X0_tellAll_1.at 0 rfl) ?_
  refine J_getF (ov := 52) (dd := 991) 96 rfl fl_0_24 rfl (by decide) rfl ob_61 (Ob.lt ob_61) (D_X0_tellAll_1.at 1 rfl) ?_
  refine J_getF (ov := 56) (dd := 1004) 99 rfl fl_0_140 rfl (by decide) rfl ob_52 (Ob.lt ob_52) (D_X0_tellAll_1.at 2 rfl) ?_
  refine J_iload_n 100 rfl 1 1 rfl (D_X0_tellAll_1.at 3 rfl) ?_
  refine J_iload_n 101 rfl 1 1 rfl (D_X0_tellAll_1.at 4 rfl) ?_
  refine J_aload_n 102 rfl 0 0 rfl ⟨by decide, by decide⟩ (D_X0_tellAll_1.at 5 rfl) ?_
  obtain ⟨s29, T⟩ := T
  refine J_getR (z := (h 61 5)) 105 rfl fl_0_28 rfl ob_61 (Ob.lt ob_61) (D_X0_tellAll_1.at 6 rfl) rfl ?_
  refine J_getF (ov := ((h 61 5) + 5)) (dd := 1005) 108 rfl fl_0_55 rfl (by decide) rfl s29 (Ob.lt s29) (D_X0_tellAll_1.at 7 rfl) ?_
  refine J_getI (z := (h ((h 61 5) + 5) 1)) 111 rfl fl_0_61 rfl (of_7_2 s29) (Ob.lt (of_7_2 s29)) (D_X0_tellAll_1.at 8 rfl) rfl ?_
  obtain ⟨s30, T⟩ := T
  obtain ⟨s31, T⟩ := T
  refine J_icmp_ge 114 rfl 133 s30 s31 (D_X0_tellAll_1.at 9 rfl) (by decide) (fun c41 => ?_) (fun c41 => ?_)
  · replace T := T.1 c41
    refine J_iconst 134 rfl (D_X0_tellAll_1.at 21 rfl) ?_
    obtain ⟨s32, T⟩ := T
    refine J_iastH 135 rfl ar_56 (Ar.lt ar_56) s32 trivial (D_X0_tellAll_1.at 22 rfl) (fun h33 e34 => ?_)
    replace T := T h33 e34
    refine J_iinc (v := (v1 + 1)) (lv' := [(1, vI (v1 + 1)), (0, vR 61)]) 138 rfl 1 1 1 rfl rfl (by decide) rfl (D_X0_tellAll_1.at 23 rfl) ?_
    refine J_goto 86 (D_X0_tellAll_1.at 24 rfl) (by decide) ?_
    exact J_sub (lv' := [(0, vR 61), (1, vI (v1 + 1))]) [1, 0] rfl T
  replace T := T.2 c41
  refine J_aload_n 115 rfl 0 0 rfl ⟨by decide, by decide⟩ (D_X0_tellAll_1.at 10 rfl) ?_
  obtain ⟨s35, T⟩ := T
  refine J_getR (z := (h 61 6)) 118 rfl fl_0_32 rfl ob_61 (Ob.lt ob_61) (D_X0_tellAll_1.at 11 rfl) rfl ?_
  refine J_getF (ov := ((h 61 6) + 3)) (dd := 1003) 121 rfl fl_0_92 rfl (by decide) rfl s35 (Ob.lt s35) (D_X0_tellAll_1.at 12 rfl) ?_
  refine J_iload_n 122 rfl 1 1 rfl (D_X0_tellAll_1.at 13 rfl) ?_
  obtain ⟨s36, T⟩ := T
  refine J_iald 123 rfl (of_9_2 s35) (Ar.lt (of_9_2 s35)) s36 (D_X0_tellAll_1.at 14 rfl) ?_
  refine J_aload_n 124 rfl 0 0 rfl ⟨by decide, by decide⟩ (D_X0_tellAll_1.at 15 rfl) ?_
  refine J_getF (ov := 63) (dd := 1002) 127 rfl fl_0_15 rfl (by decide) rfl ob_61 (Ob.lt ob_61) (D_X0_tellAll_1.at 16 rfl) ?_
  refine J_iload_n 128 rfl 1 1 rfl (D_X0_tellAll_1.at 17 rfl) ?_
  obtain ⟨s37, T⟩ := T
  refine J_iald 129 rfl ar_63 (Ar.lt ar_63) s37 (D_X0_tellAll_1.at 18 rfl) ?_
  refine J_isub 130 rfl (D_X0_tellAll_1.at 19 rfl) ?_
  refine J_goto 134 (D_X0_tellAll_1.at 20 rfl) (by decide) ?_
  obtain ⟨s38, T⟩ := T
  refine J_iastH 135 rfl ar_56 (Ar.lt ar_56) s38 trivial (D_X0_tellAll_1.at 22 rfl) (fun h39 e40 => ?_)
  replace T := T h39 e40
  refine J_iinc (v := (v1 + 1)) (lv' := [(1, vI (v1 + 1)), (0, vR 61)]) 138 rfl 1 1 1 rfl rfl (by decide) rfl (D_X0_tellAll_1.at 23 rfl) ?_
  refine J_goto 86 (D_X0_tellAll_1.at 24 rfl) (by decide) ?_
  exact J_sub (lv' := [(0, vR 61), (1, vI (v1 + 1))]) [1, 0] rfl T
theorem c_X0_run {w : Wd} {a1 a2 : Int} {h : Hp} {K : Int → Hp → Prop} (T : (inR a1) ∧ (L_X0_run_6 w a2 (max 0 a1) h K)) : C_X0_run w a1 a2 h K := by
  refine CGm_of2 (by decide) (by decide) trivial (Nat.le_of_ble_eq_true rfl) ?_
  refine J_iconst 1 rfl (D_X0_run_0.at 0 rfl) ?_
  refine J_iload_n 2 rfl 1 1 rfl (D_X0_run_0.at 1 rfl) ?_
  obtain ⟨s1, T⟩ := T
  refine J_maxE 5 rfl ml_0_49 ⟨by decide, by decide⟩ s1 (Nat.le_of_ble_eq_true rfl) (by decide) (D_X0_run_0.at 2 rfl) ?_
  refine J_istore_n (lv' := [(3, vI (max 0 a1)), (0, vR 61), (1, vI a1), (2, vI a2)]) 6 rfl 3 (by decide) rfl (D_X0_run_0.at 3 rfl) ?_
  exact J_sub (lv' := [(0, vR 61), (2, vI a2), (3, vI (max 0 a1))]) [1, 3, 0] rfl T
theorem l_X0_run_6 {w : Wd} {v2 v3 : Int} {h : Hp} {K : Int → Hp → Prop} (T : (inR v3) ∧ ((inR v2) ∧ (((v3 > v2) → (L_X0_run_149 w h K)) ∧ (¬ (v3 > v2) → ((inR v3) ∧ (((v3 ≥ 8) → (L_X0_run_149 w h K)) ∧ (¬ (v3 ≥ 8) → (L_X0_run_20 w v2 v3 0 h K)))))))) : L_X0_run_6 w v2 v3 h K := by
  unfold L_X0_run_6
  refine J_iload_n 7 rfl 3 2 rfl (D_X0_run_0.at 4 rfl) ?_
  refine J_iload_n 8 rfl 2 1 rfl (D_X0_run_0.at 5 rfl) ?_
  obtain ⟨s2, T⟩ := T
  obtain ⟨s3, T⟩ := T
  refine J_icmp_gt 11 rfl 149 s2 s3 (D_X0_run_0.at 6 rfl) (by decide) (fun c6 => ?_) (fun c6 => ?_)
  · replace T := T.1 c6
    exact J_sub (lv' := []) [] rfl T
  replace T := T.2 c6
  refine J_iload_n 12 rfl 3 2 rfl (D_X0_run_0.at 7 rfl) ?_
  refine J_bipush 14 rfl ⟨by decide, by decide⟩ (D_X0_run_0.at 8 rfl) ?_
  obtain ⟨s4, T⟩ := T
  refine J_icmp_ge 17 rfl 149 s4 ⟨by decide, by decide⟩ (D_X0_run_0.at 9 rfl) (by decide) (fun c5 => ?_) (fun c5 => ?_)
  · replace T := T.1 c5
    exact J_sub (lv' := []) [] rfl T
  replace T := T.2 c5
  refine J_iconst 18 rfl (D_X0_run_0.at 10 rfl) ?_
  refine J_istore (lv' := [(4, vI 0), (0, vR 61), (2, vI v2), (3, vI v3)]) 20 rfl 4 (by decide) rfl (D_X0_run_0.at 11 rfl) ?_
  exact J_sub (lv' := [(0, vR 61), (2, vI v2), (3, vI v3), (4, vI 0)]) [1, 2, 3, 0] rfl T
theorem l_X0_run_20 {w : Wd} {v2 v3 v4 : Int} {h : Hp} {K : Int → Hp → Prop} (T : (Ob 7 (h 61 5)) ∧ ((inR v4) ∧ ((inR (h ((h 61 5) + 5) 1)) ∧ (((v4 ≥ (h ((h 61 5) + 5) 1)) → (L_X0_run_6 w v2 (v3 + 1) h K)) ∧ (¬ (v4 ≥ (h ((h 61 5) + 5) 1)) → ((inR v3) ∧ (((v3 ≠ 0) → ((0 ≤ (((v3 - 1) * 10) + v4) ∧ (((v3 - 1) * 10) + v4) < 80) ∧ ((Ob 7 (h 61 5)) ∧ ((0 ≤ v4 ∧ v4 < 10) ∧ ((inR (h ((h 61 5) + 10) v4)) ∧ ((inR v3) ∧ ((((h ((h 61 5) + 10) v4) ≠ v3) → (L_X0_run_97 w v2 v3 v4 (h 65 (((v3 - 1) * 10) + v4)) h K)) ∧ (¬ ((h ((h 61 5) + 10) v4) ≠ v3) → (C_X0_cutOf w v4 h (fun r16 h17 => (0 ≤ v4 ∧ v4 < 10) ∧ (∀ h20 : Hp, h20 = hu h17 63 v4 r16 → (0 ≤ v4 ∧ v4 < 10) ∧ (L_X0_run_97 w v2 v3 v4 ((h 65 (((v3 - 1) * 10) + v4)) + (h20 63 v4)) h20 K)))))))))))) ∧ (¬ (v3 ≠ 0) → ((Ob 7 (h 61 5)) ∧ ((0 ≤ v4 ∧ v4 < 10) ∧ ((inR (h ((h 61 5) + 10) v4)) ∧ ((inR v3) ∧ ((((h ((h 61 5) + 10) v4) ≠ v3) → (L_X0_run_97 w v2 v3 v4 0 h K)) ∧ (¬ ((h ((h 61 5) + 10) v4) ≠ v3) → (C_X0_cutOf w v4 h (fun r28 h29 => (0 ≤ v4 ∧ v4 < 10) ∧ (∀ h32 : Hp, h32 = hu h29 63 v4 r28 → (0 ≤ v4 ∧ v4 < 10) ∧ (L_X0_run_97 w v2 v3 v4 (0 + (h32 63 v4)) h32 K)))))))))))))))))) : L_X0_run_20 w v2 v3 v4 h K := by
  unfold L_X0_run_20
  refine J_iload 22 rfl 4 3 rfl (D_X0_run_0.at 12 rfl) ?_
  refine J_aload_n 23 rfl 0 0 rfl ⟨by decide, by decide⟩ (D_X0_run_0.at 13 rfl) ?_
  obtain ⟨s7, T⟩ := T
  refine J_getR (z := (h 61 5)) 26 rfl fl_0_28 rfl ob_61 (Ob.lt ob_61) (D_X0_run_0.at 14 rfl) rfl ?_
  refine J_getF (ov := ((h 61 5) + 5)) (dd := 1005) 29 rfl fl_0_55 rfl (by decide) rfl s7 (Ob.lt s7) (D_X0_run_0.at 15 rfl) ?_
  refine J_getI (z := (h ((h 61 5) + 5) 1)) 32 rfl fl_0_61 rfl (of_7_2 s7) (Ob.lt (of_7_2 s7)) (D_X0_run_0.at 16 rfl) rfl ?_
  obtain ⟨s8, T⟩ := T
  obtain ⟨s9, T⟩ := T
  refine J_icmp_ge 35 rfl 143 s8 s9 (D_X0_run_0.at 17 rfl) (by decide) (fun c37 => ?_) (fun c37 => ?_)
  · replace T := T.1 c37
    refine J_iinc (v := (v3 + 1)) (lv' := [(3, vI (v3 + 1)), (0, vR 61), (2, vI v2), (4, vI v4)]) 146 rfl 3 2 1 rfl rfl (by decide) rfl (D_X0_run_1.at 28 rfl) ?_
    refine J_goto 6 (D_X0_run_1.at 29 rfl) (by decide) ?_
    exact J_sub (lv' := [(0, vR 61), (2, vI v2), (3, vI (v3 + 1))]) [1, 2, 0] rfl T
  replace T := T.2 c37
  refine J_iload_n 36 rfl 3 2 rfl (D_X0_run_0.at 18 rfl) ?_
  obtain ⟨s10, T⟩ := T
  refine J_if_ne 39 rfl 43 s10 (D_X0_run_0.at 19 rfl) (by decide) (fun c36 => ?_) (fun c36 => ?_)
  · replace T := T.1 c36
    refine J_aload_n 44 rfl 0 0 rfl ⟨by decide, by decide⟩ (D_X0_run_0.at 22 rfl) ?_
    refine J_getF (ov := 65) (dd := 1004) 47 rfl fl_0_21 rfl (by decide) rfl ob_61 (Ob.lt ob_61) (D_X0_run_0.at 23 rfl) ?_
    refine J_iload_n 48 rfl 3 2 rfl (D_X0_run_0.at 24 rfl) ?_
    refine J_iconst 49 rfl (D_X0_run_0.at 25 rfl) ?_
    refine J_isub 50 rfl (D_X0_run_0.at 26 rfl) ?_
    refine J_iload 52 rfl 4 3 rfl (D_X0_run_0.at 27 rfl) ?_
    refine J_callSN (d' := 1) (K1 := fun z h0 => rok (some .int) z → JG w true m_X0_run 5 NT NT 55 [(0, vR 61), (2, vI v2), (3, vI v3), (4, vI v4)] [vI z, vR 65] h0 _) (sr := fun z => [vI z, vR 65]) (as := [vI (v3 - 1), vI v4]) (st := [vR 65]) 55 rfl ok_X11_cell sm_X11_cell ml_0_66 rfl (by decide) ⟨Nat.le_refl _, Nat.le_refl _⟩ (Nat.le_of_ble_eq_true rfl) (D_X0_run_0.at 28 rfl) (fun _ => rfl) (CGm_of2 (by decide) (by decide) trivial (Nat.le_of_ble_eq_true rfl) ?_) (fun _ _ kq hb => kq hb)
    refine J_iload_n 1 rfl 0 0 rfl (D_X11_cell_0.at 0 rfl) ?_
    refine J_bipush 3 rfl ⟨by decide, by decide⟩ (D_X11_cell_0.at 1 rfl) ?_
    refine J_imul 4 rfl (D_X11_cell_0.at 2 rfl) ?_
    refine J_iload_n 5 rfl 1 1 rfl (D_X11_cell_0.at 3 rfl) ?_
    refine J_iadd 6 rfl (D_X11_cell_0.at 4 rfl) ?_
    refine J_iret rfl (D_X11_cell_0.at 5 rfl) (fun _ => ?_)
    obtain ⟨s11, T⟩ := T
    refine J_iald 56 rfl ar_65 (Ar.lt ar_65) s11 (D_X0_run_0.at 29 rfl) ?_
    refine J_istore (lv' := [(5, vI (h 65 (((v3 - 1) * 10) + v4))), (0, vR 61), (2, vI v2), (3, vI v3), (4, vI v4)]) 58 rfl 5 (by decide) rfl (D_X0_run_0.at 30 rfl) ?_
    refine J_aload_n 59 rfl 0 1 rfl ⟨by decide, by decide⟩ (D_X0_run_0.at 31 rfl) ?_
    obtain ⟨s12, T⟩ := T
    refine J_getR (z := (h 61 5)) 62 rfl fl_0_28 rfl ob_61 (Ob.lt ob_61) (D_X0_run_0.at 32 rfl) rfl ?_
    refine J_getF (ov := ((h 61 5) + 10)) (dd := 1010) 65 rfl fl_0_69 rfl (by decide) rfl s12 (Ob.lt s12) (D_X0_run_0.at 33 rfl) ?_
    refine J_iload 67 rfl 4 4 rfl (D_X0_run_0.at 34 rfl) ?_
    obtain ⟨s13, T⟩ := T
    refine J_iald 68 rfl (of_7_6 s12) (Ar.lt (of_7_6 s12)) s13 (D_X0_run_0.at 35 rfl) ?_
    refine J_iload_n 69 rfl 3 3 rfl (D_X0_run_0.at 36 rfl) ?_
    obtain ⟨s14, T⟩ := T
    obtain ⟨s15, T⟩ := T
    refine J_icmp_ne 72 rfl 97 s14 s15 (D_X0_run_0.at 37 rfl) (by decide) (fun c23 => ?_) (fun c23 => ?_)
    · replace T := T.1 c23
      exact J_sub (lv' := [(0, vR 61), (2, vI v2), (3, vI v3), (4, vI v4), (5, vI (h 65 (((v3 - 1) * 10) + v4)))]) [1, 2, 3, 4, 0] rfl T
    replace T := T.2 c23
    refine J_aload_n 73 rfl 0 1 rfl ⟨by decide, by decide⟩ (D_X0_run_0.at 38 rfl) ?_
    refine J_getF (ov := 63) (dd := 1002) 76 rfl fl_0_15 rfl (by decide) rfl ob_61 (Ob.lt ob_61) (D_X0_run_0.at 39 rfl) ?_
    refine J_iload 78 rfl 4 4 rfl (D_X0_run_0.at 40 rfl) ?_
    refine J_aload_n 79 rfl 0 1 rfl ⟨by decide, by decide⟩ (D_X0_run_0.at 41 rfl) ?_
    refine J_iload 81 rfl 4 4 rfl (D_X0_run_0.at 42 rfl) ?_
    refine J_callV (d' := 4) (sr := fun z => [vI z, vI v4, vR 63]) (as := [vI v4]) (st := [vI v4, vR 63]) (o := 61) 84 rfl ok_X0_cutOf im_X0_cutOf se_X0_cutOf ml_0_72 isC_0 ob_61 (Ob.lt ob_61) rfl (by decide) ⟨Nat.le_refl _, Nat.le_refl _⟩ (Nat.le_of_ble_eq_true rfl) (D_X0_run_0.at 43 rfl) (fun _ => rfl) T (fun r16 h17 T b18 => ?_)
    obtain ⟨s19, T⟩ := T
    refine J_iastH 85 rfl ar_63 (Ar.lt ar_63) s19 trivial (D_X0_run_0.at 44 rfl) (fun h20 e21 => ?_)
    replace T := T h20 e21
    refine J_iload 87 rfl 5 0 rfl (D_X0_run_0.at 45 rfl) ?_
    refine J_aload_n 88 rfl 0 1 rfl ⟨by decide, by decide⟩ (D_X0_run_0.at 46 rfl) ?_
    refine J_getF (ov := 63) (dd := 1002) 91 rfl fl_0_15 rfl (by decide) rfl ob_61 (Ob.lt ob_61) (D_X0_run_0.at 47 rfl) ?_
    refine J_iload 93 rfl 4 4 rfl (D_X0_run_1.at 0 rfl) ?_
    obtain ⟨s22, T⟩ := T
    refine J_iald 94 rfl ar_63 (Ar.lt ar_63) s22 (D_X0_run_1.at 1 rfl) ?_
    refine J_iadd 95 rfl (D_X0_run_1.at 2 rfl) ?_
    refine J_istore (lv' := [(5, vI ((h 65 (((v3 - 1) * 10) + v4)) + (h20 63 v4))), (0, vR 61), (2, vI v2), (3, vI v3), (4, vI v4)]) 97 rfl 5 (by decide) rfl (D_X0_run_1.at 3 rfl) ?_
    exact J_sub (lv' := [(0, vR 61), (2, vI v2), (3, vI v3), (4, vI v4), (5, vI ((h 65 (((v3 - 1) * 10) + v4)) + (h20 63 v4)))]) [1, 2, 3, 4, 0] rfl T
  replace T := T.2 c36
  refine J_iconst 40 rfl (D_X0_run_0.at 20 rfl) ?_
  refine J_goto 56 (D_X0_run_0.at 21 rfl) (by decide) ?_
  refine J_istore (lv' := [(5, vI 0), (0, vR 61), (2, vI v2), (3, vI v3), (4, vI v4)]) 58 rfl 5 (by decide) rfl (D_X0_run_0.at 30 rfl) ?_
  refine J_aload_n 59 rfl 0 1 rfl ⟨by decide, by decide⟩ (D_X0_run_0.at 31 rfl) ?_
  obtain ⟨s24, T⟩ := T
  refine J_getR (z := (h 61 5)) 62 rfl fl_0_28 rfl ob_61 (Ob.lt ob_61) (D_X0_run_0.at 32 rfl) rfl ?_
  refine J_getF (ov := ((h 61 5) + 10)) (dd := 1010) 65 rfl fl_0_69 rfl (by decide) rfl s24 (Ob.lt s24) (D_X0_run_0.at 33 rfl) ?_
  refine J_iload 67 rfl 4 4 rfl (D_X0_run_0.at 34 rfl) ?_
  obtain ⟨s25, T⟩ := T
  refine J_iald 68 rfl (of_7_6 s24) (Ar.lt (of_7_6 s24)) s25 (D_X0_run_0.at 35 rfl) ?_
  refine J_iload_n 69 rfl 3 3 rfl (D_X0_run_0.at 36 rfl) ?_
  obtain ⟨s26, T⟩ := T
  obtain ⟨s27, T⟩ := T
  refine J_icmp_ne 72 rfl 97 s26 s27 (D_X0_run_0.at 37 rfl) (by decide) (fun c35 => ?_) (fun c35 => ?_)
  · replace T := T.1 c35
    exact J_sub (lv' := [(0, vR 61), (2, vI v2), (3, vI v3), (4, vI v4), (5, vI 0)]) [1, 2, 3, 4, 0] rfl T
  replace T := T.2 c35
  refine J_aload_n 73 rfl 0 1 rfl ⟨by decide, by decide⟩ (D_X0_run_0.at 38 rfl) ?_
  refine J_getF (ov := 63) (dd := 1002) 76 rfl fl_0_15 rfl (by decide) rfl ob_61 (Ob.lt ob_61) (D_X0_run_0.at 39 rfl) ?_
  refine J_iload 78 rfl 4 4 rfl (D_X0_run_0.at 40 rfl) ?_
  refine J_aload_n 79 rfl 0 1 rfl ⟨by decide, by decide⟩ (D_X0_run_0.at 41 rfl) ?_
  refine J_iload 81 rfl 4 4 rfl (D_X0_run_0.at 42 rfl) ?_
  refine J_callV (d' := 4) (sr := fun z => [vI z, vI v4, vR 63]) (as := [vI v4]) (st := [vI v4, vR 63]) (o := 61) 84 rfl ok_X0_cutOf im_X0_cutOf se_X0_cutOf ml_0_72 isC_0 ob_61 (Ob.lt ob_61) rfl (by decide) ⟨Nat.le_refl _, Nat.le_refl _⟩ (Nat.le_of_ble_eq_true rfl) (D_X0_run_0.at 43 rfl) (fun _ => rfl) T (fun r28 h29 T b30 => ?_)
  obtain ⟨s31, T⟩ := T
  refine J_iastH 85 rfl ar_63 (Ar.lt ar_63) s31 trivial (D_X0_run_0.at 44 rfl) (fun h32 e33 => ?_)
  replace T := T h32 e33
  refine J_iload 87 rfl 5 0 rfl (D_X0_run_0.at 45 rfl) ?_
  refine J_aload_n 88 rfl 0 1 rfl ⟨by decide, by decide⟩ (D_X0_run_0.at 46 rfl) ?_
  refine J_getF (ov := 63) (dd := 1002) 91 rfl fl_0_15 rfl (by decide) rfl ob_61 (Ob.lt ob_61) (D_X0_run_0.at 47 rfl) ?_
  refine J_iload 93 rfl 4 4 rfl (D_X0_run_1.at 0 rfl) ?_
  obtain ⟨s34, T⟩ := T
  refine J_iald 94 rfl ar_63 (Ar.lt ar_63) s34 (D_X0_run_1.at 1 rfl) ?_
  refine J_iadd 95 rfl (D_X0_run_1.at 2 rfl) ?_
  refine J_istore (lv' := [(5, vI (0 + (h32 63 v4))), (0, vR 61), (2, vI v2), (3, vI v3), (4, vI v4)]) 97 rfl 5 (by decide) rfl (D_X0_run_1.at 3 rfl) ?_
  exact J_sub (lv' := [(0, vR 61), (2, vI v2), (3, vI v3), (4, vI v4), (5, vI (0 + (h32 63 v4)))]) [1, 2, 3, 4, 0] rfl T
theorem l_X0_run_97 {w : Wd} {v2 v3 v4 v5 : Int} {h : Hp} {K : Int → Hp → Prop} (T : C_X0_settling w v3 v4 v5 h (fun r38 h39 => (0 ≤ ((v3 * 10) + v4) ∧ ((v3 * 10) + v4) < 80) ∧ (∀ h42 : Hp, h42 = hu h39 64 ((v3 * 10) + v4) r38 → (0 ≤ ((v3 * 10) + v4) ∧ ((v3 * 10) + v4) < 80) ∧ (∀ h45 : Hp, h45 = hu h42 65 ((v3 * 10) + v4) (v5 - r38) → L_X0_run_20 w v2 v3 (v4 + 1) h45 K)))) : L_X0_run_97 w v2 v3 v4 v5 h K := by
  unfold L_X0_run_97
  refine J_aload_n 98 rfl 0 0 rfl ⟨by decide, by decide⟩ (D_X0_run_1.at 4 rfl) ?_
  refine J_iload_n 99 rfl 3 2 rfl (D_X0_run_1.at 5 rfl) ?_
  refine J_iload 101 rfl 4 3 rfl (D_X0_run_1.at 6 rfl) ?_
  refine J_iload 103 rfl 5 4 rfl (D_X0_run_1.at 7 rfl) ?_
  refine J_callV (d' := 4) (sr := fun z => [vI z]) (as := [vI v3, vI v4, vI v5]) (st := []) (o := 61) 106 rfl ok_X0_settling im_X0_settling se_X0_settling ml_0_76 isC_0 ob_61 (Ob.lt ob_61) rfl (by decide) ⟨Nat.le_refl _, Nat.le_refl _⟩ (Nat.le_of_ble_eq_true rfl) (D_X0_run_1.at 8 rfl) (fun _ => rfl) T (fun r38 h39 T b40 => ?_)
  refine J_istore (lv' := [(6, vI r38), (0, vR 61), (2, vI v2), (3, vI v3), (4, vI v4), (5, vI v5)]) 108 rfl 6 (by decide) rfl (D_X0_run_1.at 9 rfl) ?_
  refine J_aload_n 109 rfl 0 1 rfl ⟨by decide, by decide⟩ (D_X0_run_1.at 10 rfl) ?_
  refine J_getF (ov := 64) (dd := 1003) 112 rfl fl_0_18 rfl (by decide) rfl ob_61 (Ob.lt ob_61) (D_X0_run_1.at 11 rfl) ?_
  refine J_iload_n 113 rfl 3 3 rfl (D_X0_run_1.at 12 rfl) ?_
  refine J_iload 115 rfl 4 4 rfl (D_X0_run_1.at 13 rfl) ?_
  refine J_callSN (d' := 1) (K1 := fun z h0 => rok (some .int) z → JG w true m_X0_run 5 NT NT 118 [(6, vI r38), (0, vR 61), (2, vI v2), (3, vI v3), (4, vI v4), (5, vI v5)] [vI z, vR 64] h0 _) (sr := fun z => [vI z, vR 64]) (as := [vI v3, vI v4]) (st := [vR 64]) 118 rfl ok_X11_cell sm_X11_cell ml_0_66 rfl (by decide) ⟨Nat.le_refl _, Nat.le_refl _⟩ (Nat.le_of_ble_eq_true rfl) (D_X0_run_1.at 14 rfl) (fun _ => rfl) (CGm_of2 (by decide) (by decide) trivial (Nat.le_of_ble_eq_true rfl) ?_) (fun _ _ kq hb => kq hb)
  refine J_iload_n 1 rfl 0 0 rfl (D_X11_cell_0.at 0 rfl) ?_
  refine J_bipush 3 rfl ⟨by decide, by decide⟩ (D_X11_cell_0.at 1 rfl) ?_
  refine J_imul 4 rfl (D_X11_cell_0.at 2 rfl) ?_
  refine J_iload_n 5 rfl 1 1 rfl (D_X11_cell_0.at 3 rfl) ?_
  refine J_iadd 6 rfl (D_X11_cell_0.at 4 rfl) ?_
  refine J_iret rfl (D_X11_cell_0.at 5 rfl) (fun _ => ?_)
  refine J_iload 120 rfl 6 0 rfl (D_X0_run_1.at 15 rfl) ?_
  obtain ⟨s41, T⟩ := T
  refine J_iastH 121 rfl ar_64 (Ar.lt ar_64) s41 trivial (D_X0_run_1.at 16 rfl) (fun h42 e43 => ?_)
  replace T := T h42 e43
  refine J_aload_n 122 rfl 0 1 rfl ⟨by decide, by decide⟩ (D_X0_run_1.at 17 rfl) ?_
  refine J_getF (ov := 65) (dd := 1004) 125 rfl fl_0_21 rfl (by decide) rfl ob_61 (Ob.lt ob_61) (D_X0_run_1.at 18 rfl) ?_
  refine J_iload_n 126 rfl 3 3 rfl (D_X0_run_1.at 19 rfl) ?_
  refine J_iload 128 rfl 4 4 rfl (D_X0_run_1.at 20 rfl) ?_
  refine J_callSN (d' := 1) (K1 := fun z h0 => rok (some .int) z → JG w true m_X0_run 5 NT NT 131 [(6, vI r38), (0, vR 61), (2, vI v2), (3, vI v3), (4, vI v4), (5, vI v5)] [vI z, vR 65] h0 _) (sr := fun z => [vI z, vR 65]) (as := [vI v3, vI v4]) (st := [vR 65]) 131 rfl ok_X11_cell sm_X11_cell ml_0_66 rfl (by decide) ⟨Nat.le_refl _, Nat.le_refl _⟩ (Nat.le_of_ble_eq_true rfl) (D_X0_run_1.at 21 rfl) (fun _ => rfl) (CGm_of2 (by decide) (by decide) trivial (Nat.le_of_ble_eq_true rfl) ?_) (fun _ _ kq hb => kq hb)
  refine J_iload_n 1 rfl 0 0 rfl (D_X11_cell_0.at 0 rfl) ?_
  refine J_bipush 3 rfl ⟨by decide, by decide⟩ (D_X11_cell_0.at 1 rfl) ?_
  refine J_imul 4 rfl (D_X11_cell_0.at 2 rfl) ?_
  refine J_iload_n 5 rfl 1 1 rfl (D_X11_cell_0.at 3 rfl) ?_
  refine J_iadd 6 rfl (D_X11_cell_0.at 4 rfl) ?_
  refine J_iret rfl (D_X11_cell_0.at 5 rfl) (fun _ => ?_)
  refine J_iload 133 rfl 5 5 rfl (D_X0_run_1.at 22 rfl) ?_
  refine J_iload 135 rfl 6 0 rfl (D_X0_run_1.at 23 rfl) ?_
  refine J_isub 136 rfl (D_X0_run_1.at 24 rfl) ?_
  obtain ⟨s44, T⟩ := T
  refine J_iastH 137 rfl ar_65 (Ar.lt ar_65) s44 trivial (D_X0_run_1.at 25 rfl) (fun h45 e46 => ?_)
  replace T := T h45 e46
  refine J_iinc (v := (v4 + 1)) (lv' := [(4, vI (v4 + 1)), (6, vI r38), (0, vR 61), (2, vI v2), (3, vI v3), (5, vI v5)]) 140 rfl 4 4 1 rfl rfl (by decide) rfl (D_X0_run_1.at 26 rfl) ?_
  refine J_goto 20 (D_X0_run_1.at 27 rfl) (by decide) ?_
  exact J_sub (lv' := [(0, vR 61), (2, vI v2), (3, vI v3), (4, vI (v4 + 1))]) [2, 3, 4, 0] rfl T
theorem l_X0_run_149 {w : Wd} {h : Hp} {K : Int → Hp → Prop} (T : K 0 h) : L_X0_run_149 w h K := by
  unfold L_X0_run_149
  exact J_vret rfl (D_X0_run_1.at 30 rfl) T
theorem c_X3_seekHeld {w : Wd} {a1 a2 : Int} {h : Hp} {K : Int → Hp → Prop} (T : C_X3_begin w h (fun _ h2 => (Ob 7 (h2 61 5)) ∧ ((0 ≤ a1 ∧ a1 < 10) ∧ (L_X3_seekHeld_20 w a1 a2 (h2 ((h2 61 5) + 10) a1) 0 h2 K)))) : C_X3_seekHeld w a1 a2 h K := by
  refine CGm_of2 (by decide) (by decide) trivial (Nat.le_of_ble_eq_true rfl) ?_
  refine J_aload_n 1 rfl 0 0 rfl ⟨by decide, by decide⟩ (D_X3_seekHeld_0.at 0 rfl) ?_
  refine J_callV (d' := 1) (sr := fun z => []) (as := []) (st := []) (o := 66) 4 rfl ok_X3_begin im_X3_begin se_X3_begin ml_3_23 isC_3 ob_66 (Ob.lt ob_66) rfl (by decide) ⟨Nat.le_refl _, Nat.le_refl _⟩ (Nat.le_of_ble_eq_true rfl) (D_X3_seekHeld_0.at 1 rfl) (fun _ => rfl) T (fun r1 h2 T b3 => ?_)
  refine J_aload_n 5 rfl 0 0 rfl ⟨by decide, by decide⟩ (D_X3_seekHeld_0.at 2 rfl) ?_
  refine J_getF (ov := 61) (dd := 995) 8 rfl fl_3_19 rfl (by decide) rfl ob_66 (Ob.lt ob_66) (D_X3_seekHeld_0.at 3 rfl) ?_
  obtain ⟨s4, T⟩ := T
  refine J_getR (z := (h2 61 5)) 11 rfl fl_3_26 rfl ob_61 (Ob.lt ob_61) (D_X3_seekHeld_0.at 4 rfl) rfl ?_
  refine J_getF (ov := ((h2 61 5) + 10)) (dd := 1010) 14 rfl fl_3_32 rfl (by decide) rfl s4 (Ob.lt s4) (D_X3_seekHeld_0.at 5 rfl) ?_
  refine J_iload_n 15 rfl 1 1 rfl (D_X3_seekHeld_0.at 6 rfl) ?_
  obtain ⟨s5, T⟩ := T
  refine J_iald 16 rfl (of_7_6 s4) (Ar.lt (of_7_6 s4)) s5 (D_X3_seekHeld_0.at 7 rfl) ?_
  refine J_istore_n (lv' := [(3, vI (h2 ((h2 61 5) + 10) a1)), (0, vR 66), (1, vI a1), (2, vI a2)]) 17 rfl 3 (by decide) rfl (D_X3_seekHeld_0.at 8 rfl) ?_
  refine J_iconst 18 rfl (D_X3_seekHeld_0.at 9 rfl) ?_
  refine J_istore (lv' := [(4, vI 0), (3, vI (h2 ((h2 61 5) + 10) a1)), (0, vR 66), (1, vI a1), (2, vI a2)]) 20 rfl 4 (by decide) rfl (D_X3_seekHeld_0.at 10 rfl) ?_
  exact J_sub (lv' := [(0, vR 66), (1, vI a1), (2, vI a2), (3, vI (h2 ((h2 61 5) + 10) a1)), (4, vI 0)]) [2, 3, 4, 1, 0] rfl T
theorem l_X3_seekHeld_20 {w : Wd} {v1 v2 v3 v4 : Int} {h : Hp} {K : Int → Hp → Prop} (T : (inR v4) ∧ (((v4 > 2) → (K 0 h)) ∧ (¬ (v4 > 2) → ((inR (h 66 2)) ∧ ((((h 66 2) ≠ (-1)) → (K 0 h)) ∧ (¬ ((h 66 2) ≠ (-1)) → ((0 ≤ v3 ∧ v3 < 8) ∧ (∀ h9 : Hp, h9 = hu h 62 v3 v4 → (Ob 9 (h9 61 6)) ∧ ((0 ≤ v1 ∧ v1 < 10) ∧ (C_X0_cutOf w v1 h9 (fun r13 h14 => (inR ((h9 ((h9 61 6) + 3) v1) - r13)) ∧ ((inR v2) ∧ (((((h9 ((h9 61 6) + 3) v1) - r13) < v2) → (L_X3_seekHeld_20 w v1 v2 v3 (v4 + 1) h14 K)) ∧ (¬ (((h9 ((h9 61 6) + 3) v1) - r13) < v2) → (C_X3_keepBest w h14 (fun _ h19 => L_X3_seekHeld_20 w v1 v2 v3 (v4 + 1) h19 K)))))))))))))))) : L_X3_seekHeld_20 w v1 v2 v3 v4 h K := by
  unfold L_X3_seekHeld_20
  refine J_iload 22 rfl 4 4 rfl (D_X3_seekHeld_0.at 11 rfl) ?_
  refine J_iconst 23 rfl (D_X3_seekHeld_0.at 12 rfl) ?_
  obtain ⟨s6, T⟩ := T
  refine J_icmp_gt 26 rfl 80 s6 ⟨by decide, by decide⟩ (D_X3_seekHeld_0.at 13 rfl) (by decide) (fun c23 => ?_) (fun c23 => ?_)
  · replace T := T.1 c23
    exact J_vret rfl (D_X3_seekHeld_0.at 41 rfl) T
  replace T := T.2 c23
  refine J_aload_n 27 rfl 0 0 rfl ⟨by decide, by decide⟩ (D_X3_seekHeld_0.at 14 rfl) ?_
  refine J_getI (z := (h 66 2)) 30 rfl fl_3_15 rfl ob_66 (Ob.lt ob_66) (D_X3_seekHeld_0.at 15 rfl) rfl ?_
  refine J_iconst 31 rfl (D_X3_seekHeld_0.at 16 rfl) ?_
  obtain ⟨s7, T⟩ := T
  refine J_icmp_ne 34 rfl 80 s7 ⟨by decide, by decide⟩ (D_X3_seekHeld_0.at 17 rfl) (by decide) (fun c22 => ?_) (fun c22 => ?_)
  · replace T := T.1 c22
    exact J_vret rfl (D_X3_seekHeld_0.at 41 rfl) T
  replace T := T.2 c22
  refine J_aload_n 35 rfl 0 0 rfl ⟨by decide, by decide⟩ (D_X3_seekHeld_0.at 18 rfl) ?_
  refine J_getF (ov := 61) (dd := 995) 38 rfl fl_3_19 rfl (by decide) rfl ob_66 (Ob.lt ob_66) (D_X3_seekHeld_0.at 19 rfl) ?_
  refine J_getF (ov := 62) (dd := 1001) 41 rfl fl_3_37 rfl (by decide) rfl ob_61 (Ob.lt ob_61) (D_X3_seekHeld_0.at 20 rfl) ?_
  refine J_iload_n 42 rfl 3 3 rfl (D_X3_seekHeld_0.at 21 rfl) ?_
  refine J_iload 44 rfl 4 4 rfl (D_X3_seekHeld_0.at 22 rfl) ?_
  obtain ⟨s8, T⟩ := T
  refine J_iastH 45 rfl ar_62 (Ar.lt ar_62) s8 trivial (D_X3_seekHeld_0.at 23 rfl) (fun h9 e10 => ?_)
  replace T := T h9 e10
  refine J_aload_n 46 rfl 0 0 rfl ⟨by decide, by decide⟩ (D_X3_seekHeld_0.at 24 rfl) ?_
  refine J_getF (ov := 61) (dd := 995) 49 rfl fl_3_19 rfl (by decide) rfl ob_66 (Ob.lt ob_66) (D_X3_seekHeld_0.at 25 rfl) ?_
  obtain ⟨s11, T⟩ := T
  refine J_getR (z := (h9 61 6)) 52 rfl fl_3_40 rfl ob_61 (Ob.lt ob_61) (D_X3_seekHeld_0.at 26 rfl) rfl ?_
  refine J_getF (ov := ((h9 61 6) + 3)) (dd := 1003) 55 rfl fl_3_44 rfl (by decide) rfl s11 (Ob.lt s11) (D_X3_seekHeld_0.at 27 rfl) ?_
  refine J_iload_n 56 rfl 1 1 rfl (D_X3_seekHeld_0.at 28 rfl) ?_
  obtain ⟨s12, T⟩ := T
  refine J_iald 57 rfl (of_9_2 s11) (Ar.lt (of_9_2 s11)) s12 (D_X3_seekHeld_0.at 29 rfl) ?_
  refine J_aload_n 58 rfl 0 0 rfl ⟨by decide, by decide⟩ (D_X3_seekHeld_0.at 30 rfl) ?_
  refine J_getF (ov := 61) (dd := 995) 61 rfl fl_3_19 rfl (by decide) rfl ob_66 (Ob.lt ob_66) (D_X3_seekHeld_0.at 31 rfl) ?_
  refine J_iload_n 62 rfl 1 1 rfl (D_X3_seekHeld_0.at 32 rfl) ?_
  refine J_callV (d' := 4) (sr := fun z => [vI z, vI (h9 ((h9 61 6) + 3) v1)]) (as := [vI v1]) (st := [vI (h9 ((h9 61 6) + 3) v1)]) (o := 61) 65 rfl ok_X0_cutOf im_X0_cutOf se_X0_cutOf ml_3_49 isC_0 ob_61 (Ob.lt ob_61) rfl (by decide) ⟨Nat.le_refl _, Nat.le_refl _⟩ (Nat.le_of_ble_eq_true rfl) (D_X3_seekHeld_0.at 33 rfl) (fun _ => rfl) T (fun r13 h14 T b15 => ?_)
  refine J_isub 66 rfl (D_X3_seekHeld_0.at 34 rfl) ?_
  refine J_iload_n 67 rfl 2 2 rfl (D_X3_seekHeld_0.at 35 rfl) ?_
  obtain ⟨s16, T⟩ := T
  obtain ⟨s17, T⟩ := T
  refine J_icmp_lt 70 rfl 74 s16 s17 (D_X3_seekHeld_0.at 36 rfl) (by decide) (fun c21 => ?_) (fun c21 => ?_)
  · replace T := T.1 c21
    refine J_iinc (v := (v4 + 1)) (lv' := [(4, vI (v4 + 1)), (0, vR 66), (1, vI v1), (2, vI v2), (3, vI v3)]) 77 rfl 4 4 1 rfl rfl (by decide) rfl (D_X3_seekHeld_0.at 39 rfl) ?_
    refine J_goto 20 (D_X3_seekHeld_0.at 40 rfl) (by decide) ?_
    exact J_sub (lv' := [(0, vR 66), (1, vI v1), (2, vI v2), (3, vI v3), (4, vI (v4 + 1))]) [1, 2, 3, 4, 0] rfl T
  replace T := T.2 c21
  refine J_aload_n 71 rfl 0 0 rfl ⟨by decide, by decide⟩ (D_X3_seekHeld_0.at 37 rfl) ?_
  refine J_callV (d' := 2) (sr := fun z => []) (as := []) (st := []) (o := 66) 74 rfl ok_X3_keepBest im_X3_keepBest se_X3_keepBest ml_3_53 isC_3 ob_66 (Ob.lt ob_66) rfl (by decide) ⟨Nat.le_refl _, Nat.le_refl _⟩ (Nat.le_of_ble_eq_true rfl) (D_X3_seekHeld_0.at 38 rfl) (fun _ => rfl) T (fun r18 h19 T b20 => ?_)
  refine J_iinc (v := (v4 + 1)) (lv' := [(4, vI (v4 + 1)), (0, vR 66), (1, vI v1), (2, vI v2), (3, vI v3)]) 77 rfl 4 4 1 rfl rfl (by decide) rfl (D_X3_seekHeld_0.at 39 rfl) ?_
  refine J_goto 20 (D_X3_seekHeld_0.at 40 rfl) (by decide) ?_
  exact J_sub (lv' := [(0, vR 66), (1, vI v1), (2, vI v2), (3, vI v3), (4, vI (v4 + 1))]) [1, 2, 3, 4, 0] rfl T
theorem c_X3_seekShare {w : Wd} {a1 a2 a3 : Int} {h : Hp} {K : Int → Hp → Prop} (T : C_X3_begin w h (fun _ h2 => L_X3_seekShare_10 w a1 a2 a3 1 0 h2 K)) : C_X3_seekShare w a1 a2 a3 h K := by
  refine CGm_of2 (by decide) (by decide) trivial (Nat.le_of_ble_eq_true rfl) ?_
  refine J_aload_n 1 rfl 0 0 rfl ⟨by decide, by decide⟩ (D_X3_seekShare_0.at 0 rfl) ?_
  refine J_callV (d' := 1) (sr := fun z => []) (as := []) (st := []) (o := 66) 4 rfl ok_X3_begin im_X3_begin se_X3_begin ml_3_23 isC_3 ob_66 (Ob.lt ob_66) rfl (by decide) ⟨Nat.le_refl _, Nat.le_refl _⟩ (Nat.le_of_ble_eq_true rfl) (D_X3_seekShare_0.at 1 rfl) (fun _ => rfl) T (fun r1 h2 T b3 => ?_)
  refine J_iconst 5 rfl (D_X3_seekShare_0.at 2 rfl) ?_
  refine J_istore (lv' := [(4, vI 1), (0, vR 66), (1, vI a1), (2, vI a2), (3, vI a3)]) 7 rfl 4 (by decide) rfl (D_X3_seekShare_0.at 3 rfl) ?_
  refine J_iconst 8 rfl (D_X3_seekShare_0.at 4 rfl) ?_
  refine J_istore (lv' := [(5, vI 0), (4, vI 1), (0, vR 66), (1, vI a1), (2, vI a2), (3, vI a3)]) 10 rfl 5 (by decide) rfl (D_X3_seekShare_0.at 5 rfl) ?_
  exact J_sub (lv' := [(0, vR 66), (1, vI a1), (2, vI a2), (3, vI a3), (4, vI 1), (5, vI 0)]) [2, 3, 4, 5, 1, 0] rfl T
theorem l_X3_seekShare_10 {w : Wd} {v1 v2 v3 v4 v5 : Int} {h : Hp} {K : Int → Hp → Prop} (T : (inR v5) ∧ ((inR v2) ∧ (((v5 > v2) → (L_X3_seekShare_34 w v1 v2 v3 v4 0 0 h K)) ∧ (¬ (v5 > v2) → (L_X3_seekShare_10 w v1 v2 v3 (v4 * 3) (v5 + 1) h K))))) : L_X3_seekShare_10 w v1 v2 v3 v4 v5 h K := by
  unfold L_X3_seekShare_10
  refine J_iload 12 rfl 5 5 rfl (D_X3_seekShare_0.at 6 rfl) ?_
  refine J_iload_n 13 rfl 2 2 rfl (D_X3_seekShare_0.at 7 rfl) ?_
  obtain ⟨s4, T⟩ := T
  obtain ⟨s5, T⟩ := T
  refine J_icmp_gt 16 rfl 28 s4 s5 (D_X3_seekShare_0.at 8 rfl) (by decide) (fun c6 => ?_) (fun c6 => ?_)
  · replace T := T.1 c6
    refine J_iconst 29 rfl (D_X3_seekShare_0.at 15 rfl) ?_
    refine J_istore (lv' := [(5, vI 0), (0, vR 66), (1, vI v1), (2, vI v2), (3, vI v3), (4, vI v4)]) 31 rfl 5 (by decide) rfl (D_X3_seekShare_0.at 16 rfl) ?_
    refine J_iconst 32 rfl (D_X3_seekShare_0.at 17 rfl) ?_
    refine J_istore (lv' := [(6, vI 0), (5, vI 0), (0, vR 66), (1, vI v1), (2, vI v2), (3, vI v3), (4, vI v4)]) 34 rfl 6 (by decide) rfl (D_X3_seekShare_0.at 18 rfl) ?_
    exact J_sub (lv' := [(0, vR 66), (1, vI v1), (2, vI v2), (3, vI v3), (4, vI v4), (5, vI 0), (6, vI 0)]) [2, 3, 4, 5, 6, 1, 0] rfl T
  replace T := T.2 c6
  refine J_iload 18 rfl 4 4 rfl (D_X3_seekShare_0.at 9 rfl) ?_
  refine J_iconst 19 rfl (D_X3_seekShare_0.at 10 rfl) ?_
  refine J_imul 20 rfl (D_X3_seekShare_0.at 11 rfl) ?_
  refine J_istore (lv' := [(4, vI (v4 * 3)), (0, vR 66), (1, vI v1), (2, vI v2), (3, vI v3), (5, vI v5)]) 22 rfl 4 (by decide) rfl (D_X3_seekShare_0.at 12 rfl) ?_
  refine J_iinc (v := (v5 + 1)) (lv' := [(5, vI (v5 + 1)), (4, vI (v4 * 3)), (0, vR 66), (1, vI v1), (2, vI v2), (3, vI v3)]) 25 rfl 5 5 1 rfl rfl (by decide) rfl (D_X3_seekShare_0.at 13 rfl) ?_
  refine J_goto 10 (D_X3_seekShare_0.at 14 rfl) (by decide) ?_
  exact J_sub (lv' := [(0, vR 66), (1, vI v1), (2, vI v2), (3, vI v3), (4, vI (v4 * 3)), (5, vI (v5 + 1))]) [2, 3, 4, 5, 1, 0] rfl T
theorem l_X3_seekShare_34 {w : Wd} {v1 v2 v3 v4 v5 v6 : Int} {h : Hp} {K : Int → Hp → Prop} (T : (inR v6) ∧ ((inR v4) ∧ (((v6 ≥ v4) → (K 0 h)) ∧ (¬ (v6 ≥ v4) → ((inR (h 66 2)) ∧ ((((h 66 2) = 0) → (K 0 h)) ∧ (¬ ((h 66 2) = 0) → ((inR (h 66 2)) ∧ ((((h 66 2) = (-1)) → (C_X0_run w v5 v2 h (fun _ h12 => C_X0_shareLeft w v2 v1 h12 (fun r14 h15 => (inR r14) ∧ ((inR v3) ∧ (((r14 < v3) → (C_X3_countUp w v2 h15 (fun r19 h20 => (inR (v2 + 1)) ∧ ((inR r19) ∧ (L_X3_seekShare_34 w v1 v2 v3 v4 (min (v2 + 1) r19) (v6 + 1) h20 K))))) ∧ (¬ (r14 < v3) → (C_X3_keepBest w h15 (fun _ h25 => C_X3_countUp w v2 h25 (fun r27 h28 => (inR (v2 + 1)) ∧ ((inR r27) ∧ (L_X3_seekShare_34 w v1 v2 v3 v4 (min (v2 + 1) r27) (v6 + 1) h28 K)))))))))))) ∧ (¬ ((h 66 2) = (-1)) → (C_X11_total w 62 h (fun r33 h34 => (inR r33) ∧ ((inR (h34 66 2)) ∧ (((r33 ≥ (h34 66 2)) → (C_X3_countUp w v2 h34 (fun r38 h39 => (inR v5) ∧ ((inR r38) ∧ (L_X3_seekShare_34 w v1 v2 v3 v4 (min v5 r38) (v6 + 1) h39 K))))) ∧ (¬ (r33 ≥ (h34 66 2)) → (C_X0_run w v5 v2 h34 (fun _ h44 => C_X0_shareLeft w v2 v1 h44 (fun r46 h47 => (inR r46) ∧ ((inR v3) ∧ (((r46 < v3) → (C_X3_countUp w v2 h47 (fun r51 h52 => (inR (v2 + 1)) ∧ ((inR r51) ∧ (L_X3_seekShare_34 w v1 v2 v3 v4 (min (v2 + 1) r51) (v6 + 1) h52 K))))) ∧ (¬ (r46 < v3) → (C_X3_keepBest w h47 (fun _ h57 => C_X3_countUp w v2 h57 (fun r59 h60 => (inR (v2 + 1)) ∧ ((inR r59) ∧ (L_X3_seekShare_34 w v1 v2 v3 v4 (min (v2 + 1) r59) (v6 + 1) h60 K)))))))))))))))))))))))))) : L_X3_seekShare_34 w v1 v2 v3 v4 v5 v6 h K := by
  unfold L_X3_seekShare_34
  refine J_iload 36 rfl 6 6 rfl (D_X3_seekShare_0.at 19 rfl) ?_
  refine J_iload 38 rfl 4 4 rfl (D_X3_seekShare_0.at 20 rfl) ?_
  obtain ⟨s7, T⟩ := T
  obtain ⟨s8, T⟩ := T
  refine J_icmp_ge 41 rfl 123 s7 s8 (D_X3_seekShare_0.at 21 rfl) (by decide) (fun c68 => ?_) (fun c68 => ?_)
  · replace T := T.1 c68
    exact J_vret rfl (D_X3_seekShare_1.at 14 rfl) T
  replace T := T.2 c68
  refine J_aload_n 42 rfl 0 0 rfl ⟨by decide, by decide⟩ (D_X3_seekShare_0.at 22 rfl) ?_
  refine J_getI (z := (h 66 2)) 45 rfl fl_3_15 rfl ob_66 (Ob.lt ob_66) (D_X3_seekShare_0.at 23 rfl) rfl ?_
  obtain ⟨s9, T⟩ := T
  refine J_if_eq 48 rfl 123 s9 (D_X3_seekShare_0.at 24 rfl) (by decide) (fun c67 => ?_) (fun c67 => ?_)
  · replace T := T.1 c67
    exact J_vret rfl (D_X3_seekShare_1.at 14 rfl) T
  replace T := T.2 c67
  refine J_aload_n 49 rfl 0 0 rfl ⟨by decide, by decide⟩ (D_X3_seekShare_0.at 25 rfl) ?_
  refine J_getI (z := (h 66 2)) 52 rfl fl_3_15 rfl ob_66 (Ob.lt ob_66) (D_X3_seekShare_0.at 26 rfl) rfl ?_
  refine J_iconst 53 rfl (D_X3_seekShare_0.at 27 rfl) ?_
  obtain ⟨s10, T⟩ := T
  refine J_icmp_eq 56 rfl 73 s10 ⟨by decide, by decide⟩ (D_X3_seekShare_0.at 28 rfl) (by decide) (fun c66 => ?_) (fun c66 => ?_)
  · replace T := T.1 c66
    refine J_aload_n 74 rfl 0 0 rfl ⟨by decide, by decide⟩ (D_X3_seekShare_0.at 36 rfl) ?_
    refine J_getF (ov := 61) (dd := 995) 77 rfl fl_3_19 rfl (by decide) rfl ob_66 (Ob.lt ob_66) (D_X3_seekShare_0.at 37 rfl) ?_
    refine J_iload 79 rfl 5 5 rfl (D_X3_seekShare_0.at 38 rfl) ?_
    refine J_iload_n 80 rfl 2 2 rfl (D_X3_seekShare_0.at 39 rfl) ?_
    refine J_callV (d' := 5) (sr := fun z => []) (as := [vI v5, vI v2]) (st := []) (o := 61) 83 rfl ok_X0_run im_X0_run se_X0_run ml_3_60 isC_0 ob_61 (Ob.lt ob_61) rfl (by decide) ⟨Nat.le_refl _, Nat.le_refl _⟩ (Nat.le_of_ble_eq_true rfl) (D_X3_seekShare_0.at 40 rfl) (fun _ => rfl) T (fun r11 h12 T b13 => ?_)
    refine J_iload_n 84 rfl 2 2 rfl (D_X3_seekShare_0.at 41 rfl) ?_
    refine J_iconst 85 rfl (D_X3_seekShare_0.at 42 rfl) ?_
    refine J_iadd 86 rfl (D_X3_seekShare_0.at 43 rfl) ?_
    refine J_istore (lv' := [(5, vI (v2 + 1)), (0, vR 66), (1, vI v1), (2, vI v2), (3, vI v3), (4, vI v4), (6, vI v6)]) 88 rfl 5 (by decide) rfl (D_X3_seekShare_0.at 44 rfl) ?_
    refine J_aload_n 89 rfl 0 1 rfl ⟨by decide, by decide⟩ (D_X3_seekShare_0.at 45 rfl) ?_
    refine J_getF (ov := 61) (dd := 995) 92 rfl fl_3_19 rfl (by decide) rfl ob_66 (Ob.lt ob_66) (D_X3_seekShare_0.at 46 rfl) ?_
    refine J_iload_n 93 rfl 2 3 rfl (D_X3_seekShare_0.at 47 rfl) ?_
    refine J_iload_n 94 rfl 1 2 rfl (D_X3_seekShare_1.at 0 rfl) ?_
    refine J_callV (d' := 4) (sr := fun z => [vI z]) (as := [vI v2, vI v1]) (st := []) (o := 61) 97 rfl ok_X0_shareLeft im_X0_shareLeft se_X0_shareLeft ml_3_64 isC_0 ob_61 (Ob.lt ob_61) rfl (by decide) ⟨Nat.le_refl _, Nat.le_refl _⟩ (Nat.le_of_ble_eq_true rfl) (D_X3_seekShare_1.at 1 rfl) (fun _ => rfl) T (fun r14 h15 T b16 => ?_)
    refine J_iload_n 98 rfl 3 4 rfl (D_X3_seekShare_1.at 2 rfl) ?_
    obtain ⟨s17, T⟩ := T
    obtain ⟨s18, T⟩ := T
    refine J_icmp_lt 101 rfl 105 s17 s18 (D_X3_seekShare_1.at 3 rfl) (by decide) (fun c32 => ?_) (fun c32 => ?_)
    · replace T := T.1 c32
      refine J_iload 107 rfl 5 0 rfl (D_X3_seekShare_1.at 6 rfl) ?_
      refine J_aload_n 108 rfl 0 1 rfl ⟨by decide, by decide⟩ (D_X3_seekShare_1.at 7 rfl) ?_
      refine J_iload_n 109 rfl 2 3 rfl (D_X3_seekShare_1.at 8 rfl) ?_
      refine J_callV (d' := 1) (sr := fun z => [vI z, vI (v2 + 1)]) (as := [vI v2]) (st := [vI (v2 + 1)]) (o := 66) 112 rfl ok_X3_countUp im_X3_countUp se_X3_countUp ml_3_68 isC_3 ob_66 (Ob.lt ob_66) rfl (by decide) ⟨Nat.le_refl _, Nat.le_refl _⟩ (Nat.le_of_ble_eq_true rfl) (D_X3_seekShare_1.at 9 rfl) (fun _ => rfl) T (fun r19 h20 T b21 => ?_)
      obtain ⟨s22, T⟩ := T
      obtain ⟨s23, T⟩ := T
      refine J_minE 115 rfl ml_3_71 s22 s23 (Nat.le_of_ble_eq_true rfl) (by decide) (D_X3_seekShare_1.at 10 rfl) ?_
      refine J_istore (lv' := [(5, vI (min (v2 + 1) r19)), (0, vR 66), (1, vI v1), (2, vI v2), (3, vI v3), (4, vI v4), (6, vI v6)]) 117 rfl 5 (by decide) rfl (D_X3_seekShare_1.at 11 rfl) ?_
      refine J_iinc (v := (v6 + 1)) (lv' := [(6, vI (v6 + 1)), (5, vI (min (v2 + 1) r19)), (0, vR 66), (1, vI v1), (2, vI v2), (3, vI v3), (4, vI v4)]) 120 rfl 6 6 1 rfl rfl (by decide) rfl (D_X3_seekShare_1.at 12 rfl) ?_
      refine J_goto 34 (D_X3_seekShare_1.at 13 rfl) (by decide) ?_
      exact J_sub (lv' := [(0, vR 66), (1, vI v1), (2, vI v2), (3, vI v3), (4, vI v4), (5, vI (min (v2 + 1) r19)), (6, vI (v6 + 1))]) [2, 3, 4, 5, 6, 1, 0] rfl T
    replace T := T.2 c32
    refine J_aload_n 102 rfl 0 1 rfl ⟨by decide, by decide⟩ (D_X3_seekShare_1.at 4 rfl) ?_
    refine J_callV (d' := 2) (sr := fun z => []) (as := []) (st := []) (o := 66) 105 rfl ok_X3_keepBest im_X3_keepBest se_X3_keepBest ml_3_53 isC_3 ob_66 (Ob.lt ob_66) rfl (by decide) ⟨Nat.le_refl _, Nat.le_refl _⟩ (Nat.le_of_ble_eq_true rfl) (D_X3_seekShare_1.at 5 rfl) (fun _ => rfl) T (fun r24 h25 T b26 => ?_)
    refine J_iload 107 rfl 5 0 rfl (D_X3_seekShare_1.at 6 rfl) ?_
    refine J_aload_n 108 rfl 0 1 rfl ⟨by decide, by decide⟩ (D_X3_seekShare_1.at 7 rfl) ?_
    refine J_iload_n 109 rfl 2 3 rfl (D_X3_seekShare_1.at 8 rfl) ?_
    refine J_callV (d' := 1) (sr := fun z => [vI z, vI (v2 + 1)]) (as := [vI v2]) (st := [vI (v2 + 1)]) (o := 66) 112 rfl ok_X3_countUp im_X3_countUp se_X3_countUp ml_3_68 isC_3 ob_66 (Ob.lt ob_66) rfl (by decide) ⟨Nat.le_refl _, Nat.le_refl _⟩ (Nat.le_of_ble_eq_true rfl) (D_X3_seekShare_1.at 9 rfl) (fun _ => rfl) T (fun r27 h28 T b29 => ?_)
    obtain ⟨s30, T⟩ := T
    obtain ⟨s31, T⟩ := T
    refine J_minE 115 rfl ml_3_71 s30 s31 (Nat.le_of_ble_eq_true rfl) (by decide) (D_X3_seekShare_1.at 10 rfl) ?_
    refine J_istore (lv' := [(5, vI (min (v2 + 1) r27)), (0, vR 66), (1, vI v1), (2, vI v2), (3, vI v3), (4, vI v4), (6, vI v6)]) 117 rfl 5 (by decide) rfl (D_X3_seekShare_1.at 11 rfl) ?_
    refine J_iinc (v := (v6 + 1)) (lv' := [(6, vI (v6 + 1)), (5, vI (min (v2 + 1) r27)), (0, vR 66), (1, vI v1), (2, vI v2), (3, vI v3), (4, vI v4)]) 120 rfl 6 6 1 rfl rfl (by decide) rfl (D_X3_seekShare_1.at 12 rfl) ?_
    refine J_goto 34 (D_X3_seekShare_1.at 13 rfl) (by decide) ?_
    exact J_sub (lv' := [(0, vR 66), (1, vI v1), (2, vI v2), (3, vI v3), (4, vI v4), (5, vI (min (v2 + 1) r27)), (6, vI (v6 + 1))]) [2, 3, 4, 5, 6, 1, 0] rfl T
  replace T := T.2 c66
  refine J_aload_n 57 rfl 0 0 rfl ⟨by decide, by decide⟩ (D_X3_seekShare_0.at 29 rfl) ?_
  refine J_getF (ov := 61) (dd := 995) 60 rfl fl_3_19 rfl (by decide) rfl ob_66 (Ob.lt ob_66) (D_X3_seekShare_0.at 30 rfl) ?_
  refine J_getF (ov := 62) (dd := 1001) 63 rfl fl_3_37 rfl (by decide) rfl ob_61 (Ob.lt ob_61) (D_X3_seekShare_0.at 31 rfl) ?_
  refine J_callSN (d' := 1) (sr := fun z => [vI z]) (as := [vR 62]) (st := []) 66 rfl ok_X11_total sm_X11_total ml_3_56 rfl (by decide) ⟨Nat.le_refl _, Nat.le_refl _⟩ (Nat.le_of_ble_eq_true rfl) (D_X3_seekShare_0.at 32 rfl) (fun _ => rfl) T (fun r33 h34 T b35 => ?_)
  refine J_aload_n 67 rfl 0 0 rfl ⟨by decide, by decide⟩ (D_X3_seekShare_0.at 33 rfl) ?_
  refine J_getI (z := (h34 66 2)) 70 rfl fl_3_15 rfl ob_66 (Ob.lt ob_66) (D_X3_seekShare_0.at 34 rfl) rfl ?_
  obtain ⟨s36, T⟩ := T
  obtain ⟨s37, T⟩ := T
  refine J_icmp_ge 73 rfl 105 s36 s37 (D_X3_seekShare_0.at 35 rfl) (by decide) (fun c65 => ?_) (fun c65 => ?_)
  · replace T := T.1 c65
    refine J_iload 107 rfl 5 5 rfl (D_X3_seekShare_1.at 6 rfl) ?_
    refine J_aload_n 108 rfl 0 0 rfl ⟨by decide, by decide⟩ (D_X3_seekShare_1.at 7 rfl) ?_
    refine J_iload_n 109 rfl 2 2 rfl (D_X3_seekShare_1.at 8 rfl) ?_
    refine J_callV (d' := 1) (sr := fun z => [vI z, vI v5]) (as := [vI v2]) (st := [vI v5]) (o := 66) 112 rfl ok_X3_countUp im_X3_countUp se_X3_countUp ml_3_68 isC_3 ob_66 (Ob.lt ob_66) rfl (by decide) ⟨Nat.le_refl _, Nat.le_refl _⟩ (Nat.le_of_ble_eq_true rfl) (D_X3_seekShare_1.at 9 rfl) (fun _ => rfl) T (fun r38 h39 T b40 => ?_)
    obtain ⟨s41, T⟩ := T
    obtain ⟨s42, T⟩ := T
    refine J_minE 115 rfl ml_3_71 s41 s42 (Nat.le_of_ble_eq_true rfl) (by decide) (D_X3_seekShare_1.at 10 rfl) ?_
    refine J_istore (lv' := [(5, vI (min v5 r38)), (0, vR 66), (1, vI v1), (2, vI v2), (3, vI v3), (4, vI v4), (6, vI v6)]) 117 rfl 5 (by decide) rfl (D_X3_seekShare_1.at 11 rfl) ?_
    refine J_iinc (v := (v6 + 1)) (lv' := [(6, vI (v6 + 1)), (5, vI (min v5 r38)), (0, vR 66), (1, vI v1), (2, vI v2), (3, vI v3), (4, vI v4)]) 120 rfl 6 6 1 rfl rfl (by decide) rfl (D_X3_seekShare_1.at 12 rfl) ?_
    refine J_goto 34 (D_X3_seekShare_1.at 13 rfl) (by decide) ?_
    exact J_sub (lv' := [(0, vR 66), (1, vI v1), (2, vI v2), (3, vI v3), (4, vI v4), (5, vI (min v5 r38)), (6, vI (v6 + 1))]) [2, 3, 4, 5, 6, 1, 0] rfl T
  replace T := T.2 c65
  refine J_aload_n 74 rfl 0 0 rfl ⟨by decide, by decide⟩ (D_X3_seekShare_0.at 36 rfl) ?_
  refine J_getF (ov := 61) (dd := 995) 77 rfl fl_3_19 rfl (by decide) rfl ob_66 (Ob.lt ob_66) (D_X3_seekShare_0.at 37 rfl) ?_
  refine J_iload 79 rfl 5 5 rfl (D_X3_seekShare_0.at 38 rfl) ?_
  refine J_iload_n 80 rfl 2 2 rfl (D_X3_seekShare_0.at 39 rfl) ?_
  refine J_callV (d' := 5) (sr := fun z => []) (as := [vI v5, vI v2]) (st := []) (o := 61) 83 rfl ok_X0_run im_X0_run se_X0_run ml_3_60 isC_0 ob_61 (Ob.lt ob_61) rfl (by decide) ⟨Nat.le_refl _, Nat.le_refl _⟩ (Nat.le_of_ble_eq_true rfl) (D_X3_seekShare_0.at 40 rfl) (fun _ => rfl) T (fun r43 h44 T b45 => ?_)
  refine J_iload_n 84 rfl 2 2 rfl (D_X3_seekShare_0.at 41 rfl) ?_
  refine J_iconst 85 rfl (D_X3_seekShare_0.at 42 rfl) ?_
  refine J_iadd 86 rfl (D_X3_seekShare_0.at 43 rfl) ?_
  refine J_istore (lv' := [(5, vI (v2 + 1)), (0, vR 66), (1, vI v1), (2, vI v2), (3, vI v3), (4, vI v4), (6, vI v6)]) 88 rfl 5 (by decide) rfl (D_X3_seekShare_0.at 44 rfl) ?_
  refine J_aload_n 89 rfl 0 1 rfl ⟨by decide, by decide⟩ (D_X3_seekShare_0.at 45 rfl) ?_
  refine J_getF (ov := 61) (dd := 995) 92 rfl fl_3_19 rfl (by decide) rfl ob_66 (Ob.lt ob_66) (D_X3_seekShare_0.at 46 rfl) ?_
  refine J_iload_n 93 rfl 2 3 rfl (D_X3_seekShare_0.at 47 rfl) ?_
  refine J_iload_n 94 rfl 1 2 rfl (D_X3_seekShare_1.at 0 rfl) ?_
  refine J_callV (d' := 4) (sr := fun z => [vI z]) (as := [vI v2, vI v1]) (st := []) (o := 61) 97 rfl ok_X0_shareLeft im_X0_shareLeft se_X0_shareLeft ml_3_64 isC_0 ob_61 (Ob.lt ob_61) rfl (by decide) ⟨Nat.le_refl _, Nat.le_refl _⟩ (Nat.le_of_ble_eq_true rfl) (D_X3_seekShare_1.at 1 rfl) (fun _ => rfl) T (fun r46 h47 T b48 => ?_)
  refine J_iload_n 98 rfl 3 4 rfl (D_X3_seekShare_1.at 2 rfl) ?_
  obtain ⟨s49, T⟩ := T
  obtain ⟨s50, T⟩ := T
  refine J_icmp_lt 101 rfl 105 s49 s50 (D_X3_seekShare_1.at 3 rfl) (by decide) (fun c64 => ?_) (fun c64 => ?_)
  · replace T := T.1 c64
    refine J_iload 107 rfl 5 0 rfl (D_X3_seekShare_1.at 6 rfl) ?_
    refine J_aload_n 108 rfl 0 1 rfl ⟨by decide, by decide⟩ (D_X3_seekShare_1.at 7 rfl) ?_
    refine J_iload_n 109 rfl 2 3 rfl (D_X3_seekShare_1.at 8 rfl) ?_
    refine J_callV (d' := 1) (sr := fun z => [vI z, vI (v2 + 1)]) (as := [vI v2]) (st := [vI (v2 + 1)]) (o := 66) 112 rfl ok_X3_countUp im_X3_countUp se_X3_countUp ml_3_68 isC_3 ob_66 (Ob.lt ob_66) rfl (by decide) ⟨Nat.le_refl _, Nat.le_refl _⟩ (Nat.le_of_ble_eq_true rfl) (D_X3_seekShare_1.at 9 rfl) (fun _ => rfl) T (fun r51 h52 T b53 => ?_)
    obtain ⟨s54, T⟩ := T
    obtain ⟨s55, T⟩ := T
    refine J_minE 115 rfl ml_3_71 s54 s55 (Nat.le_of_ble_eq_true rfl) (by decide) (D_X3_seekShare_1.at 10 rfl) ?_
    refine J_istore (lv' := [(5, vI (min (v2 + 1) r51)), (0, vR 66), (1, vI v1), (2, vI v2), (3, vI v3), (4, vI v4), (6, vI v6)]) 117 rfl 5 (by decide) rfl (D_X3_seekShare_1.at 11 rfl) ?_
    refine J_iinc (v := (v6 + 1)) (lv' := [(6, vI (v6 + 1)), (5, vI (min (v2 + 1) r51)), (0, vR 66), (1, vI v1), (2, vI v2), (3, vI v3), (4, vI v4)]) 120 rfl 6 6 1 rfl rfl (by decide) rfl (D_X3_seekShare_1.at 12 rfl) ?_
    refine J_goto 34 (D_X3_seekShare_1.at 13 rfl) (by decide) ?_
    exact J_sub (lv' := [(0, vR 66), (1, vI v1), (2, vI v2), (3, vI v3), (4, vI v4), (5, vI (min (v2 + 1) r51)), (6, vI (v6 + 1))]) [2, 3, 4, 5, 6, 1, 0] rfl T
  replace T := T.2 c64
  refine J_aload_n 102 rfl 0 1 rfl ⟨by decide, by decide⟩ (D_X3_seekShare_1.at 4 rfl) ?_
  refine J_callV (d' := 2) (sr := fun z => []) (as := []) (st := []) (o := 66) 105 rfl ok_X3_keepBest im_X3_keepBest se_X3_keepBest ml_3_53 isC_3 ob_66 (Ob.lt ob_66) rfl (by decide) ⟨Nat.le_refl _, Nat.le_refl _⟩ (Nat.le_of_ble_eq_true rfl) (D_X3_seekShare_1.at 5 rfl) (fun _ => rfl) T (fun r56 h57 T b58 => ?_)
  refine J_iload 107 rfl 5 0 rfl (D_X3_seekShare_1.at 6 rfl) ?_
  refine J_aload_n 108 rfl 0 1 rfl ⟨by decide, by decide⟩ (D_X3_seekShare_1.at 7 rfl) ?_
  refine J_iload_n 109 rfl 2 3 rfl (D_X3_seekShare_1.at 8 rfl) ?_
  refine J_callV (d' := 1) (sr := fun z => [vI z, vI (v2 + 1)]) (as := [vI v2]) (st := [vI (v2 + 1)]) (o := 66) 112 rfl ok_X3_countUp im_X3_countUp se_X3_countUp ml_3_68 isC_3 ob_66 (Ob.lt ob_66) rfl (by decide) ⟨Nat.le_refl _, Nat.le_refl _⟩ (Nat.le_of_ble_eq_true rfl) (D_X3_seekShare_1.at 9 rfl) (fun _ => rfl) T (fun r59 h60 T b61 => ?_)
  obtain ⟨s62, T⟩ := T
  obtain ⟨s63, T⟩ := T
  refine J_minE 115 rfl ml_3_71 s62 s63 (Nat.le_of_ble_eq_true rfl) (by decide) (D_X3_seekShare_1.at 10 rfl) ?_
  refine J_istore (lv' := [(5, vI (min (v2 + 1) r59)), (0, vR 66), (1, vI v1), (2, vI v2), (3, vI v3), (4, vI v4), (6, vI v6)]) 117 rfl 5 (by decide) rfl (D_X3_seekShare_1.at 11 rfl) ?_
  refine J_iinc (v := (v6 + 1)) (lv' := [(6, vI (v6 + 1)), (5, vI (min (v2 + 1) r59)), (0, vR 66), (1, vI v1), (2, vI v2), (3, vI v3), (4, vI v4)]) 120 rfl 6 6 1 rfl rfl (by decide) rfl (D_X3_seekShare_1.at 12 rfl) ?_
  refine J_goto 34 (D_X3_seekShare_1.at 13 rfl) (by decide) ?_
  exact J_sub (lv' := [(0, vR 66), (1, vI v1), (2, vI v2), (3, vI v3), (4, vI v4), (5, vI (min (v2 + 1) r59)), (6, vI (v6 + 1))]) [2, 3, 4, 5, 6, 1, 0] rfl T
theorem c_X10_word {w : Wd} {a1 : Int} (ha1 : St a1) {h : Hp} {K : Int → Hp → Prop} (T : C_X10_next w h (fun _ h2 => L_X10_word_6 w a1 0 h2 K)) : C_X10_word w a1 h K := by
  refine CGm_of2 (by decide) (by decide) trivial (Nat.le_of_ble_eq_true rfl) ?_
  refine J_aload_n 1 rfl 0 0 rfl ⟨by decide, by decide⟩ (D_X10_word_0.at 0 rfl) ?_
  refine J_callV (d' := 1) (sr := fun z => []) (as := []) (st := []) (o := 1) 4 rfl ok_X10_next im_X10_next se_X10_next ml_10_39 isC_10 ob_1 (Ob.lt ob_1) rfl (by decide) ⟨Nat.le_refl _, Nat.le_refl _⟩ (Nat.le_of_ble_eq_true rfl) (D_X10_word_0.at 1 rfl) (fun _ => rfl) T (fun r1 h2 T b3 => ?_)
  refine J_iconst 5 rfl (D_X10_word_0.at 2 rfl) ?_
  refine J_istore_n (lv' := [(2, vI 0), (0, vR 1), (1, vR a1)]) 6 rfl 2 (by decide) rfl (D_X10_word_0.at 3 rfl) ?_
  exact J_sub (lv' := [(0, vR 1), (1, vR a1), (2, vI 0)]) [1, 2, 0] rfl T
theorem l_X10_word_6 {w : Wd} {v1 v2 : Int} (hv1 : St v1) {h : Hp} {K : Int → Hp → Prop} (T : (inR v2) ∧ (((v2 ≥ (slen v1)) → (C_X10_byteAt w ((h 1 2) + (slen v1)) h (fun r5 h6 => (inR r5) ∧ (((r5 < 97) → (C_X10_isGlued w h6 (fun r9 h10 => (r9 = 0 ∨ r9 = 1) → ((r9 = 0) → (∀ h12 : Hp, h12 = hu h10 1 2 ((h10 1 2) + (slen v1)) → K 1 h12)) ∧ (¬ (r9 = 0) → (K 0 h10))))) ∧ (¬ (r5 < 97) → ((inR r5) ∧ (((r5 > 122) → (C_X10_isGlued w h6 (fun r16 h17 => (r16 = 0 ∨ r16 = 1) → ((r16 = 0) → (∀ h19 : Hp, h19 = hu h17 1 2 ((h17 1 2) + (slen v1)) → K 1 h19)) ∧ (¬ (r16 = 0) → (K 0 h17))))) ∧ (¬ (r5 > 122) → (K 0 h6))))))))) ∧ (¬ (v2 ≥ (slen v1)) → (C_X10_byteAt w ((h 1 2) + v2) h (fun r24 h25 => (0 ≤ v2 ∧ v2 < slen v1) ∧ ((inR r24) ∧ (((r24 = (sch v1 v2)) → (L_X10_word_6 w v1 (v2 + 1) h25 K)) ∧ (¬ (r24 = (sch v1 v2)) → (K 0 h25))))))))) : L_X10_word_6 w v1 v2 h K := by
  unfold L_X10_word_6
  refine J_iload_n 7 rfl 2 2 rfl (D_X10_word_0.at 4 rfl) ?_
  refine J_aload_n 8 rfl 1 1 rfl (St.rng hv1) (D_X10_word_0.at 5 rfl) ?_
  refine J_strlen 11 rfl hv1 (by decide) (Nat.le_of_ble_eq_true rfl) (inT_3 (i := 14) rfl rfl) (D_X10_word_0.at 6 rfl) ?_
  obtain ⟨s4, T⟩ := T
  refine J_icmp_ge 14 rfl 40 s4 (slen_in v1) (D_X10_word_0.at 7 rfl) (by decide) (fun c30 => ?_) (fun c30 => ?_)
  · replace T := T.1 c30
    refine J_aload_n 41 rfl 0 0 rfl ⟨by decide, by decide⟩ (D_X10_word_0.at 22 rfl) ?_
    refine J_aload_n 42 rfl 0 0 rfl ⟨by decide, by decide⟩ (D_X10_word_0.at 23 rfl) ?_
    refine J_getI (z := (h 1 2)) 45 rfl fl_10_26 rfl ob_1 (Ob.lt ob_1) (D_X10_word_0.at 24 rfl) rfl ?_
    refine J_aload_n 46 rfl 1 1 rfl (St.rng hv1) (D_X10_word_0.at 25 rfl) ?_
    refine J_strlen 49 rfl hv1 (by decide) (Nat.le_of_ble_eq_true rfl) (inT_3 (i := 14) rfl rfl) (D_X10_word_0.at 26 rfl) ?_
    refine J_iadd 50 rfl (D_X10_word_0.at 27 rfl) ?_
    refine J_callV (d' := 1) (sr := fun z => [vI z]) (as := [vI ((h 1 2) + (slen v1))]) (st := []) (o := 1) 53 rfl ok_X10_byteAt im_X10_byteAt se_X10_byteAt ml_10_22 isC_10 ob_1 (Ob.lt ob_1) rfl (by decide) ⟨Nat.le_refl _, Nat.le_refl _⟩ (Nat.le_of_ble_eq_true rfl) (D_X10_word_0.at 28 rfl) (fun _ => rfl) T (fun r5 h6 T b7 => ?_)
    refine J_callS (d' := 1) (K1 := fun z h0 => rok (some .boolean) z → JG w true m_X10_word 7 NT NT 56 [(0, vR 1), (1, vR v1), (2, vI v2)] [vI z] h0 _) (sr := fun z => [vI z]) (as := [vI r5]) (st := []) 56 rfl ok_X10_isLetter sm_X10_isLetter ml_10_63 rfl (by decide) ⟨Nat.le_refl _, Nat.le_refl _⟩ (Nat.le_of_ble_eq_true rfl) (D_X10_word_0.at 29 rfl) (fun _ => rfl) (CGm_of2 (by decide) (by decide) trivial (Nat.le_of_ble_eq_true rfl) ?_) (fun _ _ kq hb => kq hb)
    refine J_iload_n 1 rfl 0 0 rfl (D_X10_isLetter_0.at 0 rfl) ?_
    refine J_bipush 3 rfl ⟨by decide, by decide⟩ (D_X10_isLetter_0.at 1 rfl) ?_
    obtain ⟨s8, T⟩ := T
    refine J_icmp_lt 6 rfl 16 s8 ⟨by decide, by decide⟩ (D_X10_isLetter_0.at 2 rfl) (by decide) (fun c23 => ?_) (fun c23 => ?_)
    · replace T := T.1 c23
      refine J_iconst 17 rfl (D_X10_isLetter_0.at 8 rfl) ?_
      refine J_zret rfl (Or.inl rfl) (D_X10_isLetter_0.at 9 rfl) (fun _ => ?_)
      refine J_if_ne 59 rfl 66 ⟨by decide, by decide⟩ (D_X10_word_0.at 30 rfl) (by decide) (fun c => absurd c (by decide)) (fun _ => ?_)
      refine J_aload_n 60 rfl 0 0 rfl ⟨by decide, by decide⟩ (D_X10_word_0.at 31 rfl) ?_
      refine J_callV (d' := 1) (sr := fun z => [vI z]) (as := []) (st := []) (o := 1) 63 rfl ok_X10_isGlued im_X10_isGlued se_X10_isGlued ml_10_66 isC_10 ob_1 (Ob.lt ob_1) rfl (by decide) ⟨Nat.le_refl _, Nat.le_refl _⟩ (Nat.le_of_ble_eq_true rfl) (D_X10_word_0.at 32 rfl) (fun _ => rfl) T (fun r9 h10 T b11 => ?_)
      replace T := T b11
      refine J_if_eq 66 rfl 68 (inR_b b11) (D_X10_word_0.at 33 rfl) (by decide) (fun c14 => ?_) (fun c14 => ?_)
      · replace T := T.1 c14
        refine J_aload_n 69 rfl 0 0 rfl ⟨by decide, by decide⟩ (D_X10_word_0.at 36 rfl) ?_
        refine J_dup 70 rfl rfl (D_X10_word_0.at 37 rfl) ?_
        refine J_getI (z := (h10 1 2)) 73 rfl fl_10_26 rfl ob_1 (Ob.lt ob_1) (D_X10_word_0.at 38 rfl) rfl ?_
        refine J_aload_n 74 rfl 1 1 rfl (St.rng hv1) (D_X10_word_0.at 39 rfl) ?_
        refine J_strlen 77 rfl hv1 (by decide) (Nat.le_of_ble_eq_true rfl) (inT_3 (i := 14) rfl rfl) (D_X10_word_0.at 40 rfl) ?_
        refine J_iadd 78 rfl (D_X10_word_0.at 41 rfl) ?_
        refine J_putI 81 rfl fl_10_26 rfl rfl ob_1 (Ob.lt ob_1) (D_X10_word_0.at 42 rfl) (fun h12 e13 => ?_)
        replace T := T h12 e13
        refine J_iconst 82 rfl (D_X10_word_0.at 43 rfl) ?_
        exact J_zret rfl (Or.inr rfl) (D_X10_word_0.at 44 rfl) T
      replace T := T.2 c14
      refine J_iconst 67 rfl (D_X10_word_0.at 34 rfl) ?_
      exact J_zret rfl (Or.inl rfl) (D_X10_word_0.at 35 rfl) T
    replace T := T.2 c23
    refine J_iload_n 7 rfl 0 0 rfl (D_X10_isLetter_0.at 3 rfl) ?_
    refine J_bipush 9 rfl ⟨by decide, by decide⟩ (D_X10_isLetter_0.at 4 rfl) ?_
    obtain ⟨s15, T⟩ := T
    refine J_icmp_gt 12 rfl 16 s15 ⟨by decide, by decide⟩ (D_X10_isLetter_0.at 5 rfl) (by decide) (fun c22 => ?_) (fun c22 => ?_)
    · replace T := T.1 c22
      refine J_iconst 17 rfl (D_X10_isLetter_0.at 8 rfl) ?_
      refine J_zret rfl (Or.inl rfl) (D_X10_isLetter_0.at 9 rfl) (fun _ => ?_)
      refine J_if_ne 59 rfl 66 ⟨by decide, by decide⟩ (D_X10_word_0.at 30 rfl) (by decide) (fun c => absurd c (by decide)) (fun _ => ?_)
      refine J_aload_n 60 rfl 0 0 rfl ⟨by decide, by decide⟩ (D_X10_word_0.at 31 rfl) ?_
      refine J_callV (d' := 1) (sr := fun z => [vI z]) (as := []) (st := []) (o := 1) 63 rfl ok_X10_isGlued im_X10_isGlued se_X10_isGlued ml_10_66 isC_10 ob_1 (Ob.lt ob_1) rfl (by decide) ⟨Nat.le_refl _, Nat.le_refl _⟩ (Nat.le_of_ble_eq_true rfl) (D_X10_word_0.at 32 rfl) (fun _ => rfl) T (fun r16 h17 T b18 => ?_)
      replace T := T b18
      refine J_if_eq 66 rfl 68 (inR_b b18) (D_X10_word_0.at 33 rfl) (by decide) (fun c21 => ?_) (fun c21 => ?_)
      · replace T := T.1 c21
        refine J_aload_n 69 rfl 0 0 rfl ⟨by decide, by decide⟩ (D_X10_word_0.at 36 rfl) ?_
        refine J_dup 70 rfl rfl (D_X10_word_0.at 37 rfl) ?_
        refine J_getI (z := (h17 1 2)) 73 rfl fl_10_26 rfl ob_1 (Ob.lt ob_1) (D_X10_word_0.at 38 rfl) rfl ?_
        refine J_aload_n 74 rfl 1 1 rfl (St.rng hv1) (D_X10_word_0.at 39 rfl) ?_
        refine J_strlen 77 rfl hv1 (by decide) (Nat.le_of_ble_eq_true rfl) (inT_3 (i := 14) rfl rfl) (D_X10_word_0.at 40 rfl) ?_
        refine J_iadd 78 rfl (D_X10_word_0.at 41 rfl) ?_
        refine J_putI 81 rfl fl_10_26 rfl rfl ob_1 (Ob.lt ob_1) (D_X10_word_0.at 42 rfl) (fun h19 e20 => ?_)
        replace T := T h19 e20
        refine J_iconst 82 rfl (D_X10_word_0.at 43 rfl) ?_
        exact J_zret rfl (Or.inr rfl) (D_X10_word_0.at 44 rfl) T
      replace T := T.2 c21
      refine J_iconst 67 rfl (D_X10_word_0.at 34 rfl) ?_
      exact J_zret rfl (Or.inl rfl) (D_X10_word_0.at 35 rfl) T
    replace T := T.2 c22
    refine J_iconst 13 rfl (D_X10_isLetter_0.at 6 rfl) ?_
    refine J_goto 17 (D_X10_isLetter_0.at 7 rfl) (by decide) ?_
    refine J_zret rfl (Or.inr rfl) (D_X10_isLetter_0.at 9 rfl) (fun _ => ?_)
    refine J_if_ne 59 rfl 66 ⟨by decide, by decide⟩ (D_X10_word_0.at 30 rfl) (by decide) (fun _ => ?_) (fun c => absurd (by decide) c)
    refine J_iconst 67 rfl (D_X10_word_0.at 34 rfl) ?_
    exact J_zret rfl (Or.inl rfl) (D_X10_word_0.at 35 rfl) T
  replace T := T.2 c30
  refine J_aload_n 15 rfl 0 0 rfl ⟨by decide, by decide⟩ (D_X10_word_0.at 8 rfl) ?_
  refine J_aload_n 16 rfl 0 0 rfl ⟨by decide, by decide⟩ (D_X10_word_0.at 9 rfl) ?_
  refine J_getI (z := (h 1 2)) 19 rfl fl_10_26 rfl ob_1 (Ob.lt ob_1) (D_X10_word_0.at 10 rfl) rfl ?_
  refine J_iload_n 20 rfl 2 2 rfl (D_X10_word_0.at 11 rfl) ?_
  refine J_iadd 21 rfl (D_X10_word_0.at 12 rfl) ?_
  refine J_callV (d' := 1) (sr := fun z => [vI z]) (as := [vI ((h 1 2) + v2)]) (st := []) (o := 1) 24 rfl ok_X10_byteAt im_X10_byteAt se_X10_byteAt ml_10_22 isC_10 ob_1 (Ob.lt ob_1) rfl (by decide) ⟨Nat.le_refl _, Nat.le_refl _⟩ (Nat.le_of_ble_eq_true rfl) (D_X10_word_0.at 13 rfl) (fun _ => rfl) T (fun r24 h25 T b26 => ?_)
  refine J_aload_n 25 rfl 1 1 rfl (St.rng hv1) (D_X10_word_0.at 14 rfl) ?_
  refine J_iload_n 26 rfl 2 2 rfl (D_X10_word_0.at 15 rfl) ?_
  obtain ⟨s27, T⟩ := T
  refine J_charAt 29 rfl hv1 s27 (by decide) (Nat.le_of_ble_eq_true rfl) (inT_3 (i := 28) rfl rfl) (D_X10_word_0.at 16 rfl) ?_
  obtain ⟨s28, T⟩ := T
  refine J_icmp_eq 32 rfl 34 s28 (sch_in v1 v2) (D_X10_word_0.at 17 rfl) (by decide) (fun c29 => ?_) (fun c29 => ?_)
  · replace T := T.1 c29
    refine J_iinc (v := (v2 + 1)) (lv' := [(2, vI (v2 + 1)), (0, vR 1), (1, vR v1)]) 37 rfl 2 2 1 rfl rfl (by decide) rfl (D_X10_word_0.at 20 rfl) ?_
    refine J_goto 6 (D_X10_word_0.at 21 rfl) (by decide) ?_
    exact J_sub (lv' := [(0, vR 1), (1, vR v1), (2, vI (v2 + 1))]) [1, 2, 0] rfl T
  replace T := T.2 c29
  refine J_iconst 33 rfl (D_X10_word_0.at 18 rfl) ?_
  exact J_zret rfl (Or.inl rfl) (D_X10_word_0.at 19 rfl) T
theorem c_X10_isOwnWord {w : Wd} {a1 : Int} {h : Hp} {K : Int → Hp → Prop} (T : L_X10_isOwnWord_6 w a1 0 0 0 h K) : C_X10_isOwnWord w a1 h K := by
  refine CGm_of2 (by decide) (by decide) trivial (Nat.le_of_ble_eq_true rfl) ?_
  refine J_iconst 1 rfl (D_X10_isOwnWord_0.at 0 rfl) ?_
  refine J_istore_n (lv' := [(1, vI 0), (0, vI a1)]) 2 rfl 1 (by decide) rfl (D_X10_isOwnWord_0.at 1 rfl) ?_
  refine J_iconst 3 rfl (D_X10_isOwnWord_0.at 2 rfl) ?_
  refine J_istore_n (lv' := [(2, vI 0), (1, vI 0), (0, vI a1)]) 4 rfl 2 (by decide) rfl (D_X10_isOwnWord_0.at 3 rfl) ?_
  refine J_iconst 5 rfl (D_X10_isOwnWord_0.at 4 rfl) ?_
  refine J_istore_n (lv' := [(3, vI 0), (2, vI 0), (1, vI 0), (0, vI a1)]) 6 rfl 3 (by decide) rfl (D_X10_isOwnWord_0.at 5 rfl) ?_
  exact J_sub (lv' := [(0, vI a1), (1, vI 0), (2, vI 0), (3, vI 0)]) [3, 2, 1, 0] rfl T
theorem l_X10_isOwnWord_6 {w : Wd} {v0 v1 v2 v3 : Int} {h : Hp} {K : Int → Hp → Prop} (T : (inR v3) ∧ (((v3 ≥ (slen 1004)) → (K 0 h)) ∧ (¬ (v3 ≥ (slen 1004)) → ((0 ≤ v3 ∧ v3 < slen 1004) ∧ ((((sch 1004 v3) = 32) → ((inR v1) ∧ ((inR v0) ∧ (((v1 ≠ v0) → (L_X10_isOwnWord_6 w v0 0 0 (v3 + 1) h K)) ∧ (¬ (v1 ≠ v0) → (K 1 h)))))) ∧ (¬ ((sch 1004 v3) = 32) → ((0 ≤ v3 ∧ v3 < slen 1004) ∧ (C_X10_packedLetter w (sch 1004 v3) v2 h (fun r7 h8 => L_X10_isOwnWord_6 w v0 (iorI v1 r7) (v2 + 1) (v3 + 1) h8 K))))))))) : L_X10_isOwnWord_6 w v0 v1 v2 v3 h K := by
  unfold L_X10_isOwnWord_6
  refine J_iload_n 7 rfl 3 3 rfl (D_X10_isOwnWord_0.at 6 rfl) ?_
  refine J_ldcsE (tx := "river slope at owner colour bank of holds size cut settle rises joins ebb level flow held stones year place min max ") 9 rfl 4 (v := 1004) rfl (by decide) (List.mem_of_getElem? (i := 4) rfl) (D_X10_isOwnWord_0.at 7 rfl) ?_
  refine J_strlen 12 rfl st_4 (by decide) (Nat.le_of_ble_eq_true rfl) (inT_3 (i := 14) rfl rfl) (D_X10_isOwnWord_0.at 8 rfl) ?_
  obtain ⟨s1, T⟩ := T
  refine J_icmp_ge 15 rfl 62 s1 (slen_in 1004) (D_X10_isOwnWord_0.at 9 rfl) (by decide) (fun c11 => ?_) (fun c11 => ?_)
  · replace T := T.1 c11
    refine J_iconst 63 rfl (D_X10_isOwnWord_0.at 36 rfl) ?_
    exact J_zret rfl (Or.inl rfl) (D_X10_isOwnWord_0.at 37 rfl) T
  replace T := T.2 c11
  refine J_ldcsE (tx := "river slope at owner colour bank of holds size cut settle rises joins ebb level flow held stones year place min max ") 17 rfl 4 (v := 1004) rfl (by decide) (List.mem_of_getElem? (i := 4) rfl) (D_X10_isOwnWord_0.at 10 rfl) ?_
  refine J_iload_n 18 rfl 3 3 rfl (D_X10_isOwnWord_0.at 11 rfl) ?_
  obtain ⟨s2, T⟩ := T
  refine J_charAt 21 rfl st_4 s2 (by decide) (Nat.le_of_ble_eq_true rfl) (inT_3 (i := 28) rfl rfl) (D_X10_isOwnWord_0.at 12 rfl) ?_
  refine J_bipush 23 rfl ⟨by decide, by decide⟩ (D_X10_isOwnWord_0.at 13 rfl) ?_
  refine J_icmp_eq 26 rfl 45 (sch_in 1004 v3) ⟨by decide, by decide⟩ (D_X10_isOwnWord_0.at 14 rfl) (by decide) (fun c10 => ?_) (fun c10 => ?_)
  · replace T := T.1 c10
    refine J_iload_n 46 rfl 1 1 rfl (D_X10_isOwnWord_0.at 25 rfl) ?_
    refine J_iload_n 47 rfl 0 0 rfl (D_X10_isOwnWord_0.at 26 rfl) ?_
    obtain ⟨s3, T⟩ := T
    obtain ⟨s4, T⟩ := T
    refine J_icmp_ne 50 rfl 52 s3 s4 (D_X10_isOwnWord_0.at 27 rfl) (by decide) (fun c5 => ?_) (fun c5 => ?_)
    · replace T := T.1 c5
      refine J_iconst 53 rfl (D_X10_isOwnWord_0.at 30 rfl) ?_
      refine J_istore_n (lv' := [(1, vI 0), (0, vI v0), (2, vI v2), (3, vI v3)]) 54 rfl 1 (by decide) rfl (D_X10_isOwnWord_0.at 31 rfl) ?_
      refine J_iconst 55 rfl (D_X10_isOwnWord_0.at 32 rfl) ?_
      refine J_istore_n (lv' := [(2, vI 0), (1, vI 0), (0, vI v0), (3, vI v3)]) 56 rfl 2 (by decide) rfl (D_X10_isOwnWord_0.at 33 rfl) ?_
      refine J_iinc (v := (v3 + 1)) (lv' := [(3, vI (v3 + 1)), (2, vI 0), (1, vI 0), (0, vI v0)]) 59 rfl 3 3 1 rfl rfl (by decide) rfl (D_X10_isOwnWord_0.at 34 rfl) ?_
      refine J_goto 6 (D_X10_isOwnWord_0.at 35 rfl) (by decide) ?_
      exact J_sub (lv' := [(0, vI v0), (1, vI 0), (2, vI 0), (3, vI (v3 + 1))]) [3, 2, 1, 0] rfl T
    replace T := T.2 c5
    refine J_iconst 51 rfl (D_X10_isOwnWord_0.at 28 rfl) ?_
    exact J_zret rfl (Or.inr rfl) (D_X10_isOwnWord_0.at 29 rfl) T
  replace T := T.2 c10
  refine J_iload_n 27 rfl 1 1 rfl (D_X10_isOwnWord_0.at 15 rfl) ?_
  refine J_ldcsE (tx := "river slope at owner colour bank of holds size cut settle rises joins ebb level flow held stones year place min max ") 29 rfl 4 (v := 1004) rfl (by decide) (List.mem_of_getElem? (i := 4) rfl) (D_X10_isOwnWord_0.at 16 rfl) ?_
  refine J_iload_n 30 rfl 3 3 rfl (D_X10_isOwnWord_0.at 17 rfl) ?_
  obtain ⟨s6, T⟩ := T
  refine J_charAt 33 rfl st_4 s6 (by decide) (Nat.le_of_ble_eq_true rfl) (inT_3 (i := 28) rfl rfl) (D_X10_isOwnWord_0.at 18 rfl) ?_
  refine J_iload_n 34 rfl 2 2 rfl (D_X10_isOwnWord_0.at 19 rfl) ?_
  refine J_callS (d' := 1) (sr := fun z => [vI z, vI v1]) (as := [vI (sch 1004 v3), vI v2]) (st := [vI v1]) 37 rfl ok_X10_packedLetter sm_X10_packedLetter ml_10_73 rfl (by decide) ⟨Nat.le_refl _, Nat.le_refl _⟩ (Nat.le_of_ble_eq_true rfl) (D_X10_isOwnWord_0.at 20 rfl) (fun _ => rfl) T (fun r7 h8 T b9 => ?_)
  refine J_ior 38 rfl (D_X10_isOwnWord_0.at 21 rfl) ?_
  refine J_istore_n (lv' := [(1, vI (iorI v1 r7)), (0, vI v0), (2, vI v2), (3, vI v3)]) 39 rfl 1 (by decide) rfl (D_X10_isOwnWord_0.at 22 rfl) ?_
  refine J_iinc (v := (v2 + 1)) (lv' := [(2, vI (v2 + 1)), (1, vI (iorI v1 r7)), (0, vI v0), (3, vI v3)]) 42 rfl 2 2 1 rfl rfl (by decide) rfl (D_X10_isOwnWord_0.at 23 rfl) ?_
  refine J_goto 56 (D_X10_isOwnWord_0.at 24 rfl) (by decide) ?_
  refine J_iinc (v := (v3 + 1)) (lv' := [(3, vI (v3 + 1)), (2, vI (v2 + 1)), (1, vI (iorI v1 r7)), (0, vI v0)]) 59 rfl 3 3 1 rfl rfl (by decide) rfl (D_X10_isOwnWord_0.at 34 rfl) ?_
  refine J_goto 6 (D_X10_isOwnWord_0.at 35 rfl) (by decide) ?_
  exact J_sub (lv' := [(0, vI v0), (1, vI (iorI v1 r7)), (2, vI (v2 + 1)), (3, vI (v3 + 1))]) [3, 2, 1, 0] rfl T
theorem c_X10_needWord {w : Wd} {a1 : Int} (ha1 : St a1) {h : Hp} {K : Int → Hp → Prop} (T : C_X10_word w a1 h (fun r1 h2 => (r1 = 0 ∨ r1 = 1) → ((r1 ≠ 0) → (K 1 h2)) ∧ (¬ (r1 ≠ 0) → (C_X10_failHere w h2 (fun r4 h5 => (r4 = 0 ∨ r4 = 1) → ((r4 = 0) → (K 0 h5)) ∧ (¬ (r4 = 0) → (K 1 h5))))))) : C_X10_needWord w a1 h K := by
  refine CGm_of2 (by decide) (by decide) trivial (Nat.le_of_ble_eq_true rfl) ?_
  refine J_aload_n 1 rfl 0 0 rfl ⟨by decide, by decide⟩ (D_X10_needWord_0.at 0 rfl) ?_
  refine J_aload_n 2 rfl 1 1 rfl (St.rng ha1) (D_X10_needWord_0.at 1 rfl) ?_
  refine J_callV (d' := 7) (sr := fun z => [vI z]) (as := [vR a1]) (st := []) (o := 1) 5 rfl ok_X10_word im_X10_word se_X10_word ml_10_69 isC_10 ob_1 (Ob.lt ob_1) rfl (by decide) ⟨Nat.le_refl _, Nat.le_refl _⟩ (Nat.le_of_ble_eq_true rfl) (D_X10_needWord_0.at 2 rfl) (fun _ => rfl) T (fun r1 h2 T b3 => ?_)
  replace T := T b3
  refine J_if_ne 8 rfl 15 (inR_b b3) (D_X10_needWord_0.at 3 rfl) (by decide) (fun c8 => ?_) (fun c8 => ?_)
  · replace T := T.1 c8
    refine J_iconst 16 rfl (D_X10_needWord_0.at 7 rfl) ?_
    refine J_goto 20 (D_X10_needWord_0.at 8 rfl) (by decide) ?_
    exact J_zret rfl (Or.inr rfl) (D_X10_needWord_0.at 10 rfl) T
  replace T := T.2 c8
  refine J_aload_n 9 rfl 0 0 rfl ⟨by decide, by decide⟩ (D_X10_needWord_0.at 4 rfl) ?_
  refine J_callV (d' := 2) (sr := fun z => [vI z]) (as := []) (st := []) (o := 1) 12 rfl ok_X10_failHere im_X10_failHere se_X10_failHere ml_10_50 isC_10 ob_1 (Ob.lt ob_1) rfl (by decide) ⟨Nat.le_refl _, Nat.le_refl _⟩ (Nat.le_of_ble_eq_true rfl) (D_X10_needWord_0.at 5 rfl) (fun _ => rfl) T (fun r4 h5 T b6 => ?_)
  replace T := T b6
  refine J_if_eq 15 rfl 19 (inR_b b6) (D_X10_needWord_0.at 6 rfl) (by decide) (fun c7 => ?_) (fun c7 => ?_)
  · replace T := T.1 c7
    refine J_iconst 20 rfl (D_X10_needWord_0.at 9 rfl) ?_
    exact J_zret rfl (Or.inl rfl) (D_X10_needWord_0.at 10 rfl) T
  replace T := T.2 c7
  refine J_iconst 16 rfl (D_X10_needWord_0.at 7 rfl) ?_
  refine J_goto 20 (D_X10_needWord_0.at 8 rfl) (by decide) ?_
  exact J_zret rfl (Or.inr rfl) (D_X10_needWord_0.at 10 rfl) T
theorem c_X10_name {w : Wd} {h : Hp} {K : Int → Hp → Prop} (T : C_X10_next w h (fun _ h2 => L_X10_name_8 w 0 0 h2 K)) : C_X10_name w h K := by
  refine CGm_of2 (by decide) (by decide) trivial (Nat.le_of_ble_eq_true rfl) ?_
  refine J_aload_n 1 rfl 0 0 rfl ⟨by decide, by decide⟩ (D_X10_name_0.at 0 rfl) ?_
  refine J_callV (d' := 1) (sr := fun z => []) (as := []) (st := []) (o := 1) 4 rfl ok_X10_next im_X10_next se_X10_next ml_10_39 isC_10 ob_1 (Ob.lt ob_1) rfl (by decide) ⟨Nat.le_refl _, Nat.le_refl _⟩ (Nat.le_of_ble_eq_true rfl) (D_X10_name_0.at 1 rfl) (fun _ => rfl) T (fun r1 h2 T b3 => ?_)
  refine J_iconst 5 rfl (D_X10_name_0.at 2 rfl) ?_
  refine J_istore_n (lv' := [(1, vI 0), (0, vR 1)]) 6 rfl 1 (by decide) rfl (D_X10_name_0.at 3 rfl) ?_
  refine J_iconst 7 rfl (D_X10_name_0.at 4 rfl) ?_
  refine J_istore_n (lv' := [(2, vI 0), (1, vI 0), (0, vR 1)]) 8 rfl 2 (by decide) rfl (D_X10_name_0.at 5 rfl) ?_
  exact J_sub (lv' := [(0, vR 1), (1, vI 0), (2, vI 0)]) [2, 1, 0] rfl T
theorem l_X10_name_8 {w : Wd} {v1 v2 : Int} {h : Hp} {K : Int → Hp → Prop} (T : (inR v2) ∧ (((v2 ≥ 6) → (L_X10_name_59 w v1 h K)) ∧ (¬ (v2 ≥ 6) → (C_X10_byteAt w (h 1 2) h (fun r5 h6 => (inR r5) ∧ (((r5 < 97) → (L_X10_name_59 w v1 h6 K)) ∧ (¬ (r5 < 97) → ((inR r5) ∧ (((r5 > 122) → (L_X10_name_59 w v1 h6 K)) ∧ (¬ (r5 > 122) → (C_X10_byteAt w (h6 1 2) h6 (fun r10 h11 => C_X10_packedLetter w r10 v2 h11 (fun r13 h14 => ∀ h16 : Hp, h16 = hu h14 1 2 ((h14 1 2) + 1) → L_X10_name_8 w (iorI v1 r13) (v2 + 1) h16 K))))))))))))) : L_X10_name_8 w v1 v2 h K := by
  unfold L_X10_name_8
  refine J_iload_n 9 rfl 2 2 rfl (D_X10_name_0.at 6 rfl) ?_
  refine J_bipush 11 rfl ⟨by decide, by decide⟩ (D_X10_name_0.at 7 rfl) ?_
  obtain ⟨s4, T⟩ := T
  refine J_icmp_ge 14 rfl 59 s4 ⟨by decide, by decide⟩ (D_X10_name_0.at 8 rfl) (by decide) (fun c20 => ?_) (fun c20 => ?_)
  · replace T := T.1 c20
    exact J_sub (lv' := [(0, vR 1), (1, vI v1)]) [0, 1] rfl T
  replace T := T.2 c20
  refine J_aload_n 15 rfl 0 0 rfl ⟨by decide, by decide⟩ (D_X10_name_0.at 9 rfl) ?_
  refine J_aload_n 16 rfl 0 0 rfl ⟨by decide, by decide⟩ (D_X10_name_0.at 10 rfl) ?_
  refine J_getI (z := (h 1 2)) 19 rfl fl_10_26 rfl ob_1 (Ob.lt ob_1) (D_X10_name_0.at 11 rfl) rfl ?_
  refine J_callV (d' := 1) (sr := fun z => [vI z]) (as := [vI (h 1 2)]) (st := []) (o := 1) 22 rfl ok_X10_byteAt im_X10_byteAt se_X10_byteAt ml_10_22 isC_10 ob_1 (Ob.lt ob_1) rfl (by decide) ⟨Nat.le_refl _, Nat.le_refl _⟩ (Nat.le_of_ble_eq_true rfl) (D_X10_name_0.at 12 rfl) (fun _ => rfl) T (fun r5 h6 T b7 => ?_)
  refine J_callS (d' := 1) (K1 := fun z h0 => rok (some .boolean) z → JG w true m_X10_name 8 NT NT 25 [(0, vR 1), (1, vI v1), (2, vI v2)] [vI z] h0 _) (sr := fun z => [vI z]) (as := [vI r5]) (st := []) 25 rfl ok_X10_isLetter sm_X10_isLetter ml_10_63 rfl (by decide) ⟨Nat.le_refl _, Nat.le_refl _⟩ (Nat.le_of_ble_eq_true rfl) (D_X10_name_0.at 13 rfl) (fun _ => rfl) (CGm_of2 (by decide) (by decide) trivial (Nat.le_of_ble_eq_true rfl) ?_) (fun _ _ kq hb => kq hb)
  refine J_iload_n 1 rfl 0 0 rfl (D_X10_isLetter_0.at 0 rfl) ?_
  refine J_bipush 3 rfl ⟨by decide, by decide⟩ (D_X10_isLetter_0.at 1 rfl) ?_
  obtain ⟨s8, T⟩ := T
  refine J_icmp_lt 6 rfl 16 s8 ⟨by decide, by decide⟩ (D_X10_isLetter_0.at 2 rfl) (by decide) (fun c19 => ?_) (fun c19 => ?_)
  · replace T := T.1 c19
    refine J_iconst 17 rfl (D_X10_isLetter_0.at 8 rfl) ?_
    refine J_zret rfl (Or.inl rfl) (D_X10_isLetter_0.at 9 rfl) (fun _ => ?_)
    refine J_if_eq 28 rfl 59 ⟨by decide, by decide⟩ (D_X10_name_0.at 14 rfl) (by decide) (fun _ => ?_) (fun c => absurd (by decide) c)
    exact J_sub (lv' := [(0, vR 1), (1, vI v1)]) [0, 1] rfl T
  replace T := T.2 c19
  refine J_iload_n 7 rfl 0 0 rfl (D_X10_isLetter_0.at 3 rfl) ?_
  refine J_bipush 9 rfl ⟨by decide, by decide⟩ (D_X10_isLetter_0.at 4 rfl) ?_
  obtain ⟨s9, T⟩ := T
  refine J_icmp_gt 12 rfl 16 s9 ⟨by decide, by decide⟩ (D_X10_isLetter_0.at 5 rfl) (by decide) (fun c18 => ?_) (fun c18 => ?_)
  · replace T := T.1 c18
    refine J_iconst 17 rfl (D_X10_isLetter_0.at 8 rfl) ?_
    refine J_zret rfl (Or.inl rfl) (D_X10_isLetter_0.at 9 rfl) (fun _ => ?_)
    refine J_if_eq 28 rfl 59 ⟨by decide, by decide⟩ (D_X10_name_0.at 14 rfl) (by decide) (fun _ => ?_) (fun c => absurd (by decide) c)
    exact J_sub (lv' := [(0, vR 1), (1, vI v1)]) [0, 1] rfl T
  replace T := T.2 c18
  refine J_iconst 13 rfl (D_X10_isLetter_0.at 6 rfl) ?_
  refine J_goto 17 (D_X10_isLetter_0.at 7 rfl) (by decide) ?_
  refine J_zret rfl (Or.inr rfl) (D_X10_isLetter_0.at 9 rfl) (fun _ => ?_)
  refine J_if_eq 28 rfl 59 ⟨by decide, by decide⟩ (D_X10_name_0.at 14 rfl) (by decide) (fun c => absurd c (by decide)) (fun _ => ?_)
  refine J_iload_n 29 rfl 1 1 rfl (D_X10_name_0.at 15 rfl) ?_
  refine J_aload_n 30 rfl 0 0 rfl ⟨by decide, by decide⟩ (D_X10_name_0.at 16 rfl) ?_
  refine J_aload_n 31 rfl 0 0 rfl ⟨by decide, by decide⟩ (D_X10_name_0.at 17 rfl) ?_
  refine J_getI (z := (h6 1 2)) 34 rfl fl_10_26 rfl ob_1 (Ob.lt ob_1) (D_X10_name_0.at 18 rfl) rfl ?_
  refine J_callV (d' := 1) (sr := fun z => [vI z, vI v1]) (as := [vI (h6 1 2)]) (st := [vI v1]) (o := 1) 37 rfl ok_X10_byteAt im_X10_byteAt se_X10_byteAt ml_10_22 isC_10 ob_1 (Ob.lt ob_1) rfl (by decide) ⟨Nat.le_refl _, Nat.le_refl _⟩ (Nat.le_of_ble_eq_true rfl) (D_X10_name_0.at 19 rfl) (fun _ => rfl) T (fun r10 h11 T b12 => ?_)
  refine J_iload_n 38 rfl 2 2 rfl (D_X10_name_0.at 20 rfl) ?_
  refine J_callS (d' := 1) (sr := fun z => [vI z, vI v1]) (as := [vI r10, vI v2]) (st := [vI v1]) 41 rfl ok_X10_packedLetter sm_X10_packedLetter ml_10_73 rfl (by decide) ⟨Nat.le_refl _, Nat.le_refl _⟩ (Nat.le_of_ble_eq_true rfl) (D_X10_name_0.at 21 rfl) (fun _ => rfl) T (fun r13 h14 T b15 => ?_)
  refine J_ior 42 rfl (D_X10_name_0.at 22 rfl) ?_
  refine J_istore_n (lv' := [(1, vI (iorI v1 r13)), (0, vR 1), (2, vI v2)]) 43 rfl 1 (by decide) rfl (D_X10_name_0.at 23 rfl) ?_
  refine J_aload_n 44 rfl 0 1 rfl ⟨by decide, by decide⟩ (D_X10_name_0.at 24 rfl) ?_
  refine J_dup 45 rfl rfl (D_X10_name_0.at 25 rfl) ?_
  refine J_getI (z := (h14 1 2)) 48 rfl fl_10_26 rfl ob_1 (Ob.lt ob_1) (D_X10_name_0.at 26 rfl) rfl ?_
  refine J_iconst 49 rfl (D_X10_name_0.at 27 rfl) ?_
  refine J_iadd 50 rfl (D_X10_name_0.at 28 rfl) ?_
  refine J_putI 53 rfl fl_10_26 rfl rfl ob_1 (Ob.lt ob_1) (D_X10_name_0.at 29 rfl) (fun h16 e17 => ?_)
  replace T := T h16 e17
  refine J_iinc (v := (v2 + 1)) (lv' := [(2, vI (v2 + 1)), (1, vI (iorI v1 r13)), (0, vR 1)]) 56 rfl 2 2 1 rfl rfl (by decide) rfl (D_X10_name_0.at 30 rfl) ?_
  refine J_goto 8 (D_X10_name_0.at 31 rfl) (by decide) ?_
  exact J_sub (lv' := [(0, vR 1), (1, vI (iorI v1 r13)), (2, vI (v2 + 1))]) [2, 1, 0] rfl T
theorem l_X10_name_59 {w : Wd} {v1 : Int} {h : Hp} {K : Int → Hp → Prop} (T : (inR v1) ∧ (((v1 = 0) → (L_X10_name_77 w h K)) ∧ (¬ (v1 = 0) → (C_X10_byteAt w (h 1 2) h (fun r22 h23 => (inR r22) ∧ (((r22 < 97) → (C_X10_isOwnWord w v1 h23 (fun r26 h27 => (r26 = 0 ∨ r26 = 1) → ((r26 = 0) → (K v1 h27)) ∧ (¬ (r26 = 0) → (C_X10_fail w 1 (h27 1 3) h27 (fun r29 h30 => (r29 = 0 ∨ r29 = 1) → K 0 h30)))))) ∧ (¬ (r22 < 97) → ((inR r22) ∧ (((r22 > 122) → (C_X10_isOwnWord w v1 h23 (fun r34 h35 => (r34 = 0 ∨ r34 = 1) → ((r34 = 0) → (K v1 h35)) ∧ (¬ (r34 = 0) → (C_X10_fail w 1 (h35 1 3) h35 (fun r37 h38 => (r37 = 0 ∨ r37 = 1) → K 0 h38)))))) ∧ (¬ (r22 > 122) → (L_X10_name_77 w h23 K))))))))))) : L_X10_name_59 w v1 h K := by
  unfold L_X10_name_59
  refine J_iload_n 60 rfl 1 1 rfl (D_X10_name_0.at 32 rfl) ?_
  obtain ⟨s21, T⟩ := T
  refine J_if_eq 63 rfl 77 s21 (D_X10_name_0.at 33 rfl) (by decide) (fun c43 => ?_) (fun c43 => ?_)
  · replace T := T.1 c43
    exact J_sub (lv' := [(0, vR 1)]) [0] rfl T
  replace T := T.2 c43
  refine J_aload_n 64 rfl 0 0 rfl ⟨by decide, by decide⟩ (D_X10_name_0.at 34 rfl) ?_
  refine J_aload_n 65 rfl 0 0 rfl ⟨by decide, by decide⟩ (D_X10_name_0.at 35 rfl) ?_
  refine J_getI (z := (h 1 2)) 68 rfl fl_10_26 rfl ob_1 (Ob.lt ob_1) (D_X10_name_0.at 36 rfl) rfl ?_
  refine J_callV (d' := 1) (sr := fun z => [vI z]) (as := [vI (h 1 2)]) (st := []) (o := 1) 71 rfl ok_X10_byteAt im_X10_byteAt se_X10_byteAt ml_10_22 isC_10 ob_1 (Ob.lt ob_1) rfl (by decide) ⟨Nat.le_refl _, Nat.le_refl _⟩ (Nat.le_of_ble_eq_true rfl) (D_X10_name_0.at 37 rfl) (fun _ => rfl) T (fun r22 h23 T b24 => ?_)
  refine J_callS (d' := 1) (K1 := fun z h0 => rok (some .boolean) z → JG w true m_X10_name 8 NT NT 74 [(0, vR 1), (1, vI v1)] [vI z] h0 _) (sr := fun z => [vI z]) (as := [vI r22]) (st := []) 74 rfl ok_X10_isLetter sm_X10_isLetter ml_10_63 rfl (by decide) ⟨Nat.le_refl _, Nat.le_refl _⟩ (Nat.le_of_ble_eq_true rfl) (D_X10_name_0.at 38 rfl) (fun _ => rfl) (CGm_of2 (by decide) (by decide) trivial (Nat.le_of_ble_eq_true rfl) ?_) (fun _ _ kq hb => kq hb)
  refine J_iload_n 1 rfl 0 0 rfl (D_X10_isLetter_0.at 0 rfl) ?_
  refine J_bipush 3 rfl ⟨by decide, by decide⟩ (D_X10_isLetter_0.at 1 rfl) ?_
  obtain ⟨s25, T⟩ := T
  refine J_icmp_lt 6 rfl 16 s25 ⟨by decide, by decide⟩ (D_X10_isLetter_0.at 2 rfl) (by decide) (fun c42 => ?_) (fun c42 => ?_)
  · replace T := T.1 c42
    refine J_iconst 17 rfl (D_X10_isLetter_0.at 8 rfl) ?_
    refine J_zret rfl (Or.inl rfl) (D_X10_isLetter_0.at 9 rfl) (fun _ => ?_)
    refine J_if_eq 77 rfl 84 ⟨by decide, by decide⟩ (D_X10_name_0.at 39 rfl) (by decide) (fun _ => ?_) (fun c => absurd (by decide) c)
    refine J_iload_n 85 rfl 1 1 rfl (D_X10_name_0.at 45 rfl) ?_
    refine J_callS (d' := 7) (sr := fun z => [vI z]) (as := [vI v1]) (st := []) 88 rfl ok_X10_isOwnWord sm_X10_isOwnWord ml_10_77 rfl (by decide) ⟨Nat.le_refl _, Nat.le_refl _⟩ (Nat.le_of_ble_eq_true rfl) (D_X10_name_0.at 46 rfl) (fun _ => rfl) T (fun r26 h27 T b28 => ?_)
    replace T := T b28
    refine J_if_eq 91 rfl 103 (inR_b b28) (D_X10_name_0.at 47 rfl) (by decide) (fun c32 => ?_) (fun c32 => ?_)
    · replace T := T.1 c32
      refine J_iload_n 104 rfl 1 1 rfl (D_X10_name_1.at 8 rfl) ?_
      exact J_iret rfl (D_X10_name_1.at 9 rfl) T
    replace T := T.2 c32
    refine J_aload_n 92 rfl 0 0 rfl ⟨by decide, by decide⟩ (D_X10_name_1.at 0 rfl) ?_
    refine J_iconst 93 rfl (D_X10_name_1.at 1 rfl) ?_
    refine J_aload_n 94 rfl 0 0 rfl ⟨by decide, by decide⟩ (D_X10_name_1.at 2 rfl) ?_
    refine J_getI (z := (h27 1 3)) 97 rfl fl_10_29 rfl ob_1 (Ob.lt ob_1) (D_X10_name_1.at 3 rfl) rfl ?_
    refine J_callV (d' := 1) (sr := fun z => [vI z]) (as := [vI 1, vI (h27 1 3)]) (st := []) (o := 1) 100 rfl ok_X10_fail im_X10_fail se_X10_fail ml_10_35 isC_10 ob_1 (Ob.lt ob_1) rfl (by decide) ⟨Nat.le_refl _, Nat.le_refl _⟩ (Nat.le_of_ble_eq_true rfl) (D_X10_name_1.at 4 rfl) (fun _ => rfl) T (fun r29 h30 T b31 => ?_)
    replace T := T b31
    refine J_pop 101 rfl rfl (D_X10_name_1.at 5 rfl) ?_
    refine J_iconst 102 rfl (D_X10_name_1.at 6 rfl) ?_
    exact J_iret rfl (D_X10_name_1.at 7 rfl) T
  replace T := T.2 c42
  refine J_iload_n 7 rfl 0 0 rfl (D_X10_isLetter_0.at 3 rfl) ?_
  refine J_bipush 9 rfl ⟨by decide, by decide⟩ (D_X10_isLetter_0.at 4 rfl) ?_
  obtain ⟨s33, T⟩ := T
  refine J_icmp_gt 12 rfl 16 s33 ⟨by decide, by decide⟩ (D_X10_isLetter_0.at 5 rfl) (by decide) (fun c41 => ?_) (fun c41 => ?_)
  · replace T := T.1 c41
    refine J_iconst 17 rfl (D_X10_isLetter_0.at 8 rfl) ?_
    refine J_zret rfl (Or.inl rfl) (D_X10_isLetter_0.at 9 rfl) (fun _ => ?_)
    refine J_if_eq 77 rfl 84 ⟨by decide, by decide⟩ (D_X10_name_0.at 39 rfl) (by decide) (fun _ => ?_) (fun c => absurd (by decide) c)
    refine J_iload_n 85 rfl 1 1 rfl (D_X10_name_0.at 45 rfl) ?_
    refine J_callS (d' := 7) (sr := fun z => [vI z]) (as := [vI v1]) (st := []) 88 rfl ok_X10_isOwnWord sm_X10_isOwnWord ml_10_77 rfl (by decide) ⟨Nat.le_refl _, Nat.le_refl _⟩ (Nat.le_of_ble_eq_true rfl) (D_X10_name_0.at 46 rfl) (fun _ => rfl) T (fun r34 h35 T b36 => ?_)
    replace T := T b36
    refine J_if_eq 91 rfl 103 (inR_b b36) (D_X10_name_0.at 47 rfl) (by decide) (fun c40 => ?_) (fun c40 => ?_)
    · replace T := T.1 c40
      refine J_iload_n 104 rfl 1 1 rfl (D_X10_name_1.at 8 rfl) ?_
      exact J_iret rfl (D_X10_name_1.at 9 rfl) T
    replace T := T.2 c40
    refine J_aload_n 92 rfl 0 0 rfl ⟨by decide, by decide⟩ (D_X10_name_1.at 0 rfl) ?_
    refine J_iconst 93 rfl (D_X10_name_1.at 1 rfl) ?_
    refine J_aload_n 94 rfl 0 0 rfl ⟨by decide, by decide⟩ (D_X10_name_1.at 2 rfl) ?_
    refine J_getI (z := (h35 1 3)) 97 rfl fl_10_29 rfl ob_1 (Ob.lt ob_1) (D_X10_name_1.at 3 rfl) rfl ?_
    refine J_callV (d' := 1) (sr := fun z => [vI z]) (as := [vI 1, vI (h35 1 3)]) (st := []) (o := 1) 100 rfl ok_X10_fail im_X10_fail se_X10_fail ml_10_35 isC_10 ob_1 (Ob.lt ob_1) rfl (by decide) ⟨Nat.le_refl _, Nat.le_refl _⟩ (Nat.le_of_ble_eq_true rfl) (D_X10_name_1.at 4 rfl) (fun _ => rfl) T (fun r37 h38 T b39 => ?_)
    replace T := T b39
    refine J_pop 101 rfl rfl (D_X10_name_1.at 5 rfl) ?_
    refine J_iconst 102 rfl (D_X10_name_1.at 6 rfl) ?_
    exact J_iret rfl (D_X10_name_1.at 7 rfl) T
  replace T := T.2 c41
  refine J_iconst 13 rfl (D_X10_isLetter_0.at 6 rfl) ?_
  refine J_goto 17 (D_X10_isLetter_0.at 7 rfl) (by decide) ?_
  refine J_zret rfl (Or.inr rfl) (D_X10_isLetter_0.at 9 rfl) (fun _ => ?_)
  refine J_if_eq 77 rfl 84 ⟨by decide, by decide⟩ (D_X10_name_0.at 39 rfl) (by decide) (fun c => absurd c (by decide)) (fun _ => ?_)
  exact J_sub (lv' := [(0, vR 1)]) [0] rfl T
theorem l_X10_name_77 {w : Wd} {h : Hp} {K : Int → Hp → Prop} (T : C_X10_failHere w h (fun r44 h45 => (r44 = 0 ∨ r44 = 1) → K 0 h45)) : L_X10_name_77 w h K := by
  unfold L_X10_name_77
  refine J_aload_n 78 rfl 0 0 rfl ⟨by decide, by decide⟩ (D_X10_name_0.at 40 rfl) ?_
  refine J_callV (d' := 2) (sr := fun z => [vI z]) (as := []) (st := []) (o := 1) 81 rfl ok_X10_failHere im_X10_failHere se_X10_failHere ml_10_50 isC_10 ob_1 (Ob.lt ob_1) rfl (by decide) ⟨Nat.le_refl _, Nat.le_refl _⟩ (Nat.le_of_ble_eq_true rfl) (D_X10_name_0.at 41 rfl) (fun _ => rfl) T (fun r44 h45 T b46 => ?_)
  replace T := T b46
  refine J_pop 82 rfl rfl (D_X10_name_0.at 42 rfl) ?_
  refine J_iconst 83 rfl (D_X10_name_0.at 43 rfl) ?_
  exact J_iret rfl (D_X10_name_0.at 44 rfl) T
