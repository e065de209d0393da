theorem ok_X11_init : MtOk m_X11_init 0 := ⟨(inT_1 (i := 24) rfl rfl), (inT_1 (i := 1) rfl rfl), ⟨by decide, by decide⟩, by decide +kernel, by decide⟩
theorem im_X11_init : inW (.instanceMethod m_X11_init.1) := (inT_1 (i := 23) rfl rfl)
theorem ok_X10_init : MtOk m_X10_init 0 := ⟨(inT_1 (i := 32) rfl rfl), (inT_1 (i := 2) rfl rfl), ⟨by decide, by decide⟩, by decide +kernel, by decide⟩
theorem im_X10_init : inW (.instanceMethod m_X10_init.1) := (inT_1 (i := 31) rfl rfl)
theorem ok_X1_init : MtOk m_X1_init 0 := ⟨(inT_1 (i := 66) rfl rfl), (inT_1 (i := 3) rfl rfl), ⟨by decide, by decide⟩, by decide +kernel, by decide⟩
theorem im_X1_init : inW (.instanceMethod m_X1_init.1) := (inT_1 (i := 65) rfl rfl)
theorem ok_X2_init : MtOk m_X2_init 2 := ⟨(inT_1 (i := 84) rfl rfl), (inT_1 (i := 4) rfl rfl), ⟨by decide, by decide⟩, by decide +kernel, by decide⟩
theorem im_X2_init : inW (.instanceMethod m_X2_init.1) := (inT_1 (i := 83) rfl rfl)
theorem ok_X7_init : MtOk m_X7_init 0 := ⟨(inT_1 (i := 106) rfl rfl), (inT_1 (i := 5) rfl rfl), ⟨by decide, by decide⟩, by decide +kernel, by decide⟩
theorem im_X7_init : inW (.instanceMethod m_X7_init.1) := (inT_1 (i := 105) rfl rfl)
theorem ok_X4_init : MtOk m_X4_init 1 := ⟨(inT_1 (i := 112) rfl rfl), (inT_1 (i := 6) rfl rfl), ⟨by decide, by decide⟩, by decide +kernel, by decide⟩
theorem im_X4_init : inW (.instanceMethod m_X4_init.1) := (inT_1 (i := 111) rfl rfl)
theorem ok_X7_clear : MtOk m_X7_clear 0 := ⟨(inT_1 (i := 134) rfl rfl), (inT_1 (i := 5) rfl rfl), ⟨by decide, by decide⟩, by decide +kernel, by decide⟩
theorem im_X7_clear : inW (.instanceMethod m_X7_clear.1) := (inT_1 (i := 132) rfl rfl)
theorem se_X7_clear : inW (.selects m_X7_clear.1.cls m_X7_clear.1 m_X7_clear.1) := (inT_1 (i := 133) rfl rfl)
theorem ok_X9_init : MtOk m_X9_init 0 := ⟨(inT_1 (i := 231) rfl rfl), (inT_1 (i := 8) rfl rfl), ⟨by decide, by decide⟩, by decide +kernel, by decide⟩
theorem im_X9_init : inW (.instanceMethod m_X9_init.1) := (inT_1 (i := 230) rfl rfl)
theorem ok_X5_init : MtOk m_X5_init 0 := ⟨(inT_2 (i := 29) rfl rfl), (inT_1 (i := 9) rfl rfl), ⟨by decide, by decide⟩, by decide +kernel, by decide⟩
theorem im_X5_init : inW (.instanceMethod m_X5_init.1) := (inT_2 (i := 28) rfl rfl)
theorem ok_X6_init : MtOk m_X6_init 0 := ⟨(inT_2 (i := 46) rfl rfl), (inT_1 (i := 10) rfl rfl), ⟨by decide, by decide⟩, by decide +kernel, by decide⟩
theorem im_X6_init : inW (.instanceMethod m_X6_init.1) := (inT_2 (i := 45) rfl rfl)
theorem ok_X8_init : MtOk m_X8_init 3 := ⟨(inT_2 (i := 71) rfl rfl), (inT_1 (i := 11) rfl rfl), ⟨by decide, by decide⟩, by decide +kernel, by decide⟩
theorem im_X8_init : inW (.instanceMethod m_X8_init.1) := (inT_2 (i := 70) rfl rfl)
theorem ok_X0_init : MtOk m_X0_init 3 := ⟨(inT_2 (i := 87) rfl rfl), (inT_1 (i := 12) rfl rfl), ⟨by decide, by decide⟩, by decide +kernel, by decide⟩
theorem im_X0_init : inW (.instanceMethod m_X0_init.1) := (inT_2 (i := 86) rfl rfl)
theorem ok_X3_init : MtOk m_X3_init 1 := ⟨(inT_2 (i := 123) rfl rfl), (inT_1 (i := 13) rfl rfl), ⟨by decide, by decide⟩, by decide +kernel, by decide⟩
theorem im_X3_init : inW (.instanceMethod m_X3_init.1) := (inT_2 (i := 122) rfl rfl)
theorem ok_X11_feed : MtOk m_X11_feed 5 := ⟨(inT_2 (i := 199) rfl rfl), (inT_1 (i := 1) rfl rfl), ⟨by decide, by decide⟩, by decide +kernel, by decide⟩
theorem im_X11_feed : inW (.instanceMethod m_X11_feed.1) := (inT_2 (i := 197) rfl rfl)
theorem se_X11_feed : inW (.selects m_X11_feed.1.cls m_X11_feed.1 m_X11_feed.1) := (inT_2 (i := 198) rfl rfl)
theorem ok_X11_refuse : MtOk m_X11_refuse 1 := ⟨(inT_2 (i := 203) rfl rfl), (inT_1 (i := 1) rfl rfl), ⟨by decide, by decide⟩, by decide +kernel, by decide⟩
theorem im_X11_refuse : inW (.instanceMethod m_X11_refuse.1) := (inT_2 (i := 202) rfl rfl)
theorem se_X11_refuse : inW (.selects m_X11_refuse.1.cls m_X11_refuse.1 m_X11_refuse.1) := (inS_1 (i := 0) (n := 20) rfl)
theorem ok_X10_append : MtOk m_X10_append 1 := ⟨(inT_2 (i := 207) rfl rfl), (inT_1 (i := 2) rfl rfl), ⟨by decide, by decide⟩, by decide +kernel, by decide⟩
theorem im_X10_append : inW (.instanceMethod m_X10_append.1) := (inT_2 (i := 205) rfl rfl)
theorem se_X10_append : inW (.selects m_X10_append.1.cls m_X10_append.1 m_X10_append.1) := (inT_2 (i := 206) rfl rfl)
theorem ok_X11_end : MtOk m_X11_end 1 := ⟨(inT_2 (i := 211) rfl rfl), (inT_1 (i := 1) rfl rfl), ⟨by decide, by decide⟩, by decide +kernel, by decide⟩
theorem im_X11_end : inW (.instanceMethod m_X11_end.1) := (inT_2 (i := 209) rfl rfl)
theorem se_X11_end : inW (.selects m_X11_end.1.cls m_X11_end.1 m_X11_end.1) := (inT_2 (i := 210) rfl rfl)
theorem ok_X11_refuseAct : MtOk m_X11_refuseAct 1 := ⟨(inT_2 (i := 215) rfl rfl), (inT_1 (i := 1) rfl rfl), ⟨by decide, by decide⟩, by decide +kernel, by decide⟩
theorem im_X11_refuseAct : inW (.instanceMethod m_X11_refuseAct.1) := (inT_2 (i := 214) rfl rfl)
theorem se_X11_refuseAct : inW (.selects m_X11_refuseAct.1.cls m_X11_refuseAct.1 m_X11_refuseAct.1) := (inS_1 (i := 1) (n := 20) rfl)
theorem ok_X11_river : MtOk m_X11_river 0 := ⟨(inT_2 (i := 219) rfl rfl), (inT_1 (i := 1) rfl rfl), ⟨by decide, by decide⟩, by decide +kernel, by decide⟩
theorem im_X11_river : inW (.instanceMethod m_X11_river.1) := (inT_2 (i := 217) rfl rfl)
theorem se_X11_river : inW (.selects m_X11_river.1.cls m_X11_river.1 m_X11_river.1) := (inT_2 (i := 218) rfl rfl)
theorem ok_X10_begin : MtOk m_X10_begin 0 := ⟨(inT_2 (i := 223) rfl rfl), (inT_1 (i := 2) rfl rfl), ⟨by decide, by decide⟩, by decide +kernel, by decide⟩
theorem im_X10_begin : inW (.instanceMethod m_X10_begin.1) := (inT_2 (i := 221) rfl rfl)
theorem se_X10_begin : inW (.selects m_X10_begin.1.cls m_X10_begin.1 m_X10_begin.1) := (inT_2 (i := 222) rfl rfl)
theorem ok_X8_read : MtOk m_X8_read 1 := ⟨(inT_2 (i := 227) rfl rfl), (inT_1 (i := 11) rfl rfl), ⟨by decide, by decide⟩, by decide +kernel, by decide⟩
theorem im_X8_read : inW (.instanceMethod m_X8_read.1) := (inT_2 (i := 225) rfl rfl)
theorem se_X8_read : inW (.selects m_X8_read.1.cls m_X8_read.1 m_X8_read.1) := (inT_2 (i := 226) rfl rfl)
theorem ok_X10_isMore : MtOk m_X10_isMore 0 := ⟨(inT_2 (i := 232) rfl rfl), (inT_1 (i := 2) rfl rfl), ⟨by decide, by decide⟩, by decide +kernel, by decide⟩
theorem im_X10_isMore : inW (.instanceMethod m_X10_isMore.1) := (inT_2 (i := 230) rfl rfl)
theorem se_X10_isMore : inW (.selects m_X10_isMore.1.cls m_X10_isMore.1 m_X10_isMore.1) := (inT_2 (i := 231) rfl rfl)
theorem ok_X10_next : MtOk m_X10_next 0 := ⟨(inT_2 (i := 236) rfl rfl), (inT_1 (i := 2) rfl rfl), ⟨by decide, by decide⟩, by decide +kernel, by decide⟩
theorem im_X10_next : inW (.instanceMethod m_X10_next.1) := (inT_2 (i := 234) rfl rfl)
theorem se_X10_next : inW (.selects m_X10_next.1.cls m_X10_next.1 m_X10_next.1) := (inT_2 (i := 235) rfl rfl)
theorem ok_X10_fail : MtOk m_X10_fail 2 := ⟨(inT_3 (i := 0) rfl rfl), (inT_1 (i := 2) rfl rfl), ⟨by decide, by decide⟩, by decide +kernel, by decide⟩
theorem im_X10_fail : inW (.instanceMethod m_X10_fail.1) := (inT_2 (i := 238) rfl rfl)
theorem se_X10_fail : inW (.selects m_X10_fail.1.cls m_X10_fail.1 m_X10_fail.1) := (inT_2 (i := 239) rfl rfl)
theorem ok_X8_reaches : MtOk m_X8_reaches 0 := ⟨(inT_3 (i := 4) rfl rfl), (inT_1 (i := 11) rfl rfl), ⟨by decide, by decide⟩, by decide +kernel, by decide⟩
theorem im_X8_reaches : inW (.instanceMethod m_X8_reaches.1) := (inT_3 (i := 3) rfl rfl)
theorem se_X8_reaches : inW (.selects m_X8_reaches.1.cls m_X8_reaches.1 m_X8_reaches.1) := (inS_1 (i := 2) (n := 3) rfl)
theorem ok_X10_needWord : MtOk m_X10_needWord 1 := ⟨(inT_3 (i := 9) rfl rfl), (inT_1 (i := 2) rfl rfl), ⟨by decide, by decide⟩, by decide +kernel, by decide⟩
theorem im_X10_needWord : inW (.instanceMethod m_X10_needWord.1) := (inT_3 (i := 7) rfl rfl)
theorem se_X10_needWord : inW (.selects m_X10_needWord.1.cls m_X10_needWord.1 m_X10_needWord.1) := (inT_3 (i := 8) rfl rfl)
theorem ok_X10_word : MtOk m_X10_word 1 := ⟨(inT_3 (i := 13) rfl rfl), (inT_1 (i := 2) rfl rfl), ⟨by decide, by decide⟩, by decide +kernel, by decide⟩
theorem im_X10_word : inW (.instanceMethod m_X10_word.1) := (inT_3 (i := 11) rfl rfl)
theorem se_X10_word : inW (.selects m_X10_word.1.cls m_X10_word.1 m_X10_word.1) := (inT_3 (i := 12) rfl rfl)
theorem ok_X10_byteAt : MtOk m_X10_byteAt 1 := ⟨(inT_3 (i := 27) rfl rfl), (inT_1 (i := 2) rfl rfl), ⟨by decide, by decide⟩, by decide +kernel, by decide⟩
theorem im_X10_byteAt : inW (.instanceMethod m_X10_byteAt.1) := (inT_3 (i := 25) rfl rfl)
theorem se_X10_byteAt : inW (.selects m_X10_byteAt.1.cls m_X10_byteAt.1 m_X10_byteAt.1) := (inT_3 (i := 26) rfl rfl)
theorem ok_X10_isLetter : MtOk m_X10_isLetter 1 := ⟨(inT_3 (i := 68) rfl rfl), (inT_1 (i := 2) rfl rfl), ⟨by decide, by decide⟩, by decide +kernel, by decide⟩
theorem sm_X10_isLetter : inW (.static m_X10_isLetter.1) := (inT_3 (i := 67) rfl rfl)
theorem ok_X10_isGlued : MtOk m_X10_isGlued 0 := ⟨(inT_3 (i := 72) rfl rfl), (inT_1 (i := 2) rfl rfl), ⟨by decide, by decide⟩, by decide +kernel, by decide⟩
theorem im_X10_isGlued : inW (.instanceMethod m_X10_isGlued.1) := (inT_3 (i := 71) rfl rfl)
theorem se_X10_isGlued : inW (.selects m_X10_isGlued.1.cls m_X10_isGlued.1 m_X10_isGlued.1) := (inS_1 (i := 3) (n := 6) rfl)
theorem ok_X10_failHere : MtOk m_X10_failHere 0 := ⟨(inT_3 (i := 76) rfl rfl), (inT_1 (i := 2) rfl rfl), ⟨by decide, by decide⟩, by decide +kernel, by decide⟩
theorem im_X10_failHere : inW (.instanceMethod m_X10_failHere.1) := (inT_3 (i := 74) rfl rfl)
theorem se_X10_failHere : inW (.selects m_X10_failHere.1.cls m_X10_failHere.1 m_X10_failHere.1) := (inT_3 (i := 75) rfl rfl)
theorem ok_X10_number : MtOk m_X10_number 2 := ⟨(inT_3 (i := 81) rfl rfl), (inT_1 (i := 2) rfl rfl), ⟨by decide, by decide⟩, by decide +kernel, by decide⟩
theorem im_X10_number : inW (.instanceMethod m_X10_number.1) := (inT_3 (i := 79) rfl rfl)
theorem se_X10_number : inW (.selects m_X10_number.1.cls m_X10_number.1 m_X10_number.1) := (inT_3 (i := 80) rfl rfl)
theorem ok_X10_isDigit : MtOk m_X10_isDigit 1 := ⟨(inT_3 (i := 84) rfl rfl), (inT_1 (i := 2) rfl rfl), ⟨by decide, by decide⟩, by decide +kernel, by decide⟩
theorem sm_X10_isDigit : inW (.static m_X10_isDigit.1) := (inT_3 (i := 83) rfl rfl)
theorem ok_X8_statement : MtOk m_X8_statement 0 := ⟨(inT_3 (i := 89) rfl rfl), (inT_1 (i := 11) rfl rfl), ⟨by decide, by decide⟩, by decide +kernel, by decide⟩
theorem im_X8_statement : inW (.instanceMethod m_X8_statement.1) := (inT_3 (i := 88) rfl rfl)
theorem se_X8_statement : inW (.selects m_X8_statement.1.cls m_X8_statement.1 m_X8_statement.1) := (inS_1 (i := 4) (n := 3) rfl)
theorem ok_X8_slope : MtOk m_X8_slope 0 := ⟨(inT_3 (i := 95) rfl rfl), (inT_1 (i := 11) rfl rfl), ⟨by decide, by decide⟩, by decide +kernel, by decide⟩
theorem im_X8_slope : inW (.instanceMethod m_X8_slope.1) := (inT_3 (i := 94) rfl rfl)
theorem se_X8_slope : inW (.selects m_X8_slope.1.cls m_X8_slope.1 m_X8_slope.1) := (inS_1 (i := 5) (n := 3) rfl)
theorem ok_X7_hasReach : MtOk m_X7_hasReach 1 := ⟨(inT_3 (i := 100) rfl rfl), (inT_1 (i := 5) rfl rfl), ⟨by decide, by decide⟩, by decide +kernel, by decide⟩
theorem im_X7_hasReach : inW (.instanceMethod m_X7_hasReach.1) := (inT_3 (i := 98) rfl rfl)
theorem se_X7_hasReach : inW (.selects m_X7_hasReach.1.cls m_X7_hasReach.1 m_X7_hasReach.1) := (inT_3 (i := 99) rfl rfl)
theorem ok_X4_isFull : MtOk m_X4_isFull 0 := ⟨(inT_3 (i := 105) rfl rfl), (inT_1 (i := 6) rfl rfl), ⟨by decide, by decide⟩, by decide +kernel, by decide⟩
theorem im_X4_isFull : inW (.instanceMethod m_X4_isFull.1) := (inT_3 (i := 103) rfl rfl)
theorem se_X4_isFull : inW (.selects m_X4_isFull.1.cls m_X4_isFull.1 m_X4_isFull.1) := (inT_3 (i := 104) rfl rfl)
theorem ok_X8_isRoom : MtOk m_X8_isRoom 1 := ⟨(inT_3 (i := 109) rfl rfl), (inT_1 (i := 11) rfl rfl), ⟨by decide, by decide⟩, by decide +kernel, by decide⟩
theorem im_X8_isRoom : inW (.instanceMethod m_X8_isRoom.1) := (inT_3 (i := 108) rfl rfl)
theorem se_X8_isRoom : inW (.selects m_X8_isRoom.1.cls m_X8_isRoom.1 m_X8_isRoom.1) := (inS_1 (i := 6) (n := 3) rfl)
theorem ok_X8_given : MtOk m_X8_given 1 := ⟨(inT_3 (i := 113) rfl rfl), (inT_1 (i := 11) rfl rfl), ⟨by decide, by decide⟩, by decide +kernel, by decide⟩
theorem im_X8_given : inW (.instanceMethod m_X8_given.1) := (inT_3 (i := 112) rfl rfl)
theorem se_X8_given : inW (.selects m_X8_given.1.cls m_X8_given.1 m_X8_given.1) := (inS_1 (i := 7) (n := 3) rfl)
theorem ok_X10_name : MtOk m_X10_name 0 := ⟨(inT_3 (i := 117) rfl rfl), (inT_1 (i := 2) rfl rfl), ⟨by decide, by decide⟩, by decide +kernel, by decide⟩
theorem im_X10_name : inW (.instanceMethod m_X10_name.1) := (inT_3 (i := 115) rfl rfl)
theorem se_X10_name : inW (.selects m_X10_name.1.cls m_X10_name.1 m_X10_name.1) := (inT_3 (i := 116) rfl rfl)
theorem ok_X10_packedLetter : MtOk m_X10_packedLetter 2 := ⟨(inT_3 (i := 120) rfl rfl), (inT_1 (i := 2) rfl rfl), ⟨by decide, by decide⟩, by decide +kernel, by decide⟩
theorem sm_X10_packedLetter : inW (.static m_X10_packedLetter.1) := (inT_3 (i := 119) rfl rfl)
theorem ok_X10_isOwnWord : MtOk m_X10_isOwnWord 1 := ⟨(inT_3 (i := 123) rfl rfl), (inT_1 (i := 2) rfl rfl), ⟨by decide, by decide⟩, by decide +kernel, by decide⟩
theorem sm_X10_isOwnWord : inW (.static m_X10_isOwnWord.1) := (inT_3 (i := 122) rfl rfl)
theorem ok_X7_isNamed : MtOk m_X7_isNamed 1 := ⟨(inT_3 (i := 128) rfl rfl), (inT_1 (i := 5) rfl rfl), ⟨by decide, by decide⟩, by decide +kernel, by decide⟩
theorem im_X7_isNamed : inW (.instanceMethod m_X7_isNamed.1) := (inT_3 (i := 126) rfl rfl)
theorem se_X7_isNamed : inW (.selects m_X7_isNamed.1.cls m_X7_isNamed.1 m_X7_isNamed.1) := (inT_3 (i := 127) rfl rfl)
theorem ok_X4_indexOf : MtOk m_X4_indexOf 1 := ⟨(inT_3 (i := 132) rfl rfl), (inT_1 (i := 6) rfl rfl), ⟨by decide, by decide⟩, by decide +kernel, by decide⟩
theorem im_X4_indexOf : inW (.instanceMethod m_X4_indexOf.1) := (inT_3 (i := 130) rfl rfl)
theorem se_X4_indexOf : inW (.selects m_X4_indexOf.1.cls m_X4_indexOf.1 m_X4_indexOf.1) := (inT_3 (i := 131) rfl rfl)
theorem ok_X4_add : MtOk m_X4_add 1 := ⟨(inT_3 (i := 136) rfl rfl), (inT_1 (i := 6) rfl rfl), ⟨by decide, by decide⟩, by decide +kernel, by decide⟩
theorem im_X4_add : inW (.instanceMethod m_X4_add.1) := (inT_3 (i := 134) rfl rfl)
theorem se_X4_add : inW (.selects m_X4_add.1.cls m_X4_add.1 m_X4_add.1) := (inT_3 (i := 135) rfl rfl)
theorem ok_X8_bankTold : MtOk m_X8_bankTold 0 := ⟨(inT_3 (i := 143) rfl rfl), (inT_1 (i := 11) rfl rfl), ⟨by decide, by decide⟩, by decide +kernel, by decide⟩
theorem im_X8_bankTold : inW (.instanceMethod m_X8_bankTold.1) := (inT_3 (i := 142) rfl rfl)
theorem se_X8_bankTold : inW (.selects m_X8_bankTold.1.cls m_X8_bankTold.1 m_X8_bankTold.1) := (inS_1 (i := 8) (n := 3) rfl)
theorem ok_X7_hasBank : MtOk m_X7_hasBank 1 := ⟨(inT_3 (i := 147) rfl rfl), (inT_1 (i := 5) rfl rfl), ⟨by decide, by decide⟩, by decide +kernel, by decide⟩
theorem im_X7_hasBank : inW (.instanceMethod m_X7_hasBank.1) := (inT_3 (i := 145) rfl rfl)
theorem se_X7_hasBank : inW (.selects m_X7_hasBank.1.cls m_X7_hasBank.1 m_X7_hasBank.1) := (inT_3 (i := 146) rfl rfl)
theorem ok_X8_asked : MtOk m_X8_asked 1 := ⟨(inT_3 (i := 152) rfl rfl), (inT_1 (i := 11) rfl rfl), ⟨by decide, by decide⟩, by decide +kernel, by decide⟩
theorem im_X8_asked : inW (.instanceMethod m_X8_asked.1) := (inT_3 (i := 151) rfl rfl)
theorem se_X8_asked : inW (.selects m_X8_asked.1.cls m_X8_asked.1 m_X8_asked.1) := (inS_1 (i := 9) (n := 3) rfl)
theorem ok_X1_isTold : MtOk m_X1_isTold 0 := ⟨(inT_3 (i := 160) rfl rfl), (inT_1 (i := 3) rfl rfl), ⟨by decide, by decide⟩, by decide +kernel, by decide⟩
theorem im_X1_isTold : inW (.instanceMethod m_X1_isTold.1) := (inT_3 (i := 158) rfl rfl)
theorem se_X1_isTold : inW (.selects m_X1_isTold.1.cls m_X1_isTold.1 m_X1_isTold.1) := (inT_3 (i := 159) rfl rfl)
theorem ok_X2_sumInto : MtOk m_X2_sumInto 1 := ⟨(inT_3 (i := 164) rfl rfl), (inT_1 (i := 4) rfl rfl), ⟨by decide, by decide⟩, by decide +kernel, by decide⟩
theorem im_X2_sumInto : inW (.instanceMethod m_X2_sumInto.1) := (inT_3 (i := 162) rfl rfl)
theorem se_X2_sumInto : inW (.selects m_X2_sumInto.1.cls m_X2_sumInto.1 m_X2_sumInto.1) := (inT_3 (i := 163) rfl rfl)
theorem ok_X2_begin : MtOk m_X2_begin 2 := ⟨(inT_3 (i := 168) rfl rfl), (inT_1 (i := 4) rfl rfl), ⟨by decide, by decide⟩, by decide +kernel, by decide⟩
theorem im_X2_begin : inW (.instanceMethod m_X2_begin.1) := (inT_3 (i := 167) rfl rfl)
theorem se_X2_begin : inW (.selects m_X2_begin.1.cls m_X2_begin.1 m_X2_begin.1) := (inS_1 (i := 10) (n := 5) rfl)
theorem ok_X2_sum : MtOk m_X2_sum 0 := ⟨(inT_3 (i := 172) rfl rfl), (inT_1 (i := 4) rfl rfl), ⟨by decide, by decide⟩, by decide +kernel, by decide⟩
theorem im_X2_sum : inW (.instanceMethod m_X2_sum.1) := (inT_3 (i := 171) rfl rfl)
theorem se_X2_sum : inW (.selects m_X2_sum.1.cls m_X2_sum.1 m_X2_sum.1) := (inS_1 (i := 11) (n := 5) rfl)
theorem ok_X2_product : MtOk m_X2_product 0 := ⟨(inT_3 (i := 176) rfl rfl), (inT_1 (i := 4) rfl rfl), ⟨by decide, by decide⟩, by decide +kernel, by decide⟩
theorem im_X2_product : inW (.instanceMethod m_X2_product.1) := (inT_3 (i := 175) rfl rfl)
theorem se_X2_product : inW (.selects m_X2_product.1.cls m_X2_product.1 m_X2_product.1) := (inS_1 (i := 12) (n := 5) rfl)
theorem ok_X2_part : MtOk m_X2_part 0 := ⟨(inT_3 (i := 180) rfl rfl), (inT_1 (i := 4) rfl rfl), ⟨by decide, by decide⟩, by decide +kernel, by decide⟩
theorem im_X2_part : inW (.instanceMethod m_X2_part.1) := (inT_3 (i := 179) rfl rfl)
theorem se_X2_part : inW (.selects m_X2_part.1.cls m_X2_part.1 m_X2_part.1) := (inS_1 (i := 13) (n := 5) rfl)
theorem ok_X10_isDigitNext : MtOk m_X10_isDigitNext 0 := ⟨(inT_3 (i := 184) rfl rfl), (inT_1 (i := 2) rfl rfl), ⟨by decide, by decide⟩, by decide +kernel, by decide⟩
theorem im_X10_isDigitNext : inW (.instanceMethod m_X10_isDigitNext.1) := (inT_3 (i := 182) rfl rfl)
theorem se_X10_isDigitNext : inW (.selects m_X10_isDigitNext.1.cls m_X10_isDigitNext.1 m_X10_isDigitNext.1) := (inT_3 (i := 183) rfl rfl)
theorem ok_X2_put : MtOk m_X2_put 1 := ⟨(inT_3 (i := 189) rfl rfl), (inT_1 (i := 4) rfl rfl), ⟨by decide, by decide⟩, by decide +kernel, by decide⟩
theorem im_X2_put : inW (.instanceMethod m_X2_put.1) := (inT_3 (i := 188) rfl rfl)
theorem se_X2_put : inW (.selects m_X2_put.1.cls m_X2_put.1 m_X2_put.1) := (inS_1 (i := 14) (n := 5) rfl)
theorem ok_X1_put : MtOk m_X1_put 1 := ⟨(inT_3 (i := 193) rfl rfl), (inT_1 (i := 3) rfl rfl), ⟨by decide, by decide⟩, by decide +kernel, by decide⟩
theorem im_X1_put : inW (.instanceMethod m_X1_put.1) := (inT_3 (i := 191) rfl rfl)
theorem se_X1_put : inW (.selects m_X1_put.1.cls m_X1_put.1 m_X1_put.1) := (inT_3 (i := 192) rfl rfl)
theorem ok_X10_sign : MtOk m_X10_sign 1 := ⟨(inT_3 (i := 197) rfl rfl), (inT_1 (i := 2) rfl rfl), ⟨by decide, by decide⟩, by decide +kernel, by decide⟩
theorem im_X10_sign : inW (.instanceMethod m_X10_sign.1) := (inT_3 (i := 195) rfl rfl)
theorem se_X10_sign : inW (.selects m_X10_sign.1.cls m_X10_sign.1 m_X10_sign.1) := (inT_3 (i := 196) rfl rfl)
theorem ok_X2_goIn : MtOk m_X2_goIn 0 := ⟨(inT_3 (i := 201) rfl rfl), (inT_1 (i := 4) rfl rfl), ⟨by decide, by decide⟩, by decide +kernel, by decide⟩
theorem im_X2_goIn : inW (.instanceMethod m_X2_goIn.1) := (inT_3 (i := 200) rfl rfl)
theorem se_X2_goIn : inW (.selects m_X2_goIn.1.cls m_X2_goIn.1 m_X2_goIn.1) := (inS_1 (i := 15) (n := 5) rfl)
theorem ok_X10_needSign : MtOk m_X10_needSign 1 := ⟨(inT_3 (i := 206) rfl rfl), (inT_1 (i := 2) rfl rfl), ⟨by decide, by decide⟩, by decide +kernel, by decide⟩
theorem im_X10_needSign : inW (.instanceMethod m_X10_needSign.1) := (inT_3 (i := 204) rfl rfl)
theorem se_X10_needSign : inW (.selects m_X10_needSign.1.cls m_X10_needSign.1 m_X10_needSign.1) := (inT_3 (i := 205) rfl rfl)
theorem ok_X2_goOut : MtOk m_X2_goOut 0 := ⟨(inT_3 (i := 211) rfl rfl), (inT_1 (i := 4) rfl rfl), ⟨by decide, by decide⟩, by decide +kernel, by decide⟩
theorem im_X2_goOut : inW (.instanceMethod m_X2_goOut.1) := (inT_3 (i := 210) rfl rfl)
theorem se_X2_goOut : inW (.selects m_X2_goOut.1.cls m_X2_goOut.1 m_X2_goOut.1) := (inS_2 (i := 0) (n := 5) rfl)
theorem ok_X2_pair : MtOk m_X2_pair 0 := ⟨(inT_3 (i := 217) rfl rfl), (inT_1 (i := 4) rfl rfl), ⟨by decide, by decide⟩, by decide +kernel, by decide⟩
theorem im_X2_pair : inW (.instanceMethod m_X2_pair.1) := (inT_3 (i := 216) rfl rfl)
theorem se_X2_pair : inW (.selects m_X2_pair.1.cls m_X2_pair.1 m_X2_pair.1) := (inS_2 (i := 1) (n := 5) rfl)
theorem ok_X2_askedPart : MtOk m_X2_askedPart 0 := ⟨(inT_3 (i := 223) rfl rfl), (inT_1 (i := 4) rfl rfl), ⟨by decide, by decide⟩, by decide +kernel, by decide⟩
theorem im_X2_askedPart : inW (.instanceMethod m_X2_askedPart.1) := (inT_3 (i := 222) rfl rfl)
theorem se_X2_askedPart : inW (.selects m_X2_askedPart.1.cls m_X2_askedPart.1 m_X2_askedPart.1) := (inS_2 (i := 2) (n := 5) rfl)
theorem ok_X2_riverPart : MtOk m_X2_riverPart 0 := ⟨(inT_3 (i := 232) rfl rfl), (inT_1 (i := 4) rfl rfl), ⟨by decide, by decide⟩, by decide +kernel, by decide⟩
theorem im_X2_riverPart : inW (.instanceMethod m_X2_riverPart.1) := (inT_3 (i := 231) rfl rfl)
theorem se_X2_riverPart : inW (.selects m_X2_riverPart.1.cls m_X2_riverPart.1 m_X2_riverPart.1) := (inS_2 (i := 3) (n := 5) rfl)
theorem ok_X11_keepFault : MtOk m_X11_keepFault 0 := ⟨(inT_4 (i := 8) rfl rfl), (inT_1 (i := 1) rfl rfl), ⟨by decide, by decide⟩, by decide +kernel, by decide⟩
theorem im_X11_keepFault : inW (.instanceMethod m_X11_keepFault.1) := (inT_4 (i := 7) rfl rfl)
theorem se_X11_keepFault : inW (.selects m_X11_keepFault.1.cls m_X11_keepFault.1 m_X11_keepFault.1) := (inS_2 (i := 4) (n := 20) rfl)
theorem ok_X9_clear : MtOk m_X9_clear 1 := ⟨(inT_4 (i := 12) rfl rfl), (inT_1 (i := 8) rfl rfl), ⟨by decide, by decide⟩, by decide +kernel, by decide⟩
theorem im_X9_clear : inW (.instanceMethod m_X9_clear.1) := (inT_4 (i := 10) rfl rfl)
theorem se_X9_clear : inW (.selects m_X9_clear.1.cls m_X9_clear.1 m_X9_clear.1) := (inT_4 (i := 11) rfl rfl)
theorem ok_X5_clear : MtOk m_X5_clear 0 := ⟨(inT_4 (i := 16) rfl rfl), (inT_1 (i := 9) rfl rfl), ⟨by decide, by decide⟩, by decide +kernel, by decide⟩
theorem im_X5_clear : inW (.instanceMethod m_X5_clear.1) := (inT_4 (i := 14) rfl rfl)
theorem se_X5_clear : inW (.selects m_X5_clear.1.cls m_X5_clear.1 m_X5_clear.1) := (inT_4 (i := 15) rfl rfl)
theorem ok_X11_fault : MtOk m_X11_fault 1 := ⟨(inT_4 (i := 20) rfl rfl), (inT_1 (i := 1) rfl rfl), ⟨by decide, by decide⟩, by decide +kernel, by decide⟩
theorem im_X11_fault : inW (.instanceMethod m_X11_fault.1) := (inT_4 (i := 18) rfl rfl)
theorem se_X11_fault : inW (.selects m_X11_fault.1.cls m_X11_fault.1 m_X11_fault.1) := (inT_4 (i := 19) rfl rfl)
theorem ok_X11_has : MtOk m_X11_has 1 := ⟨(inT_4 (i := 24) rfl rfl), (inT_1 (i := 1) rfl rfl), ⟨by decide, by decide⟩, by decide +kernel, by decide⟩
theorem im_X11_has : inW (.instanceMethod m_X11_has.1) := (inT_4 (i := 22) rfl rfl)
theorem se_X11_has : inW (.selects m_X11_has.1.cls m_X11_has.1 m_X11_has.1) := (inT_4 (i := 23) rfl rfl)
theorem ok_X11_total : MtOk m_X11_total 1 := ⟨(inT_4 (i := 27) rfl rfl), (inT_1 (i := 1) rfl rfl), ⟨by decide, by decide⟩, by decide +kernel, by decide⟩
theorem sm_X11_total : inW (.static m_X11_total.1) := (inT_4 (i := 26) rfl rfl)
theorem ok_X11_letter : MtOk m_X11_letter 3 := ⟨(inT_4 (i := 31) rfl rfl), (inT_1 (i := 1) rfl rfl), ⟨by decide, by decide⟩, by decide +kernel, by decide⟩
theorem im_X11_letter : inW (.instanceMethod m_X11_letter.1) := (inT_4 (i := 29) rfl rfl)
theorem se_X11_letter : inW (.selects m_X11_letter.1.cls m_X11_letter.1 m_X11_letter.1) := (inT_4 (i := 30) rfl rfl)
theorem ok_X4_letterOf : MtOk m_X4_letterOf 2 := ⟨(inT_4 (i := 35) rfl rfl), (inT_1 (i := 6) rfl rfl), ⟨by decide, by decide⟩, by decide +kernel, by decide⟩
theorem im_X4_letterOf : inW (.instanceMethod m_X4_letterOf.1) := (inT_4 (i := 33) rfl rfl)
theorem se_X4_letterOf : inW (.selects m_X4_letterOf.1.cls m_X4_letterOf.1 m_X4_letterOf.1) := (inT_4 (i := 34) rfl rfl)
theorem ok_X11_bank : MtOk m_X11_bank 2 := ⟨(inT_4 (i := 39) rfl rfl), (inT_1 (i := 1) rfl rfl), ⟨by decide, by decide⟩, by decide +kernel, by decide⟩
theorem im_X11_bank : inW (.instanceMethod m_X11_bank.1) := (inT_4 (i := 37) rfl rfl)
theorem se_X11_bank : inW (.selects m_X11_bank.1.cls m_X11_bank.1 m_X11_bank.1) := (inT_4 (i := 38) rfl rfl)
theorem ok_X9_lyingOf : MtOk m_X9_lyingOf 1 := ⟨(inT_4 (i := 44) rfl rfl), (inT_1 (i := 8) rfl rfl), ⟨by decide, by decide⟩, by decide +kernel, by decide⟩
theorem im_X9_lyingOf : inW (.instanceMethod m_X9_lyingOf.1) := (inT_4 (i := 42) rfl rfl)
theorem se_X9_lyingOf : inW (.selects m_X9_lyingOf.1.cls m_X9_lyingOf.1 m_X9_lyingOf.1) := (inT_4 (i := 43) rfl rfl)
theorem ok_X11_cell : MtOk m_X11_cell 2 := ⟨(inT_4 (i := 47) rfl rfl), (inT_1 (i := 1) rfl rfl), ⟨by decide, by decide⟩, by decide +kernel, by decide⟩
theorem sm_X11_cell : inW (.static m_X11_cell.1) := (inT_4 (i := 46) rfl rfl)
theorem ok_X11_reach : MtOk m_X11_reach 2 := ⟨(inT_4 (i := 51) rfl rfl), (inT_1 (i := 1) rfl rfl), ⟨by decide, by decide⟩, by decide +kernel, by decide⟩
theorem im_X11_reach : inW (.instanceMethod m_X11_reach.1) := (inT_4 (i := 49) rfl rfl)
theorem se_X11_reach : inW (.selects m_X11_reach.1.cls m_X11_reach.1 m_X11_reach.1) := (inT_4 (i := 50) rfl rfl)
theorem ok_X9_lyingIn : MtOk m_X9_lyingIn 1 := ⟨(inT_4 (i := 56) rfl rfl), (inT_1 (i := 8) rfl rfl), ⟨by decide, by decide⟩, by decide +kernel, by decide⟩
theorem im_X9_lyingIn : inW (.instanceMethod m_X9_lyingIn.1) := (inT_4 (i := 54) rfl rfl)
theorem se_X9_lyingIn : inW (.selects m_X9_lyingIn.1.cls m_X9_lyingIn.1 m_X9_lyingIn.1) := (inT_4 (i := 55) rfl rfl)
theorem ok_X11_isIsland : MtOk m_X11_isIsland 1 := ⟨(inT_4 (i := 60) rfl rfl), (inT_1 (i := 1) rfl rfl), ⟨by decide, by decide⟩, by decide +kernel, by decide⟩
theorem im_X11_isIsland : inW (.instanceMethod m_X11_isIsland.1) := (inT_4 (i := 59) rfl rfl)
theorem se_X11_isIsland : inW (.selects m_X11_isIsland.1.cls m_X11_isIsland.1 m_X11_isIsland.1) := (inS_2 (i := 5) (n := 20) rfl)
theorem ok_X11_majority : MtOk m_X11_majority 1 := ⟨(inT_4 (i := 64) rfl rfl), (inT_1 (i := 1) rfl rfl), ⟨by decide, by decide⟩, by decide +kernel, by decide⟩
theorem im_X11_majority : inW (.instanceMethod m_X11_majority.1) := (inT_4 (i := 63) rfl rfl)
theorem se_X11_majority : inW (.selects m_X11_majority.1.cls m_X11_majority.1 m_X11_majority.1) := (inS_2 (i := 6) (n := 20) rfl)
theorem ok_X11_hasMajority : MtOk m_X11_hasMajority 3 := ⟨(inT_4 (i := 68) rfl rfl), (inT_1 (i := 1) rfl rfl), ⟨by decide, by decide⟩, by decide +kernel, by decide⟩
theorem im_X11_hasMajority : inW (.instanceMethod m_X11_hasMajority.1) := (inT_4 (i := 67) rfl rfl)
theorem se_X11_hasMajority : inW (.selects m_X11_hasMajority.1.cls m_X11_hasMajority.1 m_X11_hasMajority.1) := (inS_2 (i := 7) (n := 20) rfl)
theorem ok_X9_owned : MtOk m_X9_owned 3 := ⟨(inT_4 (i := 72) rfl rfl), (inT_1 (i := 8) rfl rfl), ⟨by decide, by decide⟩, by decide +kernel, by decide⟩
theorem im_X9_owned : inW (.instanceMethod m_X9_owned.1) := (inT_4 (i := 70) rfl rfl)
theorem se_X9_owned : inW (.selects m_X9_owned.1.cls m_X9_owned.1 m_X9_owned.1) := (inT_4 (i := 71) rfl rfl)
theorem ok_X11_landFrom : MtOk m_X11_landFrom 1 := ⟨(inT_4 (i := 76) rfl rfl), (inT_1 (i := 1) rfl rfl), ⟨by decide, by decide⟩, by decide +kernel, by decide⟩
theorem im_X11_landFrom : inW (.instanceMethod m_X11_landFrom.1) := (inT_4 (i := 75) rfl rfl)
theorem se_X11_landFrom : inW (.selects m_X11_landFrom.1.cls m_X11_landFrom.1 m_X11_landFrom.1) := (inS_2 (i := 8) (n := 20) rfl)
theorem ok_X11_isJoined : MtOk m_X11_isJoined 1 := ⟨(inT_4 (i := 80) rfl rfl), (inT_1 (i := 1) rfl rfl), ⟨by decide, by decide⟩, by decide +kernel, by decide⟩
theorem im_X11_isJoined : inW (.instanceMethod m_X11_isJoined.1) := (inT_4 (i := 79) rfl rfl)
theorem se_X11_isJoined : inW (.selects m_X11_isJoined.1.cls m_X11_isJoined.1 m_X11_isJoined.1) := (inS_2 (i := 9) (n := 20) rfl)
theorem ok_X11_landTo : MtOk m_X11_landTo 1 := ⟨(inT_4 (i := 84) rfl rfl), (inT_1 (i := 1) rfl rfl), ⟨by decide, by decide⟩, by decide +kernel, by decide⟩
theorem im_X11_landTo : inW (.instanceMethod m_X11_landTo.1) := (inT_4 (i := 83) rfl rfl)
theorem se_X11_landTo : inW (.selects m_X11_landTo.1.cls m_X11_landTo.1 m_X11_landTo.1) := (inS_2 (i := 10) (n := 20) rfl)
theorem ok_X11_vote : MtOk m_X11_vote 2 := ⟨(inT_4 (i := 88) rfl rfl), (inT_1 (i := 1) rfl rfl), ⟨by decide, by decide⟩, by decide +kernel, by decide⟩
theorem im_X11_vote : inW (.instanceMethod m_X11_vote.1) := (inT_4 (i := 87) rfl rfl)
theorem se_X11_vote : inW (.selects m_X11_vote.1.cls m_X11_vote.1 m_X11_vote.1) := (inS_2 (i := 11) (n := 20) rfl)
theorem ok_X11_lies : MtOk m_X11_lies 2 := ⟨(inT_4 (i := 92) rfl rfl), (inT_1 (i := 1) rfl rfl), ⟨by decide, by decide⟩, by decide +kernel, by decide⟩
theorem im_X11_lies : inW (.instanceMethod m_X11_lies.1) := (inT_4 (i := 90) rfl rfl)
theorem se_X11_lies : inW (.selects m_X11_lies.1.cls m_X11_lies.1 m_X11_lies.1) := (inT_4 (i := 91) rfl rfl)
theorem ok_X11_share : MtOk m_X11_share 2 := ⟨(inT_4 (i := 97) rfl rfl), (inT_1 (i := 1) rfl rfl), ⟨by decide, by decide⟩, by decide +kernel, by decide⟩
theorem im_X11_share : inW (.instanceMethod m_X11_share.1) := (inT_4 (i := 95) rfl rfl)
theorem se_X11_share : inW (.selects m_X11_share.1.cls m_X11_share.1 m_X11_share.1) := (inT_4 (i := 96) rfl rfl)
theorem ok_X7_hasOwner : MtOk m_X7_hasOwner 1 := ⟨(inT_4 (i := 101) rfl rfl), (inT_1 (i := 5) rfl rfl), ⟨by decide, by decide⟩, by decide +kernel, by decide⟩
theorem im_X7_hasOwner : inW (.instanceMethod m_X7_hasOwner.1) := (inT_4 (i := 99) rfl rfl)
theorem se_X7_hasOwner : inW (.selects m_X7_hasOwner.1.cls m_X7_hasOwner.1 m_X7_hasOwner.1) := (inT_4 (i := 100) rfl rfl)
theorem ok_X11_thousandths : MtOk m_X11_thousandths 2 := ⟨(inT_4 (i := 104) rfl rfl), (inT_1 (i := 1) rfl rfl), ⟨by decide, by decide⟩, by decide +kernel, by decide⟩
theorem sm_X11_thousandths : inW (.static m_X11_thousandths.1) := (inT_4 (i := 103) rfl rfl)
theorem ok_X11_tint : MtOk m_X11_tint 2 := ⟨(inT_4 (i := 108) rfl rfl), (inT_1 (i := 1) rfl rfl), ⟨by decide, by decide⟩, by decide +kernel, by decide⟩
theorem im_X11_tint : inW (.instanceMethod m_X11_tint.1) := (inT_4 (i := 106) rfl rfl)
theorem se_X11_tint : inW (.selects m_X11_tint.1.cls m_X11_tint.1 m_X11_tint.1) := (inT_4 (i := 107) rfl rfl)
theorem ok_X7_hasColour : MtOk m_X7_hasColour 1 := ⟨(inT_4 (i := 112) rfl rfl), (inT_1 (i := 5) rfl rfl), ⟨by decide, by decide⟩, by decide +kernel, by decide⟩
theorem im_X7_hasColour : inW (.instanceMethod m_X7_hasColour.1) := (inT_4 (i := 110) rfl rfl)
theorem se_X7_hasColour : inW (.selects m_X7_hasColour.1.cls m_X7_hasColour.1 m_X7_hasColour.1) := (inT_4 (i := 111) rfl rfl)
theorem ok_X9_coloured : MtOk m_X9_coloured 3 := ⟨(inT_4 (i := 116) rfl rfl), (inT_1 (i := 8) rfl rfl), ⟨by decide, by decide⟩, by decide +kernel, by decide⟩
theorem im_X9_coloured : inW (.instanceMethod m_X9_coloured.1) := (inT_4 (i := 114) rfl rfl)
theorem se_X9_coloured : inW (.selects m_X9_coloured.1.cls m_X9_coloured.1 m_X9_coloured.1) := (inT_4 (i := 115) rfl rfl)
theorem ok_X11_flow : MtOk m_X11_flow 2 := ⟨(inT_4 (i := 120) rfl rfl), (inT_1 (i := 1) rfl rfl), ⟨by decide, by decide⟩, by decide +kernel, by decide⟩
theorem im_X11_flow : inW (.instanceMethod m_X11_flow.1) := (inT_4 (i := 118) rfl rfl)
theorem se_X11_flow : inW (.selects m_X11_flow.1.cls m_X11_flow.1 m_X11_flow.1) := (inT_4 (i := 119) rfl rfl)
theorem ok_X11_isLevel : MtOk m_X11_isLevel 1 := ⟨(inT_4 (i := 123) rfl rfl), (inT_1 (i := 1) rfl rfl), ⟨by decide, by decide⟩, by decide +kernel, by decide⟩
theorem sm_X11_isLevel : inW (.static m_X11_isLevel.1) := (inT_4 (i := 122) rfl rfl)
theorem ok_X0_aim : MtOk m_X0_aim 3 := ⟨(inT_4 (i := 127) rfl rfl), (inT_1 (i := 12) rfl rfl), ⟨by decide, by decide⟩, by decide +kernel, by decide⟩
theorem im_X0_aim : inW (.instanceMethod m_X0_aim.1) := (inT_4 (i := 125) rfl rfl)
theorem se_X0_aim : inW (.selects m_X0_aim.1.cls m_X0_aim.1 m_X0_aim.1) := (inT_4 (i := 126) rfl rfl)
theorem ok_X0_flowIn : MtOk m_X0_flowIn 1 := ⟨(inT_4 (i := 134) rfl rfl), (inT_1 (i := 12) rfl rfl), ⟨by decide, by decide⟩, by decide +kernel, by decide⟩
theorem im_X0_flowIn : inW (.instanceMethod m_X0_flowIn.1) := (inT_4 (i := 132) rfl rfl)
theorem se_X0_flowIn : inW (.selects m_X0_flowIn.1.cls m_X0_flowIn.1 m_X0_flowIn.1) := (inT_4 (i := 133) rfl rfl)
theorem ok_X11_cuts : MtOk m_X11_cuts 2 := ⟨(inT_4 (i := 139) rfl rfl), (inT_1 (i := 1) rfl rfl), ⟨by decide, by decide⟩, by decide +kernel, by decide⟩
theorem im_X11_cuts : inW (.instanceMethod m_X11_cuts.1) := (inT_4 (i := 137) rfl rfl)
theorem se_X11_cuts : inW (.selects m_X11_cuts.1.cls m_X11_cuts.1 m_X11_cuts.1) := (inT_4 (i := 138) rfl rfl)
theorem ok_X0_cutOf : MtOk m_X0_cutOf 1 := ⟨(inT_4 (i := 143) rfl rfl), (inT_1 (i := 12) rfl rfl), ⟨by decide, by decide⟩, by decide +kernel, by decide⟩
theorem im_X0_cutOf : inW (.instanceMethod m_X0_cutOf.1) := (inT_4 (i := 141) rfl rfl)
theorem se_X0_cutOf : inW (.selects m_X0_cutOf.1.cls m_X0_cutOf.1 m_X0_cutOf.1) := (inT_4 (i := 142) rfl rfl)
theorem ok_X0_tell : MtOk m_X0_tell 3 := ⟨(inT_4 (i := 148) rfl rfl), (inT_1 (i := 12) rfl rfl), ⟨by decide, by decide⟩, by decide +kernel, by decide⟩
theorem im_X0_tell : inW (.instanceMethod m_X0_tell.1) := (inT_4 (i := 147) rfl rfl)
theorem se_X0_tell : inW (.selects m_X0_tell.1.cls m_X0_tell.1 m_X0_tell.1) := (inS_2 (i := 12) (n := 8) rfl)
theorem ok_X6_reckon : MtOk m_X6_reckon 1 := ⟨(inT_4 (i := 153) rfl rfl), (inT_1 (i := 10) rfl rfl), ⟨by decide, by decide⟩, by decide +kernel, by decide⟩
theorem im_X6_reckon : inW (.instanceMethod m_X6_reckon.1) := (inT_4 (i := 151) rfl rfl)
theorem se_X6_reckon : inW (.selects m_X6_reckon.1.cls m_X6_reckon.1 m_X6_reckon.1) := (inT_4 (i := 152) rfl rfl)
theorem ok_X6_push : MtOk m_X6_push 1 := ⟨(inT_4 (i := 157) rfl rfl), (inT_1 (i := 10) rfl rfl), ⟨by decide, by decide⟩, by decide +kernel, by decide⟩
theorem im_X6_push : inW (.instanceMethod m_X6_push.1) := (inT_4 (i := 156) rfl rfl)
theorem se_X6_push : inW (.selects m_X6_push.1.cls m_X6_push.1 m_X6_push.1) := (inS_2 (i := 13) (n := 5) rfl)
theorem ok_X6_entry : MtOk m_X6_entry 2 := ⟨(inT_4 (i := 160) rfl rfl), (inT_1 (i := 10) rfl rfl), ⟨by decide, by decide⟩, by decide +kernel, by decide⟩
theorem sm_X6_entry : inW (.static m_X6_entry.1) := (inT_4 (i := 159) rfl rfl)
theorem ok_X6_pop : MtOk m_X6_pop 0 := ⟨(inT_4 (i := 164) rfl rfl), (inT_1 (i := 10) rfl rfl), ⟨by decide, by decide⟩, by decide +kernel, by decide⟩
theorem im_X6_pop : inW (.instanceMethod m_X6_pop.1) := (inT_4 (i := 163) rfl rfl)
theorem se_X6_pop : inW (.selects m_X6_pop.1.cls m_X6_pop.1 m_X6_pop.1) := (inS_2 (i := 14) (n := 5) rfl)
theorem ok_X6_join : MtOk m_X6_join 3 := ⟨(inT_4 (i := 168) rfl rfl), (inT_1 (i := 10) rfl rfl), ⟨by decide, by decide⟩, by decide +kernel, by decide⟩
theorem im_X6_join : inW (.instanceMethod m_X6_join.1) := (inT_4 (i := 167) rfl rfl)
theorem se_X6_join : inW (.selects m_X6_join.1.cls m_X6_join.1 m_X6_join.1) := (inS_2 (i := 15) (n := 5) rfl)
theorem ok_X11_within : MtOk m_X11_within 3 := ⟨(inT_4 (i := 173) rfl rfl), (inT_1 (i := 1) rfl rfl), ⟨by decide, by decide⟩, by decide +kernel, by decide⟩
theorem sm_X11_within : inW (.static m_X11_within.1) := (inT_4 (i := 172) rfl rfl)
theorem ok_X11_settles : MtOk m_X11_settles 3 := ⟨(inT_4 (i := 185) rfl rfl), (inT_1 (i := 1) rfl rfl), ⟨by decide, by decide⟩, by decide +kernel, by decide⟩
theorem im_X11_settles : inW (.instanceMethod m_X11_settles.1) := (inT_4 (i := 183) rfl rfl)
theorem se_X11_settles : inW (.selects m_X11_settles.1.cls m_X11_settles.1 m_X11_settles.1) := (inT_4 (i := 184) rfl rfl)
theorem ok_X11_imagine : MtOk m_X11_imagine 1 := ⟨(inT_4 (i := 189) rfl rfl), (inT_1 (i := 1) rfl rfl), ⟨by decide, by decide⟩, by decide +kernel, by decide⟩
theorem im_X11_imagine : inW (.instanceMethod m_X11_imagine.1) := (inT_4 (i := 188) rfl rfl)
theorem se_X11_imagine : inW (.selects m_X11_imagine.1.cls m_X11_imagine.1 m_X11_imagine.1) := (inS_3 (i := 0) (n := 20) rfl)
theorem ok_X0_run : MtOk m_X0_run 2 := ⟨(inT_4 (i := 193) rfl rfl), (inT_1 (i := 12) rfl rfl), ⟨by decide, by decide⟩, by decide +kernel, by decide⟩
theorem im_X0_run : inW (.instanceMethod m_X0_run.1) := (inT_4 (i := 191) rfl rfl)
theorem se_X0_run : inW (.selects m_X0_run.1.cls m_X0_run.1 m_X0_run.1) := (inT_4 (i := 192) rfl rfl)
theorem ok_X0_settling : MtOk m_X0_settling 3 := ⟨(inT_4 (i := 199) rfl rfl), (inT_1 (i := 12) rfl rfl), ⟨by decide, by decide⟩, by decide +kernel, by decide⟩
theorem im_X0_settling : inW (.instanceMethod m_X0_settling.1) := (inT_4 (i := 198) rfl rfl)
theorem se_X0_settling : inW (.selects m_X0_settling.1.cls m_X0_settling.1 m_X0_settling.1) := (inS_3 (i := 1) (n := 8) rfl)
theorem ok_X11_carries : MtOk m_X11_carries 3 := ⟨(inT_4 (i := 203) rfl rfl), (inT_1 (i := 1) rfl rfl), ⟨by decide, by decide⟩, by decide +kernel, by decide⟩
theorem im_X11_carries : inW (.instanceMethod m_X11_carries.1) := (inT_4 (i := 201) rfl rfl)
theorem se_X11_carries : inW (.selects m_X11_carries.1.cls m_X11_carries.1 m_X11_carries.1) := (inT_4 (i := 202) rfl rfl)
theorem ok_X11_would : MtOk m_X11_would 2 := ⟨(inT_4 (i := 207) rfl rfl), (inT_1 (i := 1) rfl rfl), ⟨by decide, by decide⟩, by decide +kernel, by decide⟩
theorem im_X11_would : inW (.instanceMethod m_X11_would.1) := (inT_4 (i := 205) rfl rfl)
theorem se_X11_would : inW (.selects m_X11_would.1.cls m_X11_would.1 m_X11_would.1) := (inT_4 (i := 206) rfl rfl)
theorem ok_X0_taken : MtOk m_X0_taken 0 := ⟨(inT_4 (i := 211) rfl rfl), (inT_1 (i := 12) rfl rfl), ⟨by decide, by decide⟩, by decide +kernel, by decide⟩
theorem im_X0_taken : inW (.instanceMethod m_X0_taken.1) := (inT_4 (i := 209) rfl rfl)
theorem se_X0_taken : inW (.selects m_X0_taken.1.cls m_X0_taken.1 m_X0_taken.1) := (inT_4 (i := 210) rfl rfl)
theorem ok_X0_settledGrains : MtOk m_X0_settledGrains 0 := ⟨(inT_4 (i := 215) rfl rfl), (inT_1 (i := 12) rfl rfl), ⟨by decide, by decide⟩, by decide +kernel, by decide⟩
theorem im_X0_settledGrains : inW (.instanceMethod m_X0_settledGrains.1) := (inT_4 (i := 213) rfl rfl)
theorem se_X0_settledGrains : inW (.selects m_X0_settledGrains.1.cls m_X0_settledGrains.1 m_X0_settledGrains.1) := (inT_4 (i := 214) rfl rfl)
theorem ok_X0_settledIn : MtOk m_X0_settledIn 1 := ⟨(inT_4 (i := 219) rfl rfl), (inT_1 (i := 12) rfl rfl), ⟨by decide, by decide⟩, by decide +kernel, by decide⟩
theorem im_X0_settledIn : inW (.instanceMethod m_X0_settledIn.1) := (inT_4 (i := 217) rfl rfl)
theorem se_X0_settledIn : inW (.selects m_X0_settledIn.1.cls m_X0_settledIn.1 m_X0_settledIn.1) := (inT_4 (i := 218) rfl rfl)
theorem ok_X0_toSea : MtOk m_X0_toSea 0 := ⟨(inT_4 (i := 223) rfl rfl), (inT_1 (i := 12) rfl rfl), ⟨by decide, by decide⟩, by decide +kernel, by decide⟩
theorem im_X0_toSea : inW (.instanceMethod m_X0_toSea.1) := (inT_4 (i := 221) rfl rfl)
theorem se_X0_toSea : inW (.selects m_X0_toSea.1.cls m_X0_toSea.1 m_X0_toSea.1) := (inT_4 (i := 222) rfl rfl)
theorem ok_X0_mostSettled : MtOk m_X0_mostSettled 0 := ⟨(inT_4 (i := 227) rfl rfl), (inT_1 (i := 12) rfl rfl), ⟨by decide, by decide⟩, by decide +kernel, by decide⟩
theorem im_X0_mostSettled : inW (.instanceMethod m_X0_mostSettled.1) := (inT_4 (i := 225) rfl rfl)
theorem se_X0_mostSettled : inW (.selects m_X0_mostSettled.1.cls m_X0_mostSettled.1 m_X0_mostSettled.1) := (inT_4 (i := 226) rfl rfl)
theorem ok_X11_flood : MtOk m_X11_flood 1 := ⟨(inT_4 (i := 231) rfl rfl), (inT_1 (i := 1) rfl rfl), ⟨by decide, by decide⟩, by decide +kernel, by decide⟩
theorem im_X11_flood : inW (.instanceMethod m_X11_flood.1) := (inT_4 (i := 229) rfl rfl)
theorem se_X11_flood : inW (.selects m_X11_flood.1.cls m_X11_flood.1 m_X11_flood.1) := (inT_4 (i := 230) rfl rfl)
theorem ok_X5_store : MtOk m_X5_store 1 := ⟨(inT_4 (i := 235) rfl rfl), (inT_1 (i := 9) rfl rfl), ⟨by decide, by decide⟩, by decide +kernel, by decide⟩
theorem im_X5_store : inW (.instanceMethod m_X5_store.1) := (inT_4 (i := 233) rfl rfl)
theorem se_X5_store : inW (.selects m_X5_store.1.cls m_X5_store.1 m_X5_store.1) := (inT_4 (i := 234) rfl rfl)
theorem ok_X11_passYear : MtOk m_X11_passYear 2 := ⟨(inT_5 (i := 1) rfl rfl), (inT_1 (i := 1) rfl rfl), ⟨by decide, by decide⟩, by decide +kernel, by decide⟩
theorem im_X11_passYear : inW (.instanceMethod m_X11_passYear.1) := (inT_5 (i := 0) rfl rfl)
theorem se_X11_passYear : inW (.selects m_X11_passYear.1.cls m_X11_passYear.1 m_X11_passYear.1) := (inS_3 (i := 2) (n := 20) rfl)
theorem ok_X0_lay : MtOk m_X0_lay 0 := ⟨(inT_5 (i := 5) rfl rfl), (inT_1 (i := 12) rfl rfl), ⟨by decide, by decide⟩, by decide +kernel, by decide⟩
theorem im_X0_lay : inW (.instanceMethod m_X0_lay.1) := (inT_5 (i := 3) rfl rfl)
theorem se_X0_lay : inW (.selects m_X0_lay.1.cls m_X0_lay.1 m_X0_lay.1) := (inT_5 (i := 4) rfl rfl)
theorem ok_X9_payInterest : MtOk m_X9_payInterest 1 := ⟨(inT_5 (i := 9) rfl rfl), (inT_1 (i := 8) rfl rfl), ⟨by decide, by decide⟩, by decide +kernel, by decide⟩
theorem im_X9_payInterest : inW (.instanceMethod m_X9_payInterest.1) := (inT_5 (i := 7) rfl rfl)
theorem se_X9_payInterest : inW (.selects m_X9_payInterest.1.cls m_X9_payInterest.1 m_X9_payInterest.1) := (inT_5 (i := 8) rfl rfl)
theorem ok_X11_years : MtOk m_X11_years 1 := ⟨(inT_5 (i := 13) rfl rfl), (inT_1 (i := 1) rfl rfl), ⟨by decide, by decide⟩, by decide +kernel, by decide⟩
theorem im_X11_years : inW (.instanceMethod m_X11_years.1) := (inT_5 (i := 11) rfl rfl)
theorem se_X11_years : inW (.selects m_X11_years.1.cls m_X11_years.1 m_X11_years.1) := (inT_5 (i := 12) rfl rfl)
theorem ok_X11_draw : MtOk m_X11_draw 1 := ⟨(inT_5 (i := 17) rfl rfl), (inT_1 (i := 1) rfl rfl), ⟨by decide, by decide⟩, by decide +kernel, by decide⟩
theorem im_X11_draw : inW (.instanceMethod m_X11_draw.1) := (inT_5 (i := 16) rfl rfl)
theorem se_X11_draw : inW (.selects m_X11_draw.1.cls m_X11_draw.1 m_X11_draw.1) := (inS_3 (i := 3) (n := 20) rfl)
theorem ok_X11_stone : MtOk m_X11_stone 2 := ⟨(inT_5 (i := 23) rfl rfl), (inT_1 (i := 1) rfl rfl), ⟨by decide, by decide⟩, by decide +kernel, by decide⟩
theorem im_X11_stone : inW (.instanceMethod m_X11_stone.1) := (inT_5 (i := 21) rfl rfl)
theorem se_X11_stone : inW (.selects m_X11_stone.1.cls m_X11_stone.1 m_X11_stone.1) := (inT_5 (i := 22) rfl rfl)
theorem ok_X11_rake : MtOk m_X11_rake 4 := ⟨(inT_5 (i := 27) rfl rfl), (inT_1 (i := 1) rfl rfl), ⟨by decide, by decide⟩, by decide +kernel, by decide⟩
theorem im_X11_rake : inW (.instanceMethod m_X11_rake.1) := (inT_5 (i := 25) rfl rfl)
theorem se_X11_rake : inW (.selects m_X11_rake.1.cls m_X11_rake.1 m_X11_rake.1) := (inT_5 (i := 26) rfl rfl)
theorem ok_X11_undo : MtOk m_X11_undo 0 := ⟨(inT_5 (i := 31) rfl rfl), (inT_1 (i := 1) rfl rfl), ⟨by decide, by decide⟩, by decide +kernel, by decide⟩
theorem im_X11_undo : inW (.instanceMethod m_X11_undo.1) := (inT_5 (i := 29) rfl rfl)
theorem se_X11_undo : inW (.selects m_X11_undo.1.cls m_X11_undo.1 m_X11_undo.1) := (inT_5 (i := 30) rfl rfl)
theorem ok_X5_giveBack : MtOk m_X5_giveBack 1 := ⟨(inT_5 (i := 35) rfl rfl), (inT_1 (i := 9) rfl rfl), ⟨by decide, by decide⟩, by decide +kernel, by decide⟩
theorem im_X5_giveBack : inW (.instanceMethod m_X5_giveBack.1) := (inT_5 (i := 33) rfl rfl)
theorem se_X5_giveBack : inW (.selects m_X5_giveBack.1.cls m_X5_giveBack.1 m_X5_giveBack.1) := (inT_5 (i := 34) rfl rfl)
theorem ok_X11_seed : MtOk m_X11_seed 1 := ⟨(inT_5 (i := 39) rfl rfl), (inT_1 (i := 1) rfl rfl), ⟨by decide, by decide⟩, by decide +kernel, by decide⟩
theorem im_X11_seed : inW (.instanceMethod m_X11_seed.1) := (inT_5 (i := 37) rfl rfl)
theorem se_X11_seed : inW (.selects m_X11_seed.1.cls m_X11_seed.1 m_X11_seed.1) := (inT_5 (i := 38) rfl rfl)
theorem ok_X11_mine : MtOk m_X11_mine 5 := ⟨(inT_5 (i := 43) rfl rfl), (inT_1 (i := 1) rfl rfl), ⟨by decide, by decide⟩, by decide +kernel, by decide⟩
theorem im_X11_mine : inW (.instanceMethod m_X11_mine.1) := (inT_5 (i := 41) rfl rfl)
theorem se_X11_mine : inW (.selects m_X11_mine.1.cls m_X11_mine.1 m_X11_mine.1) := (inT_5 (i := 42) rfl rfl)
theorem ok_X11_isStoneQuestion : MtOk m_X11_isStoneQuestion 1 := ⟨(inT_5 (i := 47) rfl rfl), (inT_1 (i := 1) rfl rfl), ⟨by decide, by decide⟩, by decide +kernel, by decide⟩
theorem im_X11_isStoneQuestion : inW (.instanceMethod m_X11_isStoneQuestion.1) := (inT_5 (i := 46) rfl rfl)
theorem se_X11_isStoneQuestion : inW (.selects m_X11_isStoneQuestion.1.cls m_X11_isStoneQuestion.1 m_X11_isStoneQuestion.1) := (inS_3 (i := 4) (n := 20) rfl)
theorem ok_X3_seekShare : MtOk m_X3_seekShare 3 := ⟨(inT_5 (i := 51) rfl rfl), (inT_1 (i := 13) rfl rfl), ⟨by decide, by decide⟩, by decide +kernel, by decide⟩
theorem im_X3_seekShare : inW (.instanceMethod m_X3_seekShare.1) := (inT_5 (i := 49) rfl rfl)
theorem se_X3_seekShare : inW (.selects m_X3_seekShare.1.cls m_X3_seekShare.1 m_X3_seekShare.1) := (inT_5 (i := 50) rfl rfl)
theorem ok_X3_begin : MtOk m_X3_begin 0 := ⟨(inT_5 (i := 55) rfl rfl), (inT_1 (i := 13) rfl rfl), ⟨by decide, by decide⟩, by decide +kernel, by decide⟩
theorem im_X3_begin : inW (.instanceMethod m_X3_begin.1) := (inT_5 (i := 54) rfl rfl)
theorem se_X3_begin : inW (.selects m_X3_begin.1.cls m_X3_begin.1 m_X3_begin.1) := (inS_3 (i := 5) (n := 3) rfl)
theorem ok_X0_shareLeft : MtOk m_X0_shareLeft 2 := ⟨(inT_5 (i := 61) rfl rfl), (inT_1 (i := 12) rfl rfl), ⟨by decide, by decide⟩, by decide +kernel, by decide⟩
theorem im_X0_shareLeft : inW (.instanceMethod m_X0_shareLeft.1) := (inT_5 (i := 59) rfl rfl)
theorem se_X0_shareLeft : inW (.selects m_X0_shareLeft.1.cls m_X0_shareLeft.1 m_X0_shareLeft.1) := (inT_5 (i := 60) rfl rfl)
theorem ok_X0_leftIn : MtOk m_X0_leftIn 1 := ⟨(inT_5 (i := 66) rfl rfl), (inT_1 (i := 12) rfl rfl), ⟨by decide, by decide⟩, by decide +kernel, by decide⟩
theorem im_X0_leftIn : inW (.instanceMethod m_X0_leftIn.1) := (inT_5 (i := 64) rfl rfl)
theorem se_X0_leftIn : inW (.selects m_X0_leftIn.1.cls m_X0_leftIn.1 m_X0_leftIn.1) := (inT_5 (i := 65) rfl rfl)
theorem ok_X3_keepBest : MtOk m_X3_keepBest 0 := ⟨(inT_5 (i := 72) rfl rfl), (inT_1 (i := 13) rfl rfl), ⟨by decide, by decide⟩, by decide +kernel, by decide⟩
theorem im_X3_keepBest : inW (.instanceMethod m_X3_keepBest.1) := (inT_5 (i := 71) rfl rfl)
theorem se_X3_keepBest : inW (.selects m_X3_keepBest.1.cls m_X3_keepBest.1 m_X3_keepBest.1) := (inS_3 (i := 6) (n := 3) rfl)
theorem ok_X3_countUp : MtOk m_X3_countUp 1 := ⟨(inT_5 (i := 77) rfl rfl), (inT_1 (i := 13) rfl rfl), ⟨by decide, by decide⟩, by decide +kernel, by decide⟩
theorem im_X3_countUp : inW (.instanceMethod m_X3_countUp.1) := (inT_5 (i := 76) rfl rfl)
theorem se_X3_countUp : inW (.selects m_X3_countUp.1.cls m_X3_countUp.1 m_X3_countUp.1) := (inS_3 (i := 7) (n := 3) rfl)
theorem ok_X3_answer : MtOk m_X3_answer 1 := ⟨(inT_5 (i := 82) rfl rfl), (inT_1 (i := 13) rfl rfl), ⟨by decide, by decide⟩, by decide +kernel, by decide⟩
theorem im_X3_answer : inW (.instanceMethod m_X3_answer.1) := (inT_5 (i := 80) rfl rfl)
theorem se_X3_answer : inW (.selects m_X3_answer.1.cls m_X3_answer.1 m_X3_answer.1) := (inT_5 (i := 81) rfl rfl)
theorem ok_X11_keep : MtOk m_X11_keep 4 := ⟨(inT_5 (i := 86) rfl rfl), (inT_1 (i := 1) rfl rfl), ⟨by decide, by decide⟩, by decide +kernel, by decide⟩
theorem im_X11_keep : inW (.instanceMethod m_X11_keep.1) := (inT_5 (i := 84) rfl rfl)
theorem se_X11_keep : inW (.selects m_X11_keep.1.cls m_X11_keep.1 m_X11_keep.1) := (inT_5 (i := 85) rfl rfl)
theorem ok_X3_seekHeld : MtOk m_X3_seekHeld 2 := ⟨(inT_5 (i := 90) rfl rfl), (inT_1 (i := 13) rfl rfl), ⟨by decide, by decide⟩, by decide +kernel, by decide⟩
theorem im_X3_seekHeld : inW (.instanceMethod m_X3_seekHeld.1) := (inT_5 (i := 88) rfl rfl)
theorem se_X3_seekHeld : inW (.selects m_X3_seekHeld.1.cls m_X3_seekHeld.1 m_X3_seekHeld.1) := (inT_5 (i := 89) rfl rfl)
theorem ok_X11_until : MtOk m_X11_until 3 := ⟨(inT_5 (i := 95) rfl rfl), (inT_1 (i := 1) rfl rfl), ⟨by decide, by decide⟩, by decide +kernel, by decide⟩
theorem im_X11_until : inW (.instanceMethod m_X11_until.1) := (inT_5 (i := 93) rfl rfl)
theorem se_X11_until : inW (.selects m_X11_until.1.cls m_X11_until.1 m_X11_until.1) := (inT_5 (i := 94) rfl rfl)
theorem ok_X9_copy : MtOk m_X9_copy 1 := ⟨(inT_5 (i := 99) rfl rfl), (inT_1 (i := 8) rfl rfl), ⟨by decide, by decide⟩, by decide +kernel, by decide⟩
theorem im_X9_copy : inW (.instanceMethod m_X9_copy.1) := (inT_5 (i := 97) rfl rfl)
theorem se_X9_copy : inW (.selects m_X9_copy.1.cls m_X9_copy.1 m_X9_copy.1) := (inT_5 (i := 98) rfl rfl)
theorem ok_X11_find : MtOk m_X11_find 0 := ⟨(inT_5 (i := 104) rfl rfl), (inT_1 (i := 1) rfl rfl), ⟨by decide, by decide⟩, by decide +kernel, by decide⟩
theorem im_X11_find : inW (.instanceMethod m_X11_find.1) := (inT_5 (i := 102) rfl rfl)
theorem se_X11_find : inW (.selects m_X11_find.1.cls m_X11_find.1 m_X11_find.1) := (inT_5 (i := 103) rfl rfl)
theorem ok_X10_twoAt : MtOk m_X10_twoAt 1 := ⟨(inT_5 (i := 108) rfl rfl), (inT_1 (i := 2) rfl rfl), ⟨by decide, by decide⟩, by decide +kernel, by decide⟩
theorem im_X10_twoAt : inW (.instanceMethod m_X10_twoAt.1) := (inT_5 (i := 106) rfl rfl)
theorem se_X10_twoAt : inW (.selects m_X10_twoAt.1.cls m_X10_twoAt.1 m_X10_twoAt.1) := (inT_5 (i := 107) rfl rfl)
theorem ok_X11_levels : MtOk m_X11_levels 0 := ⟨(inT_5 (i := 112) rfl rfl), (inT_1 (i := 1) rfl rfl), ⟨by decide, by decide⟩, by decide +kernel, by decide⟩
theorem im_X11_levels : inW (.instanceMethod m_X11_levels.1) := (inT_5 (i := 110) rfl rfl)
theorem se_X11_levels : inW (.selects m_X11_levels.1.cls m_X11_levels.1 m_X11_levels.1) := (inT_5 (i := 111) rfl rfl)
theorem ok_X11_isAsFound : MtOk m_X11_isAsFound 0 := ⟨(inT_5 (i := 116) rfl rfl), (inT_1 (i := 1) rfl rfl), ⟨by decide, by decide⟩, by decide +kernel, by decide⟩
theorem im_X11_isAsFound : inW (.instanceMethod m_X11_isAsFound.1) := (inT_5 (i := 115) rfl rfl)
theorem se_X11_isAsFound : inW (.selects m_X11_isAsFound.1.cls m_X11_isAsFound.1 m_X11_isAsFound.1) := (inS_3 (i := 8) (n := 20) rfl)
theorem ok_X11_forged : MtOk m_X11_forged 1 := ⟨(inT_5 (i := 121) rfl rfl), (inT_1 (i := 1) rfl rfl), ⟨by decide, by decide⟩, by decide +kernel, by decide⟩
theorem im_X11_forged : inW (.instanceMethod m_X11_forged.1) := (inT_5 (i := 119) rfl rfl)
theorem se_X11_forged : inW (.selects m_X11_forged.1.cls m_X11_forged.1 m_X11_forged.1) := (inT_5 (i := 120) rfl rfl)
theorem ok_X11_toldAbove : MtOk m_X11_toldAbove 1 := ⟨(inT_5 (i := 125) rfl rfl), (inT_1 (i := 1) rfl rfl), ⟨by decide, by decide⟩, by decide +kernel, by decide⟩
theorem im_X11_toldAbove : inW (.instanceMethod m_X11_toldAbove.1) := (inT_5 (i := 124) rfl rfl)
theorem se_X11_toldAbove : inW (.selects m_X11_toldAbove.1.cls m_X11_toldAbove.1 m_X11_toldAbove.1) := (inS_3 (i := 9) (n := 20) rfl)
theorem ok_X11_ask : MtOk m_X11_ask 0 := ⟨(inT_5 (i := 130) rfl rfl), (inT_1 (i := 1) rfl rfl), ⟨by decide, by decide⟩, by decide +kernel, by decide⟩
theorem im_X11_ask : inW (.instanceMethod m_X11_ask.1) := (inT_5 (i := 128) rfl rfl)
theorem se_X11_ask : inW (.selects m_X11_ask.1.cls m_X11_ask.1 m_X11_ask.1) := (inT_5 (i := 129) rfl rfl)
theorem ok_X2_question : MtOk m_X2_question 0 := ⟨(inT_5 (i := 135) rfl rfl), (inT_1 (i := 4) rfl rfl), ⟨by decide, by decide⟩, by decide +kernel, by decide⟩
theorem im_X2_question : inW (.instanceMethod m_X2_question.1) := (inT_5 (i := 133) rfl rfl)
theorem se_X2_question : inW (.selects m_X2_question.1.cls m_X2_question.1 m_X2_question.1) := (inT_5 (i := 134) rfl rfl)
theorem ok_X2_kind : MtOk m_X2_kind 0 := ⟨(inT_5 (i := 139) rfl rfl), (inT_1 (i := 4) rfl rfl), ⟨by decide, by decide⟩, by decide +kernel, by decide⟩
theorem im_X2_kind : inW (.instanceMethod m_X2_kind.1) := (inT_5 (i := 138) rfl rfl)
theorem se_X2_kind : inW (.selects m_X2_kind.1.cls m_X2_kind.1 m_X2_kind.1) := (inS_3 (i := 10) (n := 5) rfl)
theorem ok_X2_test : MtOk m_X2_test 0 := ⟨(inT_5 (i := 149) rfl rfl), (inT_1 (i := 4) rfl rfl), ⟨by decide, by decide⟩, by decide +kernel, by decide⟩
theorem im_X2_test : inW (.instanceMethod m_X2_test.1) := (inT_5 (i := 148) rfl rfl)
theorem se_X2_test : inW (.selects m_X2_test.1.cls m_X2_test.1 m_X2_test.1) := (inS_3 (i := 11) (n := 5) rfl)
theorem ok_X2_both : MtOk m_X2_both 0 := ⟨(inT_5 (i := 153) rfl rfl), (inT_1 (i := 4) rfl rfl), ⟨by decide, by decide⟩, by decide +kernel, by decide⟩
theorem im_X2_both : inW (.instanceMethod m_X2_both.1) := (inT_5 (i := 152) rfl rfl)
theorem se_X2_both : inW (.selects m_X2_both.1.cls m_X2_both.1 m_X2_both.1) := (inS_3 (i := 12) (n := 5) rfl)
theorem ok_X2_fact : MtOk m_X2_fact 0 := ⟨(inT_5 (i := 157) rfl rfl), (inT_1 (i := 4) rfl rfl), ⟨by decide, by decide⟩, by decide +kernel, by decide⟩
theorem im_X2_fact : inW (.instanceMethod m_X2_fact.1) := (inT_5 (i := 156) rfl rfl)
theorem se_X2_fact : inW (.selects m_X2_fact.1.cls m_X2_fact.1 m_X2_fact.1) := (inS_3 (i := 13) (n := 5) rfl)
theorem ok_X2_comparison : MtOk m_X2_comparison 0 := ⟨(inT_5 (i := 163) rfl rfl), (inT_1 (i := 4) rfl rfl), ⟨by decide, by decide⟩, by decide +kernel, by decide⟩
theorem im_X2_comparison : inW (.instanceMethod m_X2_comparison.1) := (inT_5 (i := 162) rfl rfl)
theorem se_X2_comparison : inW (.selects m_X2_comparison.1.cls m_X2_comparison.1 m_X2_comparison.1) := (inS_3 (i := 14) (n := 5) rfl)
theorem ok_X11_answer : MtOk m_X11_answer 1 := ⟨(inT_5 (i := 170) rfl rfl), (inT_1 (i := 1) rfl rfl), ⟨by decide, by decide⟩, by decide +kernel, by decide⟩
theorem im_X11_answer : inW (.instanceMethod m_X11_answer.1) := (inT_5 (i := 169) rfl rfl)
theorem se_X11_answer : inW (.selects m_X11_answer.1.cls m_X11_answer.1 m_X11_answer.1) := (inS_3 (i := 15) (n := 20) rfl)
theorem ok_X0_tellAll : MtOk m_X0_tellAll 0 := ⟨(inT_5 (i := 176) rfl rfl), (inT_1 (i := 12) rfl rfl), ⟨by decide, by decide⟩, by decide +kernel, by decide⟩
theorem im_X0_tellAll : inW (.instanceMethod m_X0_tellAll.1) := (inT_5 (i := 174) rfl rfl)
theorem se_X0_tellAll : inW (.selects m_X0_tellAll.1.cls m_X0_tellAll.1 m_X0_tellAll.1) := (inT_5 (i := 175) rfl rfl)
theorem ok_X11_image : MtOk m_X11_image 0 := ⟨(inT_5 (i := 184) rfl rfl), (inT_1 (i := 1) rfl rfl), ⟨by decide, by decide⟩, by decide +kernel, by decide⟩
theorem im_X11_image : inW (.instanceMethod m_X11_image.1) := (inT_5 (i := 182) rfl rfl)
theorem se_X11_image : inW (.selects m_X11_image.1.cls m_X11_image.1 m_X11_image.1) := (inT_5 (i := 183) rfl rfl)
theorem ok_X11_writeTwo : MtOk m_X11_writeTwo 1 := ⟨(inT_5 (i := 188) rfl rfl), (inT_1 (i := 1) rfl rfl), ⟨by decide, by decide⟩, by decide +kernel, by decide⟩
theorem im_X11_writeTwo : inW (.instanceMethod m_X11_writeTwo.1) := (inT_5 (i := 187) rfl rfl)
theorem se_X11_writeTwo : inW (.selects m_X11_writeTwo.1.cls m_X11_writeTwo.1 m_X11_writeTwo.1) := (inS_4 (i := 0) (n := 20) rfl)
theorem ok_X11_write : MtOk m_X11_write 1 := ⟨(inT_5 (i := 192) rfl rfl), (inT_1 (i := 1) rfl rfl), ⟨by decide, by decide⟩, by decide +kernel, by decide⟩
theorem im_X11_write : inW (.instanceMethod m_X11_write.1) := (inT_5 (i := 191) rfl rfl)
theorem se_X11_write : inW (.selects m_X11_write.1.cls m_X11_write.1 m_X11_write.1) := (inS_4 (i := 1) (n := 20) rfl)
theorem ok_X11_checkBehind : MtOk m_X11_checkBehind 2 := ⟨(inT_5 (i := 195) rfl rfl), (inT_1 (i := 1) rfl rfl), ⟨by decide, by decide⟩, by decide +kernel, by decide⟩
theorem sm_X11_checkBehind : inW (.static m_X11_checkBehind.1) := (inT_5 (i := 194) rfl rfl)
theorem ok_X11_octet : MtOk m_X11_octet 1 := ⟨(inT_5 (i := 199) rfl rfl), (inT_1 (i := 1) rfl rfl), ⟨by decide, by decide⟩, by decide +kernel, by decide⟩
theorem im_X11_octet : inW (.instanceMethod m_X11_octet.1) := (inT_5 (i := 197) rfl rfl)
theorem se_X11_octet : inW (.selects m_X11_octet.1.cls m_X11_octet.1 m_X11_octet.1) := (inT_5 (i := 198) rfl rfl)
theorem ok_X11_on : MtOk m_X11_on 0 := ⟨(inT_5 (i := 203) rfl rfl), (inT_1 (i := 1) rfl rfl), ⟨by decide, by decide⟩, by decide +kernel, by decide⟩
theorem im_X11_on : inW (.instanceMethod m_X11_on.1) := (inT_5 (i := 201) rfl rfl)
theorem se_X11_on : inW (.selects m_X11_on.1.cls m_X11_on.1 m_X11_on.1) := (inT_5 (i := 202) rfl rfl)
theorem ok_X11_isImage : MtOk m_X11_isImage 0 := ⟨(inT_5 (i := 207) rfl rfl), (inT_1 (i := 1) rfl rfl), ⟨by decide, by decide⟩, by decide +kernel, by decide⟩
theorem im_X11_isImage : inW (.instanceMethod m_X11_isImage.1) := (inT_5 (i := 206) rfl rfl)
theorem se_X11_isImage : inW (.selects m_X11_isImage.1.cls m_X11_isImage.1 m_X11_isImage.1) := (inS_4 (i := 2) (n := 20) rfl)
theorem ok_X11_isChecked : MtOk m_X11_isChecked 0 := ⟨(inT_5 (i := 211) rfl rfl), (inT_1 (i := 1) rfl rfl), ⟨by decide, by decide⟩, by decide +kernel, by decide⟩
theorem im_X11_isChecked : inW (.instanceMethod m_X11_isChecked.1) := (inT_5 (i := 210) rfl rfl)
theorem se_X11_isChecked : inW (.selects m_X11_isChecked.1.cls m_X11_isChecked.1 m_X11_isChecked.1) := (inS_4 (i := 3) (n := 20) rfl)
theorem ok_X11_readTrial : MtOk m_X11_readTrial 1 := ⟨(inT_5 (i := 216) rfl rfl), (inT_1 (i := 1) rfl rfl), ⟨by decide, by decide⟩, by decide +kernel, by decide⟩
theorem im_X11_readTrial : inW (.instanceMethod m_X11_readTrial.1) := (inT_5 (i := 215) rfl rfl)
theorem se_X11_readTrial : inW (.selects m_X11_readTrial.1.cls m_X11_readTrial.1 m_X11_readTrial.1) := (inS_4 (i := 4) (n := 20) rfl)
theorem ok_X11_status : MtOk m_X11_status 1 := ⟨(inT_5 (i := 220) rfl rfl), (inT_1 (i := 1) rfl rfl), ⟨by decide, by decide⟩, by decide +kernel, by decide⟩
theorem im_X11_status : inW (.instanceMethod m_X11_status.1) := (inT_5 (i := 218) rfl rfl)
theorem se_X11_status : inW (.selects m_X11_status.1.cls m_X11_status.1 m_X11_status.1) := (inT_5 (i := 219) rfl rfl)
theorem ok_X12_init : MtOk m_X12_init 0 := ⟨(inT_5 (i := 225) rfl rfl), (inT_1 (i := 14) rfl rfl), ⟨by decide, by decide⟩, by decide +kernel, by decide⟩
theorem im_X12_init : inW (.instanceMethod m_X12_init.1) := (inT_5 (i := 224) rfl rfl)
theorem ok_X12_feed : MtOk m_X12_feed 5 := ⟨(inT_7 (i := 47) rfl rfl), (inT_1 (i := 14) rfl rfl), ⟨by decide, by decide⟩, by decide +kernel, by decide⟩
theorem im_X12_feed : inW (.instanceMethod m_X12_feed.1) := (inT_7 (i := 45) rfl rfl)
theorem se_X12_feed : inW (.selects m_X12_feed.1.cls m_X12_feed.1 m_X12_feed.1) := (inT_7 (i := 46) rfl rfl)
theorem ok_X12_end : MtOk m_X12_end 1 := ⟨(inT_7 (i := 51) rfl rfl), (inT_1 (i := 14) rfl rfl), ⟨by decide, by decide⟩, by decide +kernel, by decide⟩
theorem im_X12_end : inW (.instanceMethod m_X12_end.1) := (inT_7 (i := 49) rfl rfl)
theorem se_X12_end : inW (.selects m_X12_end.1.cls m_X12_end.1 m_X12_end.1) := (inT_7 (i := 50) rfl rfl)
theorem ok_X12_river : MtOk m_X12_river 0 := ⟨(inT_7 (i := 55) rfl rfl), (inT_1 (i := 14) rfl rfl), ⟨by decide, by decide⟩, by decide +kernel, by decide⟩
theorem im_X12_river : inW (.instanceMethod m_X12_river.1) := (inT_7 (i := 53) rfl rfl)
theorem se_X12_river : inW (.selects m_X12_river.1.cls m_X12_river.1 m_X12_river.1) := (inT_7 (i := 54) rfl rfl)
theorem ok_X12_asks : MtOk m_X12_asks 1 := ⟨(inT_7 (i := 59) rfl rfl), (inT_1 (i := 14) rfl rfl), ⟨by decide, by decide⟩, by decide +kernel, by decide⟩
theorem im_X12_asks : inW (.instanceMethod m_X12_asks.1) := (inT_7 (i := 58) rfl rfl)
theorem se_X12_asks : inW (.selects m_X12_asks.1.cls m_X12_asks.1 m_X12_asks.1) := (inS_4 (i := 5) (n := 98) rfl)
theorem ok_X12_takes : MtOk m_X12_takes 1 := ⟨(inT_7 (i := 63) rfl rfl), (inT_1 (i := 14) rfl rfl), ⟨by decide, by decide⟩, by decide +kernel, by decide⟩
theorem im_X12_takes : inW (.instanceMethod m_X12_takes.1) := (inT_7 (i := 62) rfl rfl)
theorem se_X12_takes : inW (.selects m_X12_takes.1.cls m_X12_takes.1 m_X12_takes.1) := (inS_4 (i := 6) (n := 98) rfl)
theorem ok_X12_isHere : MtOk m_X12_isHere 1 := ⟨(inT_7 (i := 67) rfl rfl), (inT_1 (i := 14) rfl rfl), ⟨by decide, by decide⟩, by decide +kernel, by decide⟩
theorem im_X12_isHere : inW (.instanceMethod m_X12_isHere.1) := (inT_7 (i := 66) rfl rfl)
theorem se_X12_isHere : inW (.selects m_X12_isHere.1.cls m_X12_isHere.1 m_X12_isHere.1) := (inS_4 (i := 7) (n := 98) rfl)
theorem ok_X12_look : MtOk m_X12_look 0 := ⟨(inT_7 (i := 71) rfl rfl), (inT_1 (i := 14) rfl rfl), ⟨by decide, by decide⟩, by decide +kernel, by decide⟩
theorem im_X12_look : inW (.instanceMethod m_X12_look.1) := (inT_7 (i := 70) rfl rfl)
theorem se_X12_look : inW (.selects m_X12_look.1.cls m_X12_look.1 m_X12_look.1) := (inS_4 (i := 8) (n := 98) rfl)
theorem ok_X12_isLetter : MtOk m_X12_isLetter 1 := ⟨(inT_7 (i := 74) rfl rfl), (inT_1 (i := 14) rfl rfl), ⟨by decide, by decide⟩, by decide +kernel, by decide⟩
theorem sm_X12_isLetter : inW (.static m_X12_isLetter.1) := (inT_7 (i := 73) rfl rfl)
theorem ok_X12_fail : MtOk m_X12_fail 2 := ⟨(inT_7 (i := 78) rfl rfl), (inT_1 (i := 14) rfl rfl), ⟨by decide, by decide⟩, by decide +kernel, by decide⟩
theorem im_X12_fail : inW (.instanceMethod m_X12_fail.1) := (inT_7 (i := 77) rfl rfl)
theorem se_X12_fail : inW (.selects m_X12_fail.1.cls m_X12_fail.1 m_X12_fail.1) := (inS_4 (i := 9) (n := 98) rfl)
theorem ok_X12_number : MtOk m_X12_number 2 := ⟨(inT_7 (i := 82) rfl rfl), (inT_1 (i := 14) rfl rfl), ⟨by decide, by decide⟩, by decide +kernel, by decide⟩
theorem im_X12_number : inW (.instanceMethod m_X12_number.1) := (inT_7 (i := 81) rfl rfl)
theorem se_X12_number : inW (.selects m_X12_number.1.cls m_X12_number.1 m_X12_number.1) := (inS_4 (i := 10) (n := 98) rfl)
theorem ok_X12_isDigit : MtOk m_X12_isDigit 1 := ⟨(inT_7 (i := 85) rfl rfl), (inT_1 (i := 14) rfl rfl), ⟨by decide, by decide⟩, by decide +kernel, by decide⟩
theorem sm_X12_isDigit : inW (.static m_X12_isDigit.1) := (inT_7 (i := 84) rfl rfl)
theorem ok_X12_isIn : MtOk m_X12_isIn 3 := ⟨(inT_7 (i := 88) rfl rfl), (inT_1 (i := 14) rfl rfl), ⟨by decide, by decide⟩, by decide +kernel, by decide⟩
theorem sm_X12_isIn : inW (.static m_X12_isIn.1) := (inT_7 (i := 87) rfl rfl)
theorem ok_X12_asksSign : MtOk m_X12_asksSign 1 := ⟨(inT_7 (i := 92) rfl rfl), (inT_1 (i := 14) rfl rfl), ⟨by decide, by decide⟩, by decide +kernel, by decide⟩
theorem im_X12_asksSign : inW (.instanceMethod m_X12_asksSign.1) := (inT_7 (i := 91) rfl rfl)
theorem se_X12_asksSign : inW (.selects m_X12_asksSign.1.cls m_X12_asksSign.1 m_X12_asksSign.1) := (inS_4 (i := 11) (n := 98) rfl)
theorem ok_X12_takesSign : MtOk m_X12_takesSign 1 := ⟨(inT_7 (i := 96) rfl rfl), (inT_1 (i := 14) rfl rfl), ⟨by decide, by decide⟩, by decide +kernel, by decide⟩
theorem im_X12_takesSign : inW (.instanceMethod m_X12_takesSign.1) := (inT_7 (i := 95) rfl rfl)
theorem se_X12_takesSign : inW (.selects m_X12_takesSign.1.cls m_X12_takesSign.1 m_X12_takesSign.1) := (inS_4 (i := 12) (n := 98) rfl)
theorem ok_X12_statementTold : MtOk m_X12_statementTold 0 := ⟨(inT_7 (i := 100) rfl rfl), (inT_1 (i := 14) rfl rfl), ⟨by decide, by decide⟩, by decide +kernel, by decide⟩
theorem im_X12_statementTold : inW (.instanceMethod m_X12_statementTold.1) := (inT_7 (i := 99) rfl rfl)
theorem se_X12_statementTold : inW (.selects m_X12_statementTold.1.cls m_X12_statementTold.1 m_X12_statementTold.1) := (inS_4 (i := 13) (n := 98) rfl)
theorem ok_X12_slopeTold : MtOk m_X12_slopeTold 0 := ⟨(inT_7 (i := 104) rfl rfl), (inT_1 (i := 14) rfl rfl), ⟨by decide, by decide⟩, by decide +kernel, by decide⟩
theorem im_X12_slopeTold : inW (.instanceMethod m_X12_slopeTold.1) := (inT_7 (i := 103) rfl rfl)
theorem se_X12_slopeTold : inW (.selects m_X12_slopeTold.1.cls m_X12_slopeTold.1 m_X12_slopeTold.1) := (inS_4 (i := 14) (n := 98) rfl)
theorem ok_X12_newNamed : MtOk m_X12_newNamed 3 := ⟨(inT_7 (i := 108) rfl rfl), (inT_1 (i := 14) rfl rfl), ⟨by decide, by decide⟩, by decide +kernel, by decide⟩
theorem im_X12_newNamed : inW (.instanceMethod m_X12_newNamed.1) := (inT_7 (i := 107) rfl rfl)
theorem se_X12_newNamed : inW (.selects m_X12_newNamed.1.cls m_X12_newNamed.1 m_X12_newNamed.1) := (inS_4 (i := 15) (n := 98) rfl)
theorem ok_X12_isFull : MtOk m_X12_isFull 3 := ⟨(inT_7 (i := 112) rfl rfl), (inT_1 (i := 14) rfl rfl), ⟨by decide, by decide⟩, by decide +kernel, by decide⟩
theorem im_X12_isFull : inW (.instanceMethod m_X12_isFull.1) := (inT_7 (i := 111) rfl rfl)
theorem se_X12_isFull : inW (.selects m_X12_isFull.1.cls m_X12_isFull.1 m_X12_isFull.1) := (inS_5 (i := 0) (n := 98) rfl)
theorem ok_X12_newName : MtOk m_X12_newName 0 := ⟨(inT_7 (i := 116) rfl rfl), (inT_1 (i := 14) rfl rfl), ⟨by decide, by decide⟩, by decide +kernel, by decide⟩
theorem im_X12_newName : inW (.instanceMethod m_X12_newName.1) := (inT_7 (i := 115) rfl rfl)
theorem se_X12_newName : inW (.selects m_X12_newName.1.cls m_X12_newName.1 m_X12_newName.1) := (inS_5 (i := 1) (n := 98) rfl)
theorem ok_X12_name : MtOk m_X12_name 0 := ⟨(inT_7 (i := 120) rfl rfl), (inT_1 (i := 14) rfl rfl), ⟨by decide, by decide⟩, by decide +kernel, by decide⟩
theorem im_X12_name : inW (.instanceMethod m_X12_name.1) := (inT_7 (i := 119) rfl rfl)
theorem se_X12_name : inW (.selects m_X12_name.1.cls m_X12_name.1 m_X12_name.1) := (inS_5 (i := 2) (n := 98) rfl)
theorem ok_X12_isOwnHere : MtOk m_X12_isOwnHere 0 := ⟨(inT_7 (i := 124) rfl rfl), (inT_1 (i := 14) rfl rfl), ⟨by decide, by decide⟩, by decide +kernel, by decide⟩
theorem im_X12_isOwnHere : inW (.instanceMethod m_X12_isOwnHere.1) := (inT_7 (i := 123) rfl rfl)
theorem se_X12_isOwnHere : inW (.selects m_X12_isOwnHere.1.cls m_X12_isOwnHere.1 m_X12_isOwnHere.1) := (inS_5 (i := 3) (n := 98) rfl)
theorem ok_X12_nameOf : MtOk m_X12_nameOf 2 := ⟨(inT_7 (i := 130) rfl rfl), (inT_1 (i := 14) rfl rfl), ⟨by decide, by decide⟩, by decide +kernel, by decide⟩
theorem im_X12_nameOf : inW (.instanceMethod m_X12_nameOf.1) := (inT_7 (i := 129) rfl rfl)
theorem se_X12_nameOf : inW (.selects m_X12_nameOf.1.cls m_X12_nameOf.1 m_X12_nameOf.1) := (inS_5 (i := 4) (n := 98) rfl)
theorem ok_X12_bankTold : MtOk m_X12_bankTold 1 := ⟨(inT_7 (i := 134) rfl rfl), (inT_1 (i := 14) rfl rfl), ⟨by decide, by decide⟩, by decide +kernel, by decide⟩
theorem im_X12_bankTold : inW (.instanceMethod m_X12_bankTold.1) := (inT_7 (i := 133) rfl rfl)
theorem se_X12_bankTold : inW (.selects m_X12_bankTold.1.cls m_X12_bankTold.1 m_X12_bankTold.1) := (inS_5 (i := 5) (n := 98) rfl)
theorem ok_X12_oneOf : MtOk m_X12_oneOf 1 := ⟨(inT_7 (i := 138) rfl rfl), (inT_1 (i := 14) rfl rfl), ⟨by decide, by decide⟩, by decide +kernel, by decide⟩
theorem im_X12_oneOf : inW (.instanceMethod m_X12_oneOf.1) := (inT_7 (i := 137) rfl rfl)
theorem se_X12_oneOf : inW (.selects m_X12_oneOf.1.cls m_X12_oneOf.1 m_X12_oneOf.1) := (inS_5 (i := 6) (n := 98) rfl)
theorem ok_X12_sumIsTold : MtOk m_X12_sumIsTold 2 := ⟨(inT_7 (i := 142) rfl rfl), (inT_1 (i := 14) rfl rfl), ⟨by decide, by decide⟩, by decide +kernel, by decide⟩
theorem im_X12_sumIsTold : inW (.instanceMethod m_X12_sumIsTold.1) := (inT_7 (i := 141) rfl rfl)
theorem se_X12_sumIsTold : inW (.selects m_X12_sumIsTold.1.cls m_X12_sumIsTold.1 m_X12_sumIsTold.1) := (inS_5 (i := 7) (n := 98) rfl)
theorem ok_X12_sumsTold : MtOk m_X12_sumsTold 0 := ⟨(inT_7 (i := 146) rfl rfl), (inT_1 (i := 14) rfl rfl), ⟨by decide, by decide⟩, by decide +kernel, by decide⟩
theorem im_X12_sumsTold : inW (.instanceMethod m_X12_sumsTold.1) := (inT_7 (i := 145) rfl rfl)
theorem se_X12_sumsTold : inW (.selects m_X12_sumsTold.1.cls m_X12_sumsTold.1 m_X12_sumsTold.1) := (inS_5 (i := 8) (n := 98) rfl)
theorem ok_X12_onePart : MtOk m_X12_onePart 0 := ⟨(inT_7 (i := 150) rfl rfl), (inT_1 (i := 14) rfl rfl), ⟨by decide, by decide⟩, by decide +kernel, by decide⟩
theorem im_X12_onePart : inW (.instanceMethod m_X12_onePart.1) := (inT_7 (i := 149) rfl rfl)
theorem se_X12_onePart : inW (.selects m_X12_onePart.1.cls m_X12_onePart.1 m_X12_onePart.1) := (inS_5 (i := 9) (n := 98) rfl)
theorem ok_X12_opens : MtOk m_X12_opens 2 := ⟨(inT_7 (i := 154) rfl rfl), (inT_1 (i := 14) rfl rfl), ⟨by decide, by decide⟩, by decide +kernel, by decide⟩
theorem im_X12_opens : inW (.instanceMethod m_X12_opens.1) := (inT_7 (i := 153) rfl rfl)
theorem se_X12_opens : inW (.selects m_X12_opens.1.cls m_X12_opens.1 m_X12_opens.1) := (inS_5 (i := 10) (n := 98) rfl)
theorem ok_X12_code : MtOk m_X12_code 1 := ⟨(inT_7 (i := 158) rfl rfl), (inT_1 (i := 14) rfl rfl), ⟨by decide, by decide⟩, by decide +kernel, by decide⟩
theorem im_X12_code : inW (.instanceMethod m_X12_code.1) := (inT_7 (i := 157) rfl rfl)
theorem se_X12_code : inW (.selects m_X12_code.1.cls m_X12_code.1 m_X12_code.1) := (inS_5 (i := 11) (n := 98) rfl)
theorem ok_X12_goesOn : MtOk m_X12_goesOn 0 := ⟨(inT_7 (i := 162) rfl rfl), (inT_1 (i := 14) rfl rfl), ⟨by decide, by decide⟩, by decide +kernel, by decide⟩
theorem im_X12_goesOn : inW (.instanceMethod m_X12_goesOn.1) := (inT_7 (i := 161) rfl rfl)
theorem se_X12_goesOn : inW (.selects m_X12_goesOn.1.cls m_X12_goesOn.1 m_X12_goesOn.1) := (inS_5 (i := 12) (n := 98) rfl)
theorem ok_X12_waitsLast : MtOk m_X12_waitsLast 0 := ⟨(inT_7 (i := 166) rfl rfl), (inT_1 (i := 14) rfl rfl), ⟨by decide, by decide⟩, by decide +kernel, by decide⟩
theorem im_X12_waitsLast : inW (.instanceMethod m_X12_waitsLast.1) := (inT_7 (i := 165) rfl rfl)
theorem se_X12_waitsLast : inW (.selects m_X12_waitsLast.1.cls m_X12_waitsLast.1 m_X12_waitsLast.1) := (inS_5 (i := 13) (n := 98) rfl)
theorem ok_X12_isMark : MtOk m_X12_isMark 1 := ⟨(inT_7 (i := 170) rfl rfl), (inT_1 (i := 14) rfl rfl), ⟨by decide, by decide⟩, by decide +kernel, by decide⟩
theorem im_X12_isMark : inW (.instanceMethod m_X12_isMark.1) := (inT_7 (i := 169) rfl rfl)
theorem se_X12_isMark : inW (.selects m_X12_isMark.1.cls m_X12_isMark.1 m_X12_isMark.1) := (inS_5 (i := 14) (n := 98) rfl)
theorem ok_X12_dropsToMark : MtOk m_X12_dropsToMark 0 := ⟨(inT_7 (i := 174) rfl rfl), (inT_1 (i := 14) rfl rfl), ⟨by decide, by decide⟩, by decide +kernel, by decide⟩
theorem im_X12_dropsToMark : inW (.instanceMethod m_X12_dropsToMark.1) := (inT_7 (i := 173) rfl rfl)
theorem se_X12_dropsToMark : inW (.selects m_X12_dropsToMark.1.cls m_X12_dropsToMark.1 m_X12_dropsToMark.1) := (inS_5 (i := 15) (n := 98) rfl)
theorem ok_X12_drops : MtOk m_X12_drops 0 := ⟨(inT_7 (i := 178) rfl rfl), (inT_1 (i := 14) rfl rfl), ⟨by decide, by decide⟩, by decide +kernel, by decide⟩
theorem im_X12_drops : inW (.instanceMethod m_X12_drops.1) := (inT_7 (i := 177) rfl rfl)
theorem se_X12_drops : inW (.selects m_X12_drops.1.cls m_X12_drops.1 m_X12_drops.1) := (inS_6 (i := 0) (n := 98) rfl)
theorem ok_X12_isOn : MtOk m_X12_isOn 1 := ⟨(inT_7 (i := 182) rfl rfl), (inT_1 (i := 14) rfl rfl), ⟨by decide, by decide⟩, by decide +kernel, by decide⟩
theorem im_X12_isOn : inW (.instanceMethod m_X12_isOn.1) := (inT_7 (i := 181) rfl rfl)
theorem se_X12_isOn : inW (.selects m_X12_isOn.1.cls m_X12_isOn.1 m_X12_isOn.1) := (inS_6 (i := 1) (n := 98) rfl)
theorem ok_X12_stands : MtOk m_X12_stands 0 := ⟨(inT_7 (i := 186) rfl rfl), (inT_1 (i := 14) rfl rfl), ⟨by decide, by decide⟩, by decide +kernel, by decide⟩
theorem im_X12_stands : inW (.instanceMethod m_X12_stands.1) := (inT_7 (i := 185) rfl rfl)
theorem se_X12_stands : inW (.selects m_X12_stands.1.cls m_X12_stands.1 m_X12_stands.1) := (inS_6 (i := 2) (n := 98) rfl)
theorem ok_X12_fault : MtOk m_X12_fault 1 := ⟨(inT_7 (i := 190) rfl rfl), (inT_1 (i := 14) rfl rfl), ⟨by decide, by decide⟩, by decide +kernel, by decide⟩
theorem im_X12_fault : inW (.instanceMethod m_X12_fault.1) := (inT_7 (i := 188) rfl rfl)
theorem se_X12_fault : inW (.selects m_X12_fault.1.cls m_X12_fault.1 m_X12_fault.1) := (inT_7 (i := 189) rfl rfl)
theorem ok_X12_has : MtOk m_X12_has 1 := ⟨(inT_7 (i := 194) rfl rfl), (inT_1 (i := 14) rfl rfl), ⟨by decide, by decide⟩, by decide +kernel, by decide⟩
theorem im_X12_has : inW (.instanceMethod m_X12_has.1) := (inT_7 (i := 192) rfl rfl)
theorem se_X12_has : inW (.selects m_X12_has.1.cls m_X12_has.1 m_X12_has.1) := (inT_7 (i := 193) rfl rfl)
theorem ok_X12_ownerMany : MtOk m_X12_ownerMany 0 := ⟨(inT_7 (i := 198) rfl rfl), (inT_1 (i := 14) rfl rfl), ⟨by decide, by decide⟩, by decide +kernel, by decide⟩
theorem im_X12_ownerMany : inW (.instanceMethod m_X12_ownerMany.1) := (inT_7 (i := 197) rfl rfl)
theorem se_X12_ownerMany : inW (.selects m_X12_ownerMany.1.cls m_X12_ownerMany.1 m_X12_ownerMany.1) := (inS_6 (i := 3) (n := 98) rfl)
theorem ok_X12_colourMany : MtOk m_X12_colourMany 0 := ⟨(inT_7 (i := 202) rfl rfl), (inT_1 (i := 14) rfl rfl), ⟨by decide, by decide⟩, by decide +kernel, by decide⟩
theorem im_X12_colourMany : inW (.instanceMethod m_X12_colourMany.1) := (inT_7 (i := 201) rfl rfl)
theorem se_X12_colourMany : inW (.selects m_X12_colourMany.1.cls m_X12_colourMany.1 m_X12_colourMany.1) := (inS_6 (i := 4) (n := 98) rfl)
theorem ok_X12_bankMany : MtOk m_X12_bankMany 0 := ⟨(inT_7 (i := 206) rfl rfl), (inT_1 (i := 14) rfl rfl), ⟨by decide, by decide⟩, by decide +kernel, by decide⟩
theorem im_X12_bankMany : inW (.instanceMethod m_X12_bankMany.1) := (inT_7 (i := 205) rfl rfl)
theorem se_X12_bankMany : inW (.selects m_X12_bankMany.1.cls m_X12_bankMany.1 m_X12_bankMany.1) := (inS_6 (i := 5) (n := 98) rfl)
theorem ok_X12_settingOf : MtOk m_X12_settingOf 1 := ⟨(inT_7 (i := 210) rfl rfl), (inT_1 (i := 14) rfl rfl), ⟨by decide, by decide⟩, by decide +kernel, by decide⟩
theorem im_X12_settingOf : inW (.instanceMethod m_X12_settingOf.1) := (inT_7 (i := 209) rfl rfl)
theorem se_X12_settingOf : inW (.selects m_X12_settingOf.1.cls m_X12_settingOf.1 m_X12_settingOf.1) := (inS_6 (i := 6) (n := 98) rfl)
theorem ok_X12_sumNow : MtOk m_X12_sumNow 2 := ⟨(inT_7 (i := 214) rfl rfl), (inT_1 (i := 14) rfl rfl), ⟨by decide, by decide⟩, by decide +kernel, by decide⟩
theorem im_X12_sumNow : inW (.instanceMethod m_X12_sumNow.1) := (inT_7 (i := 213) rfl rfl)
theorem se_X12_sumNow : inW (.selects m_X12_sumNow.1.cls m_X12_sumNow.1 m_X12_sumNow.1) := (inS_6 (i := 7) (n := 98) rfl)
theorem ok_X12_letter : MtOk m_X12_letter 3 := ⟨(inT_7 (i := 218) rfl rfl), (inT_1 (i := 14) rfl rfl), ⟨by decide, by decide⟩, by decide +kernel, by decide⟩
theorem im_X12_letter : inW (.instanceMethod m_X12_letter.1) := (inT_7 (i := 216) rfl rfl)
theorem se_X12_letter : inW (.selects m_X12_letter.1.cls m_X12_letter.1 m_X12_letter.1) := (inT_7 (i := 217) rfl rfl)
theorem ok_X12_bank : MtOk m_X12_bank 2 := ⟨(inT_7 (i := 224) rfl rfl), (inT_1 (i := 14) rfl rfl), ⟨by decide, by decide⟩, by decide +kernel, by decide⟩
theorem im_X12_bank : inW (.instanceMethod m_X12_bank.1) := (inT_7 (i := 222) rfl rfl)
theorem se_X12_bank : inW (.selects m_X12_bank.1.cls m_X12_bank.1 m_X12_bank.1) := (inT_7 (i := 223) rfl rfl)
theorem ok_X12_isBank : MtOk m_X12_isBank 1 := ⟨(inT_7 (i := 228) rfl rfl), (inT_1 (i := 14) rfl rfl), ⟨by decide, by decide⟩, by decide +kernel, by decide⟩
theorem im_X12_isBank : inW (.instanceMethod m_X12_isBank.1) := (inT_7 (i := 227) rfl rfl)
theorem se_X12_isBank : inW (.selects m_X12_isBank.1.cls m_X12_isBank.1 m_X12_isBank.1) := (inS_6 (i := 8) (n := 98) rfl)
theorem ok_X12_bankOf : MtOk m_X12_bankOf 2 := ⟨(inT_7 (i := 232) rfl rfl), (inT_1 (i := 14) rfl rfl), ⟨by decide, by decide⟩, by decide +kernel, by decide⟩
theorem im_X12_bankOf : inW (.instanceMethod m_X12_bankOf.1) := (inT_7 (i := 231) rfl rfl)
theorem se_X12_bankOf : inW (.selects m_X12_bankOf.1.cls m_X12_bankOf.1 m_X12_bankOf.1) := (inS_6 (i := 9) (n := 98) rfl)
theorem ok_X12_lyingOf : MtOk m_X12_lyingOf 1 := ⟨(inT_7 (i := 236) rfl rfl), (inT_1 (i := 14) rfl rfl), ⟨by decide, by decide⟩, by decide +kernel, by decide⟩
theorem im_X12_lyingOf : inW (.instanceMethod m_X12_lyingOf.1) := (inT_7 (i := 235) rfl rfl)
theorem se_X12_lyingOf : inW (.selects m_X12_lyingOf.1.cls m_X12_lyingOf.1 m_X12_lyingOf.1) := (inS_6 (i := 10) (n := 98) rfl)
theorem ok_X12_liesIn : MtOk m_X12_liesIn 2 := ⟨(inT_8 (i := 0) rfl rfl), (inT_1 (i := 14) rfl rfl), ⟨by decide, by decide⟩, by decide +kernel, by decide⟩
theorem im_X12_liesIn : inW (.instanceMethod m_X12_liesIn.1) := (inT_7 (i := 239) rfl rfl)
theorem se_X12_liesIn : inW (.selects m_X12_liesIn.1.cls m_X12_liesIn.1 m_X12_liesIn.1) := (inS_6 (i := 11) (n := 98) rfl)
theorem ok_X12_reach : MtOk m_X12_reach 2 := ⟨(inT_8 (i := 4) rfl rfl), (inT_1 (i := 14) rfl rfl), ⟨by decide, by decide⟩, by decide +kernel, by decide⟩
theorem im_X12_reach : inW (.instanceMethod m_X12_reach.1) := (inT_8 (i := 2) rfl rfl)
theorem se_X12_reach : inW (.selects m_X12_reach.1.cls m_X12_reach.1 m_X12_reach.1) := (inT_8 (i := 3) rfl rfl)
theorem ok_X12_isReach : MtOk m_X12_isReach 1 := ⟨(inT_8 (i := 8) rfl rfl), (inT_1 (i := 14) rfl rfl), ⟨by decide, by decide⟩, by decide +kernel, by decide⟩
theorem im_X12_isReach : inW (.instanceMethod m_X12_isReach.1) := (inT_8 (i := 7) rfl rfl)
theorem se_X12_isReach : inW (.selects m_X12_isReach.1.cls m_X12_isReach.1 m_X12_isReach.1) := (inS_6 (i := 12) (n := 98) rfl)
theorem ok_X12_liesAll : MtOk m_X12_liesAll 1 := ⟨(inT_8 (i := 12) rfl rfl), (inT_1 (i := 14) rfl rfl), ⟨by decide, by decide⟩, by decide +kernel, by decide⟩
theorem im_X12_liesAll : inW (.instanceMethod m_X12_liesAll.1) := (inT_8 (i := 11) rfl rfl)
theorem se_X12_liesAll : inW (.selects m_X12_liesAll.1.cls m_X12_liesAll.1 m_X12_liesAll.1) := (inS_6 (i := 13) (n := 98) rfl)
theorem ok_X12_isIsland : MtOk m_X12_isIsland 1 := ⟨(inT_8 (i := 16) rfl rfl), (inT_1 (i := 14) rfl rfl), ⟨by decide, by decide⟩, by decide +kernel, by decide⟩
theorem im_X12_isIsland : inW (.instanceMethod m_X12_isIsland.1) := (inT_8 (i := 15) rfl rfl)
theorem se_X12_isIsland : inW (.selects m_X12_isIsland.1.cls m_X12_isIsland.1 m_X12_isIsland.1) := (inS_6 (i := 14) (n := 98) rfl)
theorem ok_X12_majorityIn : MtOk m_X12_majorityIn 1 := ⟨(inT_8 (i := 20) rfl rfl), (inT_1 (i := 14) rfl rfl), ⟨by decide, by decide⟩, by decide +kernel, by decide⟩
theorem im_X12_majorityIn : inW (.instanceMethod m_X12_majorityIn.1) := (inT_8 (i := 19) rfl rfl)
theorem se_X12_majorityIn : inW (.selects m_X12_majorityIn.1.cls m_X12_majorityIn.1 m_X12_majorityIn.1) := (inS_6 (i := 15) (n := 98) rfl)
theorem ok_X12_ownersIn : MtOk m_X12_ownersIn 2 := ⟨(inT_8 (i := 24) rfl rfl), (inT_1 (i := 14) rfl rfl), ⟨by decide, by decide⟩, by decide +kernel, by decide⟩
theorem im_X12_ownersIn : inW (.instanceMethod m_X12_ownersIn.1) := (inT_8 (i := 23) rfl rfl)
theorem se_X12_ownersIn : inW (.selects m_X12_ownersIn.1.cls m_X12_ownersIn.1 m_X12_ownersIn.1) := (inS_7 (i := 0) (n := 98) rfl)
theorem ok_X12_endOf : MtOk m_X12_endOf 2 := ⟨(inT_8 (i := 28) rfl rfl), (inT_1 (i := 14) rfl rfl), ⟨by decide, by decide⟩, by decide +kernel, by decide⟩
theorem im_X12_endOf : inW (.instanceMethod m_X12_endOf.1) := (inT_8 (i := 27) rfl rfl)
theorem se_X12_endOf : inW (.selects m_X12_endOf.1.cls m_X12_endOf.1 m_X12_endOf.1) := (inS_7 (i := 1) (n := 98) rfl)
theorem ok_X12_areJoined : MtOk m_X12_areJoined 1 := ⟨(inT_8 (i := 32) rfl rfl), (inT_1 (i := 14) rfl rfl), ⟨by decide, by decide⟩, by decide +kernel, by decide⟩
theorem im_X12_areJoined : inW (.instanceMethod m_X12_areJoined.1) := (inT_8 (i := 31) rfl rfl)
theorem se_X12_areJoined : inW (.selects m_X12_areJoined.1.cls m_X12_areJoined.1 m_X12_areJoined.1) := (inS_7 (i := 2) (n := 98) rfl)
theorem ok_X12_voteOf : MtOk m_X12_voteOf 1 := ⟨(inT_8 (i := 36) rfl rfl), (inT_1 (i := 14) rfl rfl), ⟨by decide, by decide⟩, by decide +kernel, by decide⟩
theorem im_X12_voteOf : inW (.instanceMethod m_X12_voteOf.1) := (inT_8 (i := 35) rfl rfl)
theorem se_X12_voteOf : inW (.selects m_X12_voteOf.1.cls m_X12_voteOf.1 m_X12_voteOf.1) := (inS_7 (i := 3) (n := 98) rfl)
theorem ok_X12_lies : MtOk m_X12_lies 2 := ⟨(inT_8 (i := 40) rfl rfl), (inT_1 (i := 14) rfl rfl), ⟨by decide, by decide⟩, by decide +kernel, by decide⟩
theorem im_X12_lies : inW (.instanceMethod m_X12_lies.1) := (inT_8 (i := 38) rfl rfl)
theorem se_X12_lies : inW (.selects m_X12_lies.1.cls m_X12_lies.1 m_X12_lies.1) := (inT_8 (i := 39) rfl rfl)
theorem ok_X12_share : MtOk m_X12_share 2 := ⟨(inT_8 (i := 44) rfl rfl), (inT_1 (i := 14) rfl rfl), ⟨by decide, by decide⟩, by decide +kernel, by decide⟩
theorem im_X12_share : inW (.instanceMethod m_X12_share.1) := (inT_8 (i := 42) rfl rfl)
theorem se_X12_share : inW (.selects m_X12_share.1.cls m_X12_share.1 m_X12_share.1) := (inT_8 (i := 43) rfl rfl)
theorem ok_X12_isOwner : MtOk m_X12_isOwner 1 := ⟨(inT_8 (i := 48) rfl rfl), (inT_1 (i := 14) rfl rfl), ⟨by decide, by decide⟩, by decide +kernel, by decide⟩
theorem im_X12_isOwner : inW (.instanceMethod m_X12_isOwner.1) := (inT_8 (i := 47) rfl rfl)
theorem se_X12_isOwner : inW (.selects m_X12_isOwner.1.cls m_X12_isOwner.1 m_X12_isOwner.1) := (inS_7 (i := 4) (n := 98) rfl)
theorem ok_X12_tint : MtOk m_X12_tint 2 := ⟨(inT_8 (i := 52) rfl rfl), (inT_1 (i := 14) rfl rfl), ⟨by decide, by decide⟩, by decide +kernel, by decide⟩
theorem im_X12_tint : inW (.instanceMethod m_X12_tint.1) := (inT_8 (i := 50) rfl rfl)
theorem se_X12_tint : inW (.selects m_X12_tint.1.cls m_X12_tint.1 m_X12_tint.1) := (inT_8 (i := 51) rfl rfl)
theorem ok_X12_tintOf : MtOk m_X12_tintOf 2 := ⟨(inT_8 (i := 56) rfl rfl), (inT_1 (i := 14) rfl rfl), ⟨by decide, by decide⟩, by decide +kernel, by decide⟩
theorem im_X12_tintOf : inW (.instanceMethod m_X12_tintOf.1) := (inT_8 (i := 55) rfl rfl)
theorem se_X12_tintOf : inW (.selects m_X12_tintOf.1.cls m_X12_tintOf.1 m_X12_tintOf.1) := (inS_7 (i := 5) (n := 98) rfl)
theorem ok_X12_flow : MtOk m_X12_flow 2 := ⟨(inT_8 (i := 60) rfl rfl), (inT_1 (i := 14) rfl rfl), ⟨by decide, by decide⟩, by decide +kernel, by decide⟩
theorem im_X12_flow : inW (.instanceMethod m_X12_flow.1) := (inT_8 (i := 58) rfl rfl)
theorem se_X12_flow : inW (.selects m_X12_flow.1.cls m_X12_flow.1 m_X12_flow.1) := (inT_8 (i := 59) rfl rfl)
theorem ok_X12_isLevel : MtOk m_X12_isLevel 1 := ⟨(inT_8 (i := 63) rfl rfl), (inT_1 (i := 14) rfl rfl), ⟨by decide, by decide⟩, by decide +kernel, by decide⟩
theorem sm_X12_isLevel : inW (.static m_X12_isLevel.1) := (inT_8 (i := 62) rfl rfl)
theorem ok_X12_stonesAsNow : MtOk m_X12_stonesAsNow 0 := ⟨(inT_8 (i := 68) rfl rfl), (inT_1 (i := 14) rfl rfl), ⟨by decide, by decide⟩, by decide +kernel, by decide⟩
theorem im_X12_stonesAsNow : inW (.instanceMethod m_X12_stonesAsNow.1) := (inT_8 (i := 67) rfl rfl)
theorem se_X12_stonesAsNow : inW (.selects m_X12_stonesAsNow.1.cls m_X12_stonesAsNow.1 m_X12_stonesAsNow.1) := (inS_7 (i := 6) (n := 98) rfl)
theorem ok_X12_flowOf : MtOk m_X12_flowOf 2 := ⟨(inT_8 (i := 72) rfl rfl), (inT_1 (i := 14) rfl rfl), ⟨by decide, by decide⟩, by decide +kernel, by decide⟩
theorem im_X12_flowOf : inW (.instanceMethod m_X12_flowOf.1) := (inT_8 (i := 71) rfl rfl)
theorem se_X12_flowOf : inW (.selects m_X12_flowOf.1.cls m_X12_flowOf.1 m_X12_flowOf.1) := (inS_7 (i := 7) (n := 98) rfl)
theorem ok_X12_cuts : MtOk m_X12_cuts 2 := ⟨(inT_8 (i := 76) rfl rfl), (inT_1 (i := 14) rfl rfl), ⟨by decide, by decide⟩, by decide +kernel, by decide⟩
theorem im_X12_cuts : inW (.instanceMethod m_X12_cuts.1) := (inT_8 (i := 74) rfl rfl)
theorem se_X12_cuts : inW (.selects m_X12_cuts.1.cls m_X12_cuts.1 m_X12_cuts.1) := (inT_8 (i := 75) rfl rfl)
theorem ok_X12_wouldBe : MtOk m_X12_wouldBe 1 := ⟨(inT_8 (i := 80) rfl rfl), (inT_1 (i := 14) rfl rfl), ⟨by decide, by decide⟩, by decide +kernel, by decide⟩
theorem im_X12_wouldBe : inW (.instanceMethod m_X12_wouldBe.1) := (inT_8 (i := 79) rfl rfl)
theorem se_X12_wouldBe : inW (.selects m_X12_wouldBe.1.cls m_X12_wouldBe.1 m_X12_wouldBe.1) := (inS_7 (i := 8) (n := 98) rfl)
theorem ok_X12_floods : MtOk m_X12_floods 1 := ⟨(inT_8 (i := 84) rfl rfl), (inT_1 (i := 14) rfl rfl), ⟨by decide, by decide⟩, by decide +kernel, by decide⟩
theorem im_X12_floods : inW (.instanceMethod m_X12_floods.1) := (inT_8 (i := 83) rfl rfl)
theorem se_X12_floods : inW (.selects m_X12_floods.1.cls m_X12_floods.1 m_X12_floods.1) := (inS_7 (i := 9) (n := 98) rfl)
theorem ok_X12_isCut : MtOk m_X12_isCut 3 := ⟨(inT_8 (i := 88) rfl rfl), (inT_1 (i := 14) rfl rfl), ⟨by decide, by decide⟩, by decide +kernel, by decide⟩
theorem im_X12_isCut : inW (.instanceMethod m_X12_isCut.1) := (inT_8 (i := 87) rfl rfl)
theorem se_X12_isCut : inW (.selects m_X12_isCut.1.cls m_X12_isCut.1 m_X12_isCut.1) := (inS_7 (i := 10) (n := 98) rfl)
theorem ok_X12_asksOf : MtOk m_X12_asksOf 4 := ⟨(inT_8 (i := 92) rfl rfl), (inT_1 (i := 14) rfl rfl), ⟨by decide, by decide⟩, by decide +kernel, by decide⟩
theorem im_X12_asksOf : inW (.instanceMethod m_X12_asksOf.1) := (inT_8 (i := 91) rfl rfl)
theorem se_X12_asksOf : inW (.selects m_X12_asksOf.1.cls m_X12_asksOf.1 m_X12_asksOf.1) := (inS_7 (i := 11) (n := 98) rfl)
theorem ok_X12_told : MtOk m_X12_told 2 := ⟨(inT_8 (i := 96) rfl rfl), (inT_1 (i := 14) rfl rfl), ⟨by decide, by decide⟩, by decide +kernel, by decide⟩
theorem im_X12_told : inW (.instanceMethod m_X12_told.1) := (inT_8 (i := 95) rfl rfl)
theorem se_X12_told : inW (.selects m_X12_told.1.cls m_X12_told.1 m_X12_told.1) := (inS_7 (i := 12) (n := 98) rfl)
theorem ok_X12_puts : MtOk m_X12_puts 1 := ⟨(inT_8 (i := 100) rfl rfl), (inT_1 (i := 14) rfl rfl), ⟨by decide, by decide⟩, by decide +kernel, by decide⟩
theorem im_X12_puts : inW (.instanceMethod m_X12_puts.1) := (inT_8 (i := 99) rfl rfl)
theorem se_X12_puts : inW (.selects m_X12_puts.1.cls m_X12_puts.1 m_X12_puts.1) := (inS_7 (i := 13) (n := 98) rfl)
theorem ok_X12_joins : MtOk m_X12_joins 1 := ⟨(inT_8 (i := 106) rfl rfl), (inT_1 (i := 14) rfl rfl), ⟨by decide, by decide⟩, by decide +kernel, by decide⟩
theorem im_X12_joins : inW (.instanceMethod m_X12_joins.1) := (inT_8 (i := 105) rfl rfl)
theorem se_X12_joins : inW (.selects m_X12_joins.1.cls m_X12_joins.1 m_X12_joins.1) := (inS_7 (i := 14) (n := 98) rfl)
theorem ok_X12_clip : MtOk m_X12_clip 1 := ⟨(inT_8 (i := 109) rfl rfl), (inT_1 (i := 14) rfl rfl), ⟨by decide, by decide⟩, by decide +kernel, by decide⟩
theorem sm_X12_clip : inW (.static m_X12_clip.1) := (inT_8 (i := 108) rfl rfl)
theorem ok_X12_floor : MtOk m_X12_floor 2 := ⟨(inT_8 (i := 114) rfl rfl), (inT_1 (i := 14) rfl rfl), ⟨by decide, by decide⟩, by decide +kernel, by decide⟩
theorem sm_X12_floor : inW (.static m_X12_floor.1) := (inT_8 (i := 113) rfl rfl)
theorem ok_X12_settlesOf : MtOk m_X12_settlesOf 3 := ⟨(inT_8 (i := 118) rfl rfl), (inT_1 (i := 14) rfl rfl), ⟨by decide, by decide⟩, by decide +kernel, by decide⟩
theorem im_X12_settlesOf : inW (.instanceMethod m_X12_settlesOf.1) := (inT_8 (i := 117) rfl rfl)
theorem se_X12_settlesOf : inW (.selects m_X12_settlesOf.1.cls m_X12_settlesOf.1 m_X12_settlesOf.1) := (inS_7 (i := 15) (n := 98) rfl)
theorem ok_X12_settles : MtOk m_X12_settles 3 := ⟨(inT_8 (i := 122) rfl rfl), (inT_1 (i := 14) rfl rfl), ⟨by decide, by decide⟩, by decide +kernel, by decide⟩
theorem im_X12_settles : inW (.instanceMethod m_X12_settles.1) := (inT_8 (i := 120) rfl rfl)
theorem se_X12_settles : inW (.selects m_X12_settles.1.cls m_X12_settles.1 m_X12_settles.1) := (inT_8 (i := 121) rfl rfl)
theorem ok_X12_carries : MtOk m_X12_carries 3 := ⟨(inT_8 (i := 126) rfl rfl), (inT_1 (i := 14) rfl rfl), ⟨by decide, by decide⟩, by decide +kernel, by decide⟩
theorem im_X12_carries : inW (.instanceMethod m_X12_carries.1) := (inT_8 (i := 124) rfl rfl)
theorem se_X12_carries : inW (.selects m_X12_carries.1.cls m_X12_carries.1 m_X12_carries.1) := (inT_8 (i := 125) rfl rfl)
theorem ok_X12_would : MtOk m_X12_would 2 := ⟨(inT_8 (i := 130) rfl rfl), (inT_1 (i := 14) rfl rfl), ⟨by decide, by decide⟩, by decide +kernel, by decide⟩
theorem im_X12_would : inW (.instanceMethod m_X12_would.1) := (inT_8 (i := 128) rfl rfl)
theorem se_X12_would : inW (.selects m_X12_would.1.cls m_X12_would.1 m_X12_would.1) := (inT_8 (i := 129) rfl rfl)
theorem ok_X12_sumOf : MtOk m_X12_sumOf 1 := ⟨(inT_8 (i := 134) rfl rfl), (inT_1 (i := 14) rfl rfl), ⟨by decide, by decide⟩, by decide +kernel, by decide⟩
theorem sm_X12_sumOf : inW (.static m_X12_sumOf.1) := (inT_8 (i := 133) rfl rfl)
theorem ok_X12_settledAll : MtOk m_X12_settledAll 0 := ⟨(inT_8 (i := 138) rfl rfl), (inT_1 (i := 14) rfl rfl), ⟨by decide, by decide⟩, by decide +kernel, by decide⟩
theorem im_X12_settledAll : inW (.instanceMethod m_X12_settledAll.1) := (inT_8 (i := 137) rfl rfl)
theorem se_X12_settledAll : inW (.selects m_X12_settledAll.1.cls m_X12_settledAll.1 m_X12_settledAll.1) := (inS_8 (i := 0) (n := 98) rfl)
theorem ok_X12_settledIn : MtOk m_X12_settledIn 1 := ⟨(inT_8 (i := 142) rfl rfl), (inT_1 (i := 14) rfl rfl), ⟨by decide, by decide⟩, by decide +kernel, by decide⟩
theorem im_X12_settledIn : inW (.instanceMethod m_X12_settledIn.1) := (inT_8 (i := 141) rfl rfl)
theorem se_X12_settledIn : inW (.selects m_X12_settledIn.1.cls m_X12_settledIn.1 m_X12_settledIn.1) := (inS_8 (i := 1) (n := 98) rfl)
theorem ok_X12_mostSettled : MtOk m_X12_mostSettled 0 := ⟨(inT_8 (i := 146) rfl rfl), (inT_1 (i := 14) rfl rfl), ⟨by decide, by decide⟩, by decide +kernel, by decide⟩
theorem im_X12_mostSettled : inW (.instanceMethod m_X12_mostSettled.1) := (inT_8 (i := 145) rfl rfl)
theorem se_X12_mostSettled : inW (.selects m_X12_mostSettled.1.cls m_X12_mostSettled.1 m_X12_mostSettled.1) := (inS_8 (i := 2) (n := 98) rfl)
theorem ok_X12_undo : MtOk m_X12_undo 0 := ⟨(inT_8 (i := 150) rfl rfl), (inT_1 (i := 14) rfl rfl), ⟨by decide, by decide⟩, by decide +kernel, by decide⟩
theorem im_X12_undo : inW (.instanceMethod m_X12_undo.1) := (inT_8 (i := 148) rfl rfl)
theorem se_X12_undo : inW (.selects m_X12_undo.1.cls m_X12_undo.1 m_X12_undo.1) := (inT_8 (i := 149) rfl rfl)
theorem ok_X12_flood : MtOk m_X12_flood 1 := ⟨(inT_8 (i := 154) rfl rfl), (inT_1 (i := 14) rfl rfl), ⟨by decide, by decide⟩, by decide +kernel, by decide⟩
theorem im_X12_flood : inW (.instanceMethod m_X12_flood.1) := (inT_8 (i := 152) rfl rfl)
theorem se_X12_flood : inW (.selects m_X12_flood.1.cls m_X12_flood.1 m_X12_flood.1) := (inT_8 (i := 153) rfl rfl)
theorem ok_X12_keeps : MtOk m_X12_keeps 0 := ⟨(inT_8 (i := 158) rfl rfl), (inT_1 (i := 14) rfl rfl), ⟨by decide, by decide⟩, by decide +kernel, by decide⟩
theorem im_X12_keeps : inW (.instanceMethod m_X12_keeps.1) := (inT_8 (i := 157) rfl rfl)
theorem se_X12_keeps : inW (.selects m_X12_keeps.1.cls m_X12_keeps.1 m_X12_keeps.1) := (inS_8 (i := 3) (n := 98) rfl)
theorem ok_X12_yearGoes : MtOk m_X12_yearGoes 1 := ⟨(inT_8 (i := 162) rfl rfl), (inT_1 (i := 14) rfl rfl), ⟨by decide, by decide⟩, by decide +kernel, by decide⟩
theorem im_X12_yearGoes : inW (.instanceMethod m_X12_yearGoes.1) := (inT_8 (i := 161) rfl rfl)
theorem se_X12_yearGoes : inW (.selects m_X12_yearGoes.1.cls m_X12_yearGoes.1 m_X12_yearGoes.1) := (inS_8 (i := 4) (n := 98) rfl)
theorem ok_X12_seed : MtOk m_X12_seed 1 := ⟨(inT_8 (i := 166) rfl rfl), (inT_1 (i := 14) rfl rfl), ⟨by decide, by decide⟩, by decide +kernel, by decide⟩
theorem im_X12_seed : inW (.instanceMethod m_X12_seed.1) := (inT_8 (i := 164) rfl rfl)
theorem se_X12_seed : inW (.selects m_X12_seed.1.cls m_X12_seed.1 m_X12_seed.1) := (inT_8 (i := 165) rfl rfl)
theorem ok_X12_years : MtOk m_X12_years 1 := ⟨(inT_8 (i := 170) rfl rfl), (inT_1 (i := 14) rfl rfl), ⟨by decide, by decide⟩, by decide +kernel, by decide⟩
theorem im_X12_years : inW (.instanceMethod m_X12_years.1) := (inT_8 (i := 168) rfl rfl)
theorem se_X12_years : inW (.selects m_X12_years.1.cls m_X12_years.1 m_X12_years.1) := (inT_8 (i := 169) rfl rfl)
theorem ok_X12_drawOf : MtOk m_X12_drawOf 1 := ⟨(inT_8 (i := 175) rfl rfl), (inT_1 (i := 14) rfl rfl), ⟨by decide, by decide⟩, by decide +kernel, by decide⟩
theorem im_X12_drawOf : inW (.instanceMethod m_X12_drawOf.1) := (inT_8 (i := 174) rfl rfl)
theorem se_X12_drawOf : inW (.selects m_X12_drawOf.1.cls m_X12_drawOf.1 m_X12_drawOf.1) := (inS_8 (i := 5) (n := 98) rfl)
theorem ok_X12_stone : MtOk m_X12_stone 2 := ⟨(inT_8 (i := 183) rfl rfl), (inT_1 (i := 14) rfl rfl), ⟨by decide, by decide⟩, by decide +kernel, by decide⟩
theorem im_X12_stone : inW (.instanceMethod m_X12_stone.1) := (inT_8 (i := 181) rfl rfl)
theorem se_X12_stone : inW (.selects m_X12_stone.1.cls m_X12_stone.1 m_X12_stone.1) := (inT_8 (i := 182) rfl rfl)
theorem ok_X12_rake : MtOk m_X12_rake 4 := ⟨(inT_8 (i := 187) rfl rfl), (inT_1 (i := 14) rfl rfl), ⟨by decide, by decide⟩, by decide +kernel, by decide⟩
theorem im_X12_rake : inW (.instanceMethod m_X12_rake.1) := (inT_8 (i := 185) rfl rfl)
theorem se_X12_rake : inW (.selects m_X12_rake.1.cls m_X12_rake.1 m_X12_rake.1) := (inT_8 (i := 186) rfl rfl)
theorem ok_X12_mine : MtOk m_X12_mine 5 := ⟨(inT_8 (i := 191) rfl rfl), (inT_1 (i := 14) rfl rfl), ⟨by decide, by decide⟩, by decide +kernel, by decide⟩
theorem im_X12_mine : inW (.instanceMethod m_X12_mine.1) := (inT_8 (i := 189) rfl rfl)
theorem se_X12_mine : inW (.selects m_X12_mine.1.cls m_X12_mine.1 m_X12_mine.1) := (inT_8 (i := 190) rfl rfl)
theorem ok_X12_seeksStones : MtOk m_X12_seeksStones 5 := ⟨(inT_8 (i := 196) rfl rfl), (inT_1 (i := 14) rfl rfl), ⟨by decide, by decide⟩, by decide +kernel, by decide⟩
theorem im_X12_seeksStones : inW (.instanceMethod m_X12_seeksStones.1) := (inT_8 (i := 195) rfl rfl)
theorem se_X12_seeksStones : inW (.selects m_X12_seeksStones.1.cls m_X12_seeksStones.1 m_X12_seeksStones.1) := (inS_8 (i := 6) (n := 98) rfl)
theorem ok_X12_laysStones : MtOk m_X12_laysStones 1 := ⟨(inT_8 (i := 200) rfl rfl), (inT_1 (i := 14) rfl rfl), ⟨by decide, by decide⟩, by decide +kernel, by decide⟩
theorem im_X12_laysStones : inW (.instanceMethod m_X12_laysStones.1) := (inT_8 (i := 199) rfl rfl)
theorem se_X12_laysStones : inW (.selects m_X12_laysStones.1.cls m_X12_laysStones.1 m_X12_laysStones.1) := (inS_8 (i := 7) (n := 98) rfl)
theorem ok_X12_shareThen : MtOk m_X12_shareThen 2 := ⟨(inT_8 (i := 204) rfl rfl), (inT_1 (i := 14) rfl rfl), ⟨by decide, by decide⟩, by decide +kernel, by decide⟩
theorem im_X12_shareThen : inW (.instanceMethod m_X12_shareThen.1) := (inT_8 (i := 203) rfl rfl)
theorem se_X12_shareThen : inW (.selects m_X12_shareThen.1.cls m_X12_shareThen.1 m_X12_shareThen.1) := (inS_8 (i := 8) (n := 98) rfl)
theorem ok_X12_wouldLie : MtOk m_X12_wouldLie 1 := ⟨(inT_8 (i := 208) rfl rfl), (inT_1 (i := 14) rfl rfl), ⟨by decide, by decide⟩, by decide +kernel, by decide⟩
theorem im_X12_wouldLie : inW (.instanceMethod m_X12_wouldLie.1) := (inT_8 (i := 207) rfl rfl)
theorem se_X12_wouldLie : inW (.selects m_X12_wouldLie.1.cls m_X12_wouldLie.1 m_X12_wouldLie.1) := (inS_8 (i := 9) (n := 98) rfl)
theorem ok_X12_stonesTold : MtOk m_X12_stonesTold 1 := ⟨(inT_8 (i := 212) rfl rfl), (inT_1 (i := 14) rfl rfl), ⟨by decide, by decide⟩, by decide +kernel, by decide⟩
theorem im_X12_stonesTold : inW (.instanceMethod m_X12_stonesTold.1) := (inT_8 (i := 211) rfl rfl)
theorem se_X12_stonesTold : inW (.selects m_X12_stonesTold.1.cls m_X12_stonesTold.1 m_X12_stonesTold.1) := (inS_8 (i := 10) (n := 98) rfl)
theorem ok_X12_keep : MtOk m_X12_keep 4 := ⟨(inT_8 (i := 216) rfl rfl), (inT_1 (i := 14) rfl rfl), ⟨by decide, by decide⟩, by decide +kernel, by decide⟩
theorem im_X12_keep : inW (.instanceMethod m_X12_keep.1) := (inT_8 (i := 214) rfl rfl)
theorem se_X12_keep : inW (.selects m_X12_keep.1.cls m_X12_keep.1 m_X12_keep.1) := (inT_8 (i := 215) rfl rfl)
theorem ok_X12_until : MtOk m_X12_until 3 := ⟨(inT_8 (i := 221) rfl rfl), (inT_1 (i := 14) rfl rfl), ⟨by decide, by decide⟩, by decide +kernel, by decide⟩
theorem im_X12_until : inW (.instanceMethod m_X12_until.1) := (inT_8 (i := 219) rfl rfl)
theorem se_X12_until : inW (.selects m_X12_until.1.cls m_X12_until.1 m_X12_until.1) := (inT_8 (i := 220) rfl rfl)
theorem ok_X12_find : MtOk m_X12_find 0 := ⟨(inT_8 (i := 225) rfl rfl), (inT_1 (i := 14) rfl rfl), ⟨by decide, by decide⟩, by decide +kernel, by decide⟩
theorem im_X12_find : inW (.instanceMethod m_X12_find.1) := (inT_8 (i := 223) rfl rfl)
theorem se_X12_find : inW (.selects m_X12_find.1.cls m_X12_find.1 m_X12_find.1) := (inT_8 (i := 224) rfl rfl)
theorem ok_X12_levels : MtOk m_X12_levels 0 := ⟨(inT_8 (i := 229) rfl rfl), (inT_1 (i := 14) rfl rfl), ⟨by decide, by decide⟩, by decide +kernel, by decide⟩
theorem im_X12_levels : inW (.instanceMethod m_X12_levels.1) := (inT_8 (i := 227) rfl rfl)
theorem se_X12_levels : inW (.selects m_X12_levels.1.cls m_X12_levels.1 m_X12_levels.1) := (inT_8 (i := 228) rfl rfl)
theorem ok_X12_isAsFound : MtOk m_X12_isAsFound 0 := ⟨(inT_8 (i := 233) rfl rfl), (inT_1 (i := 14) rfl rfl), ⟨by decide, by decide⟩, by decide +kernel, by decide⟩
theorem im_X12_isAsFound : inW (.instanceMethod m_X12_isAsFound.1) := (inT_8 (i := 232) rfl rfl)
theorem se_X12_isAsFound : inW (.selects m_X12_isAsFound.1.cls m_X12_isAsFound.1 m_X12_isAsFound.1) := (inS_8 (i := 11) (n := 98) rfl)
theorem ok_X12_forged : MtOk m_X12_forged 1 := ⟨(inT_8 (i := 237) rfl rfl), (inT_1 (i := 14) rfl rfl), ⟨by decide, by decide⟩, by decide +kernel, by decide⟩
theorem im_X12_forged : inW (.instanceMethod m_X12_forged.1) := (inT_8 (i := 235) rfl rfl)
theorem se_X12_forged : inW (.selects m_X12_forged.1.cls m_X12_forged.1 m_X12_forged.1) := (inT_8 (i := 236) rfl rfl)
theorem ok_X12_ask : MtOk m_X12_ask 0 := ⟨(inT_9 (i := 1) rfl rfl), (inT_1 (i := 14) rfl rfl), ⟨by decide, by decide⟩, by decide +kernel, by decide⟩
theorem im_X12_ask : inW (.instanceMethod m_X12_ask.1) := (inT_8 (i := 239) rfl rfl)
theorem se_X12_ask : inW (.selects m_X12_ask.1.cls m_X12_ask.1 m_X12_ask.1) := (inT_9 (i := 0) rfl rfl)
theorem ok_X12_qKind : MtOk m_X12_qKind 0 := ⟨(inT_9 (i := 6) rfl rfl), (inT_1 (i := 14) rfl rfl), ⟨by decide, by decide⟩, by decide +kernel, by decide⟩
theorem im_X12_qKind : inW (.instanceMethod m_X12_qKind.1) := (inT_9 (i := 5) rfl rfl)
theorem se_X12_qKind : inW (.selects m_X12_qKind.1.cls m_X12_qKind.1 m_X12_qKind.1) := (inS_8 (i := 12) (n := 98) rfl)
theorem ok_X12_qTest : MtOk m_X12_qTest 0 := ⟨(inT_9 (i := 10) rfl rfl), (inT_1 (i := 14) rfl rfl), ⟨by decide, by decide⟩, by decide +kernel, by decide⟩
theorem im_X12_qTest : inW (.instanceMethod m_X12_qTest.1) := (inT_9 (i := 9) rfl rfl)
theorem se_X12_qTest : inW (.selects m_X12_qTest.1.cls m_X12_qTest.1 m_X12_qTest.1) := (inS_8 (i := 13) (n := 98) rfl)
theorem ok_X12_qOpens : MtOk m_X12_qOpens 2 := ⟨(inT_9 (i := 14) rfl rfl), (inT_1 (i := 14) rfl rfl), ⟨by decide, by decide⟩, by decide +kernel, by decide⟩
theorem im_X12_qOpens : inW (.instanceMethod m_X12_qOpens.1) := (inT_9 (i := 13) rfl rfl)
theorem se_X12_qOpens : inW (.selects m_X12_qOpens.1.cls m_X12_qOpens.1 m_X12_qOpens.1) := (inS_8 (i := 14) (n := 98) rfl)
theorem ok_X12_qFact : MtOk m_X12_qFact 0 := ⟨(inT_9 (i := 18) rfl rfl), (inT_1 (i := 14) rfl rfl), ⟨by decide, by decide⟩, by decide +kernel, by decide⟩
theorem im_X12_qFact : inW (.instanceMethod m_X12_qFact.1) := (inT_9 (i := 17) rfl rfl)
theorem se_X12_qFact : inW (.selects m_X12_qFact.1.cls m_X12_qFact.1 m_X12_qFact.1) := (inS_8 (i := 15) (n := 98) rfl)
theorem ok_X12_qCode : MtOk m_X12_qCode 1 := ⟨(inT_9 (i := 22) rfl rfl), (inT_1 (i := 14) rfl rfl), ⟨by decide, by decide⟩, by decide +kernel, by decide⟩
theorem im_X12_qCode : inW (.instanceMethod m_X12_qCode.1) := (inT_9 (i := 21) rfl rfl)
theorem se_X12_qCode : inW (.selects m_X12_qCode.1.cls m_X12_qCode.1 m_X12_qCode.1) := (inS_9 (i := 0) (n := 98) rfl)
theorem ok_X12_qSums : MtOk m_X12_qSums 0 := ⟨(inT_9 (i := 26) rfl rfl), (inT_1 (i := 14) rfl rfl), ⟨by decide, by decide⟩, by decide +kernel, by decide⟩
theorem im_X12_qSums : inW (.instanceMethod m_X12_qSums.1) := (inT_9 (i := 25) rfl rfl)
theorem se_X12_qSums : inW (.selects m_X12_qSums.1.cls m_X12_qSums.1 m_X12_qSums.1) := (inS_9 (i := 1) (n := 98) rfl)
theorem ok_X12_qPartTold : MtOk m_X12_qPartTold 0 := ⟨(inT_9 (i := 30) rfl rfl), (inT_1 (i := 14) rfl rfl), ⟨by decide, by decide⟩, by decide +kernel, by decide⟩
theorem im_X12_qPartTold : inW (.instanceMethod m_X12_qPartTold.1) := (inT_9 (i := 29) rfl rfl)
theorem se_X12_qPartTold : inW (.selects m_X12_qPartTold.1.cls m_X12_qPartTold.1 m_X12_qPartTold.1) := (inS_9 (i := 2) (n := 98) rfl)
theorem ok_X12_qWordOf : MtOk m_X12_qWordOf 2 := ⟨(inT_9 (i := 34) rfl rfl), (inT_1 (i := 14) rfl rfl), ⟨by decide, by decide⟩, by decide +kernel, by decide⟩
theorem im_X12_qWordOf : inW (.instanceMethod m_X12_qWordOf.1) := (inT_9 (i := 33) rfl rfl)
theorem se_X12_qWordOf : inW (.selects m_X12_qWordOf.1.cls m_X12_qWordOf.1 m_X12_qWordOf.1) := (inS_9 (i := 3) (n := 98) rfl)
theorem ok_X12_qWordHere : MtOk m_X12_qWordHere 0 := ⟨(inT_9 (i := 38) rfl rfl), (inT_1 (i := 14) rfl rfl), ⟨by decide, by decide⟩, by decide +kernel, by decide⟩
theorem im_X12_qWordHere : inW (.instanceMethod m_X12_qWordHere.1) := (inT_9 (i := 37) rfl rfl)
theorem se_X12_qWordHere : inW (.selects m_X12_qWordHere.1.cls m_X12_qWordHere.1 m_X12_qWordHere.1) := (inS_9 (i := 4) (n := 98) rfl)
theorem ok_X12_qAsksWord : MtOk m_X12_qAsksWord 1 := ⟨(inT_9 (i := 42) rfl rfl), (inT_1 (i := 14) rfl rfl), ⟨by decide, by decide⟩, by decide +kernel, by decide⟩
theorem im_X12_qAsksWord : inW (.instanceMethod m_X12_qAsksWord.1) := (inT_9 (i := 41) rfl rfl)
theorem se_X12_qAsksWord : inW (.selects m_X12_qAsksWord.1.cls m_X12_qAsksWord.1 m_X12_qAsksWord.1) := (inS_9 (i := 5) (n := 98) rfl)
theorem ok_X12_qEndsPart : MtOk m_X12_qEndsPart 0 := ⟨(inT_9 (i := 46) rfl rfl), (inT_1 (i := 14) rfl rfl), ⟨by decide, by decide⟩, by decide +kernel, by decide⟩
theorem im_X12_qEndsPart : inW (.instanceMethod m_X12_qEndsPart.1) := (inT_9 (i := 45) rfl rfl)
theorem se_X12_qEndsPart : inW (.selects m_X12_qEndsPart.1.cls m_X12_qEndsPart.1 m_X12_qEndsPart.1) := (inS_9 (i := 6) (n := 98) rfl)
theorem ok_X12_qDrops : MtOk m_X12_qDrops 0 := ⟨(inT_9 (i := 50) rfl rfl), (inT_1 (i := 14) rfl rfl), ⟨by decide, by decide⟩, by decide +kernel, by decide⟩
theorem im_X12_qDrops : inW (.instanceMethod m_X12_qDrops.1) := (inT_9 (i := 49) rfl rfl)
theorem se_X12_qDrops : inW (.selects m_X12_qDrops.1.cls m_X12_qDrops.1 m_X12_qDrops.1) := (inS_9 (i := 7) (n := 98) rfl)
theorem ok_X12_qGoesOn : MtOk m_X12_qGoesOn 0 := ⟨(inT_9 (i := 54) rfl rfl), (inT_1 (i := 14) rfl rfl), ⟨by decide, by decide⟩, by decide +kernel, by decide⟩
theorem im_X12_qGoesOn : inW (.instanceMethod m_X12_qGoesOn.1) := (inT_9 (i := 53) rfl rfl)
theorem se_X12_qGoesOn : inW (.selects m_X12_qGoesOn.1.cls m_X12_qGoesOn.1 m_X12_qGoesOn.1) := (inS_9 (i := 8) (n := 98) rfl)
theorem ok_X12_qBracket : MtOk m_X12_qBracket 0 := ⟨(inT_9 (i := 58) rfl rfl), (inT_1 (i := 14) rfl rfl), ⟨by decide, by decide⟩, by decide +kernel, by decide⟩
theorem im_X12_qBracket : inW (.instanceMethod m_X12_qBracket.1) := (inT_9 (i := 57) rfl rfl)
theorem se_X12_qBracket : inW (.selects m_X12_qBracket.1.cls m_X12_qBracket.1 m_X12_qBracket.1) := (inS_9 (i := 9) (n := 98) rfl)
theorem ok_X12_qIsBracket : MtOk m_X12_qIsBracket 1 := ⟨(inT_9 (i := 61) rfl rfl), (inT_1 (i := 14) rfl rfl), ⟨by decide, by decide⟩, by decide +kernel, by decide⟩
theorem sm_X12_qIsBracket : inW (.static m_X12_qIsBracket.1) := (inT_9 (i := 60) rfl rfl)
theorem ok_X12_qDropsToBracket : MtOk m_X12_qDropsToBracket 0 := ⟨(inT_9 (i := 65) rfl rfl), (inT_1 (i := 14) rfl rfl), ⟨by decide, by decide⟩, by decide +kernel, by decide⟩
theorem im_X12_qDropsToBracket : inW (.instanceMethod m_X12_qDropsToBracket.1) := (inT_9 (i := 64) rfl rfl)
theorem se_X12_qDropsToBracket : inW (.selects m_X12_qDropsToBracket.1.cls m_X12_qDropsToBracket.1 m_X12_qDropsToBracket.1) := (inS_9 (i := 10) (n := 98) rfl)
theorem ok_X12_qIsOn : MtOk m_X12_qIsOn 1 := ⟨(inT_9 (i := 69) rfl rfl), (inT_1 (i := 14) rfl rfl), ⟨by decide, by decide⟩, by decide +kernel, by decide⟩
theorem im_X12_qIsOn : inW (.instanceMethod m_X12_qIsOn.1) := (inT_9 (i := 68) rfl rfl)
theorem se_X12_qIsOn : inW (.selects m_X12_qIsOn.1.cls m_X12_qIsOn.1 m_X12_qIsOn.1) := (inS_9 (i := 11) (n := 98) rfl)
theorem ok_X12_qDropsNots : MtOk m_X12_qDropsNots 0 := ⟨(inT_9 (i := 73) rfl rfl), (inT_1 (i := 14) rfl rfl), ⟨by decide, by decide⟩, by decide +kernel, by decide⟩
theorem im_X12_qDropsNots : inW (.instanceMethod m_X12_qDropsNots.1) := (inT_9 (i := 72) rfl rfl)
theorem se_X12_qDropsNots : inW (.selects m_X12_qDropsNots.1.cls m_X12_qDropsNots.1 m_X12_qDropsNots.1) := (inS_9 (i := 12) (n := 98) rfl)
theorem ok_X12_qGoesOnTest : MtOk m_X12_qGoesOnTest 0 := ⟨(inT_9 (i := 77) rfl rfl), (inT_1 (i := 14) rfl rfl), ⟨by decide, by decide⟩, by decide +kernel, by decide⟩
theorem im_X12_qGoesOnTest : inW (.instanceMethod m_X12_qGoesOnTest.1) := (inT_9 (i := 76) rfl rfl)
theorem se_X12_qGoesOnTest : inW (.selects m_X12_qGoesOnTest.1.cls m_X12_qGoesOnTest.1 m_X12_qGoesOnTest.1) := (inS_9 (i := 13) (n := 98) rfl)
theorem ok_X12_qHasSquare : MtOk m_X12_qHasSquare 0 := ⟨(inT_9 (i := 81) rfl rfl), (inT_1 (i := 14) rfl rfl), ⟨by decide, by decide⟩, by decide +kernel, by decide⟩
theorem im_X12_qHasSquare : inW (.instanceMethod m_X12_qHasSquare.1) := (inT_9 (i := 80) rfl rfl)
theorem se_X12_qHasSquare : inW (.selects m_X12_qHasSquare.1.cls m_X12_qHasSquare.1 m_X12_qHasSquare.1) := (inS_9 (i := 14) (n := 98) rfl)
theorem ok_X12_qTold : MtOk m_X12_qTold 1 := ⟨(inT_9 (i := 86) rfl rfl), (inT_1 (i := 14) rfl rfl), ⟨by decide, by decide⟩, by decide +kernel, by decide⟩
theorem im_X12_qTold : inW (.instanceMethod m_X12_qTold.1) := (inT_9 (i := 85) rfl rfl)
theorem se_X12_qTold : inW (.selects m_X12_qTold.1.cls m_X12_qTold.1 m_X12_qTold.1) := (inS_9 (i := 15) (n := 98) rfl)
theorem ok_X12_qPuts : MtOk m_X12_qPuts 1 := ⟨(inT_9 (i := 90) rfl rfl), (inT_1 (i := 14) rfl rfl), ⟨by decide, by decide⟩, by decide +kernel, by decide⟩
theorem im_X12_qPuts : inW (.instanceMethod m_X12_qPuts.1) := (inT_9 (i := 89) rfl rfl)
theorem se_X12_qPuts : inW (.selects m_X12_qPuts.1.cls m_X12_qPuts.1 m_X12_qPuts.1) := (inS_10 (i := 0) (n := 98) rfl)
theorem ok_X12_qOf : MtOk m_X12_qOf 3 := ⟨(inT_9 (i := 94) rfl rfl), (inT_1 (i := 14) rfl rfl), ⟨by decide, by decide⟩, by decide +kernel, by decide⟩
theorem im_X12_qOf : inW (.instanceMethod m_X12_qOf.1) := (inT_9 (i := 93) rfl rfl)
theorem se_X12_qOf : inW (.selects m_X12_qOf.1.cls m_X12_qOf.1 m_X12_qOf.1) := (inS_10 (i := 1) (n := 98) rfl)
theorem ok_X12_qClip : MtOk m_X12_qClip 1 := ⟨(inT_9 (i := 97) rfl rfl), (inT_1 (i := 14) rfl rfl), ⟨by decide, by decide⟩, by decide +kernel, by decide⟩
theorem sm_X12_qClip : inW (.static m_X12_qClip.1) := (inT_9 (i := 96) rfl rfl)
theorem ok_X12_qPartOf : MtOk m_X12_qPartOf 2 := ⟨(inT_9 (i := 101) rfl rfl), (inT_1 (i := 14) rfl rfl), ⟨by decide, by decide⟩, by decide +kernel, by decide⟩
theorem im_X12_qPartOf : inW (.instanceMethod m_X12_qPartOf.1) := (inT_9 (i := 100) rfl rfl)
theorem se_X12_qPartOf : inW (.selects m_X12_qPartOf.1.cls m_X12_qPartOf.1 m_X12_qPartOf.1) := (inS_10 (i := 2) (n := 98) rfl)
theorem ok_X12_qJoins : MtOk m_X12_qJoins 1 := ⟨(inT_9 (i := 105) rfl rfl), (inT_1 (i := 14) rfl rfl), ⟨by decide, by decide⟩, by decide +kernel, by decide⟩
theorem im_X12_qJoins : inW (.instanceMethod m_X12_qJoins.1) := (inT_9 (i := 104) rfl rfl)
theorem se_X12_qJoins : inW (.selects m_X12_qJoins.1.cls m_X12_qJoins.1 m_X12_qJoins.1) := (inS_10 (i := 3) (n := 98) rfl)
theorem ok_X12_qFloor : MtOk m_X12_qFloor 2 := ⟨(inT_9 (i := 108) rfl rfl), (inT_1 (i := 14) rfl rfl), ⟨by decide, by decide⟩, by decide +kernel, by decide⟩
theorem sm_X12_qFloor : inW (.static m_X12_qFloor.1) := (inT_9 (i := 107) rfl rfl)
theorem ok_X12_qTakes : MtOk m_X12_qTakes 3 := ⟨(inT_9 (i := 112) rfl rfl), (inT_1 (i := 14) rfl rfl), ⟨by decide, by decide⟩, by decide +kernel, by decide⟩
theorem im_X12_qTakes : inW (.instanceMethod m_X12_qTakes.1) := (inT_9 (i := 111) rfl rfl)
theorem se_X12_qTakes : inW (.selects m_X12_qTakes.1.cls m_X12_qTakes.1 m_X12_qTakes.1) := (inS_10 (i := 4) (n := 98) rfl)
theorem ok_X12_image : MtOk m_X12_image 0 := ⟨(inT_9 (i := 116) rfl rfl), (inT_1 (i := 14) rfl rfl), ⟨by decide, by decide⟩, by decide +kernel, by decide⟩
theorem im_X12_image : inW (.instanceMethod m_X12_image.1) := (inT_9 (i := 114) rfl rfl)
theorem se_X12_image : inW (.selects m_X12_image.1.cls m_X12_image.1 m_X12_image.1) := (inT_9 (i := 115) rfl rfl)
theorem ok_X12_writesTwo : MtOk m_X12_writesTwo 1 := ⟨(inT_9 (i := 120) rfl rfl), (inT_1 (i := 14) rfl rfl), ⟨by decide, by decide⟩, by decide +kernel, by decide⟩
theorem im_X12_writesTwo : inW (.instanceMethod m_X12_writesTwo.1) := (inT_9 (i := 119) rfl rfl)
theorem se_X12_writesTwo : inW (.selects m_X12_writesTwo.1.cls m_X12_writesTwo.1 m_X12_writesTwo.1) := (inS_10 (i := 5) (n := 98) rfl)
theorem ok_X12_writes : MtOk m_X12_writes 1 := ⟨(inT_9 (i := 124) rfl rfl), (inT_1 (i := 14) rfl rfl), ⟨by decide, by decide⟩, by decide +kernel, by decide⟩
theorem im_X12_writes : inW (.instanceMethod m_X12_writes.1) := (inT_9 (i := 123) rfl rfl)
theorem se_X12_writes : inW (.selects m_X12_writes.1.cls m_X12_writes.1 m_X12_writes.1) := (inS_10 (i := 6) (n := 98) rfl)
theorem ok_X12_checked : MtOk m_X12_checked 2 := ⟨(inT_9 (i := 127) rfl rfl), (inT_1 (i := 14) rfl rfl), ⟨by decide, by decide⟩, by decide +kernel, by decide⟩
theorem sm_X12_checked : inW (.static m_X12_checked.1) := (inT_9 (i := 126) rfl rfl)
theorem ok_X12_octet : MtOk m_X12_octet 1 := ⟨(inT_9 (i := 131) rfl rfl), (inT_1 (i := 14) rfl rfl), ⟨by decide, by decide⟩, by decide +kernel, by decide⟩
theorem im_X12_octet : inW (.instanceMethod m_X12_octet.1) := (inT_9 (i := 129) rfl rfl)
theorem se_X12_octet : inW (.selects m_X12_octet.1.cls m_X12_octet.1 m_X12_octet.1) := (inT_9 (i := 130) rfl rfl)
theorem ok_X12_on : MtOk m_X12_on 0 := ⟨(inT_9 (i := 135) rfl rfl), (inT_1 (i := 14) rfl rfl), ⟨by decide, by decide⟩, by decide +kernel, by decide⟩
theorem im_X12_on : inW (.instanceMethod m_X12_on.1) := (inT_9 (i := 133) rfl rfl)
theorem se_X12_on : inW (.selects m_X12_on.1.cls m_X12_on.1 m_X12_on.1) := (inT_9 (i := 134) rfl rfl)
theorem ok_X12_isTold : MtOk m_X12_isTold 1 := ⟨(inT_9 (i := 139) rfl rfl), (inT_1 (i := 14) rfl rfl), ⟨by decide, by decide⟩, by decide +kernel, by decide⟩
theorem im_X12_isTold : inW (.instanceMethod m_X12_isTold.1) := (inT_9 (i := 138) rfl rfl)
theorem se_X12_isTold : inW (.selects m_X12_isTold.1.cls m_X12_isTold.1 m_X12_isTold.1) := (inS_10 (i := 7) (n := 98) rfl)
theorem ok_X12_two : MtOk m_X12_two 1 := ⟨(inT_9 (i := 143) rfl rfl), (inT_1 (i := 14) rfl rfl), ⟨by decide, by decide⟩, by decide +kernel, by decide⟩
theorem im_X12_two : inW (.instanceMethod m_X12_two.1) := (inT_9 (i := 142) rfl rfl)
theorem se_X12_two : inW (.selects m_X12_two.1.cls m_X12_two.1 m_X12_two.1) := (inS_10 (i := 8) (n := 98) rfl)
theorem ok_X12_status : MtOk m_X12_status 1 := ⟨(inT_9 (i := 147) rfl rfl), (inT_1 (i := 14) rfl rfl), ⟨by decide, by decide⟩, by decide +kernel, by decide⟩
theorem im_X12_status : inW (.instanceMethod m_X12_status.1) := (inT_9 (i := 145) rfl rfl)
theorem se_X12_status : inW (.selects m_X12_status.1.cls m_X12_status.1 m_X12_status.1) := (inT_9 (i := 146) rfl rfl)
theorem ok_JM_floorDiv : MtOk m_JM_floorDiv 2 := ⟨(inT_4 (i := 176) rfl rfl), (inT_1 (i := 7) rfl rfl), ⟨by decide, by decide⟩, by decide +kernel, by decide⟩
theorem sm_JM_floorDiv : inW (.static m_JM_floorDiv.1) := (inT_4 (i := 175) rfl rfl)
theorem isC_0 : isC 0 RX0 := ⟨TX0, 8, rfl⟩
theorem inst_0 : inW (.instantiable RX0 8) := (inT_2 (i := 84) rfl rfl)
theorem ini_0 : inW (.initialized RX0) := (inT_1 (i := 12) rfl rfl)
theorem df_0 : ∀ j, j < 8 → defaultValue (tyX0 j) = (if fk 0 j = 0 then .int 0 else if fk 0 j = 1 then .long 0 else .null) := by decide +kernel
theorem isC_1 : isC 1 RX1 := ⟨TX1, 2, rfl⟩
theorem inst_1 : inW (.instantiable RX1 2) := (inT_1 (i := 63) rfl rfl)
theorem ini_1 : inW (.initialized RX1) := (inT_1 (i := 3) rfl rfl)
theorem df_1 : ∀ j, j < 2 → defaultValue (tyX1 j) = (if fk 1 j = 0 then .int 0 else if fk 1 j = 1 then .long 0 else .null) := by decide +kernel
theorem isC_2 : isC 2 RX2 := ⟨TX2, 5, rfl⟩
theorem inst_2 : inW (.instantiable RX2 5) := (inT_1 (i := 81) rfl rfl)
theorem ini_2 : inW (.initialized RX2) := (inT_1 (i := 4) rfl rfl)
theorem df_2 : ∀ j, j < 5 → defaultValue (tyX2 j) = (if fk 2 j = 0 then .int 0 else if fk 2 j = 1 then .long 0 else .null) := by decide +kernel
theorem isC_3 : isC 3 RX3 := ⟨TX3, 3, rfl⟩
theorem inst_3 : inW (.instantiable RX3 3) := (inT_2 (i := 120) rfl rfl)
theorem ini_3 : inW (.initialized RX3) := (inT_1 (i := 13) rfl rfl)
theorem df_3 : ∀ j, j < 3 → defaultValue (tyX3 j) = (if fk 3 j = 0 then .int 0 else if fk 3 j = 1 then .long 0 else .null) := by decide +kernel
theorem isC_4 : isC 4 RX4 := ⟨TX4, 2, rfl⟩
theorem inst_4 : inW (.instantiable RX4 2) := (inT_1 (i := 109) rfl rfl)
theorem ini_4 : inW (.initialized RX4) := (inT_1 (i := 6) rfl rfl)
theorem df_4 : ∀ j, j < 2 → defaultValue (tyX4 j) = (if fk 4 j = 0 then .int 0 else if fk 4 j = 1 then .long 0 else .null) := by decide +kernel
theorem isC_5 : isC 5 RX5 := ⟨TX5, 3, rfl⟩
theorem inst_5 : inW (.instantiable RX5 3) := (inT_2 (i := 26) rfl rfl)
theorem ini_5 : inW (.initialized RX5) := (inT_1 (i := 9) rfl rfl)
theorem df_5 : ∀ j, j < 3 → defaultValue (tyX5 j) = (if fk 5 j = 0 then .int 0 else if fk 5 j = 1 then .long 0 else .null) := by decide +kernel
theorem isC_6 : isC 6 RX6 := ⟨TX6, 5, rfl⟩
theorem inst_6 : inW (.instantiable RX6 5) := (inT_2 (i := 43) rfl rfl)
theorem ini_6 : inW (.initialized RX6) := (inT_1 (i := 10) rfl rfl)
theorem df_6 : ∀ j, j < 5 → defaultValue (tyX6 j) = (if fk 6 j = 0 then .int 0 else if fk 6 j = 1 then .long 0 else .null) := by decide +kernel
theorem isC_7 : isC 7 RX7 := ⟨TX7, 16, rfl⟩
theorem inst_7 : inW (.instantiable RX7 16) := (inT_1 (i := 103) rfl rfl)
theorem ini_7 : inW (.initialized RX7) := (inT_1 (i := 5) rfl rfl)
theorem df_7 : ∀ j, j < 16 → defaultValue (tyX7 j) = (if fk 7 j = 0 then .int 0 else if fk 7 j = 1 then .long 0 else .null) := by decide +kernel
theorem isC_8 : isC 8 RX8 := ⟨TX8, 3, rfl⟩
theorem inst_8 : inW (.instantiable RX8 3) := (inT_2 (i := 68) rfl rfl)
theorem ini_8 : inW (.initialized RX8) := (inT_1 (i := 11) rfl rfl)
theorem df_8 : ∀ j, j < 3 → defaultValue (tyX8 j) = (if fk 8 j = 0 then .int 0 else if fk 8 j = 1 then .long 0 else .null) := by decide +kernel
theorem isC_9 : isC 9 RX9 := ⟨TX9, 5, rfl⟩
theorem inst_9 : inW (.instantiable RX9 5) := (inT_1 (i := 228) rfl rfl)
theorem ini_9 : inW (.initialized RX9) := (inT_1 (i := 8) rfl rfl)
theorem df_9 : ∀ j, j < 5 → defaultValue (tyX9 j) = (if fk 9 j = 0 then .int 0 else if fk 9 j = 1 then .long 0 else .null) := by decide +kernel
theorem isC_10 : isC 10 RX10 := ⟨TX10, 6, rfl⟩
theorem inst_10 : inW (.instantiable RX10 6) := (inT_1 (i := 29) rfl rfl)
theorem ini_10 : inW (.initialized RX10) := (inT_1 (i := 2) rfl rfl)
theorem df_10 : ∀ j, j < 6 → defaultValue (tyX10 j) = (if fk 10 j = 0 then .int 0 else if fk 10 j = 1 then .long 0 else .null) := by decide +kernel
theorem isC_11 : isC 11 RX11 := ⟨TX11, 20, rfl⟩
theorem inst_11 : inW (.instantiable RX11 20) := (inT_1 (i := 21) rfl rfl)
theorem ini_11 : inW (.initialized RX11) := (inT_1 (i := 1) rfl rfl)
theorem df_11 : ∀ j, j < 20 → defaultValue (tyX11 j) = (if fk 11 j = 0 then .int 0 else if fk 11 j = 1 then .long 0 else .null) := by decide +kernel
theorem isC_12 : isC 12 RX12 := ⟨TX12, 98, rfl⟩
theorem inst_12 : inW (.instantiable RX12 98) := (inT_5 (i := 222) rfl rfl)
theorem ini_12 : inW (.initialized RX12) := (inT_1 (i := 14) rfl rfl)
theorem df_12 : ∀ j, j < 98 → defaultValue (tyX12 j) = (if fk 12 j = 0 then .int 0 else if fk 12 j = 1 then .long 0 else .null) := by decide +kernel
theorem ac_0 : inW (.arrayClass (kty 0)) := (inT_1 (i := 79) rfl rfl)
theorem ac_1 : inW (.arrayClass (kty 1)) := (inT_7 (i := 43) rfl rfl)
theorem ac_2 : inW (.arrayClass (kty 2)) := (inT_1 (i := 61) rfl rfl)
theorem ac_3 : inW (.arrayClass (kty 3)) := (inT_7 (i := 42) rfl rfl)
theorem obi_in : inW (.instanceMethod objectInit) := (inT_1 (i := 26) rfl rfl)
theorem obi_co : inW (.code objectInit ⟨#[0xb1]⟩ 1 none) := (inT_1 (i := 27) rfl rfl)
theorem mm_max_st : inW (.static Lib.Math.max.name) := (inT_1 (i := 115) rfl rfl)
theorem mm_max_co : inW (.code Lib.Math.max.name Lib.Math.max.code 2 (some .int)) := (inT_1 (i := 116) rfl rfl)
theorem mm_min_st : inW (.static Lib.Math.min.name) := (inT_4 (i := 178) rfl rfl)
theorem mm_min_co : inW (.code Lib.Math.min.name Lib.Math.min.code 2 (some .int)) := (inT_4 (i := 179) rfl rfl)
theorem mm_ini : inW (.initialized "java/lang/Math") := (inT_1 (i := 7) rfl rfl)
theorem ac_nat : inW (.native arraycopyName) := (inT_4 (i := 130) rfl rfl)
theorem ac_st : inW (.static arraycopyName) := (inT_4 (i := 129) rfl rfl)
theorem ac_ini : inW (.initialized "java/lang/System") := (inT_1 (i := 19) rfl rfl)
theorem ko_6_52 : inW (.constant "SiltShare$Reckoner" 52 (Int32.ofInt (-1000000))) := (inT_4 (i := 169) rfl rfl)
theorem ko_6_53 : inW (.constant "SiltShare$Reckoner" 53 (Int32.ofInt (1000000))) := (inT_4 (i := 170) rfl rfl)
theorem ko_11_371 : inW (.constant "SiltShare" 371 (Int32.ofInt (1103515245))) := (inT_5 (i := 18) rfl rfl)
theorem ko_11_372 : inW (.constant "SiltShare" 372 (Int32.ofInt (2147483647))) := (inT_5 (i := 19) rfl rfl)
theorem ko_11_344 : inW (.constantLong "SiltShare" 344 (Int64.ofInt (-1000000000000000))) := (inT_5 (i := 131) rfl rfl)
theorem ko_11_393 : inW (.constant "SiltShare" 393 (Int32.ofInt (-1000000))) := (inT_5 (i := 171) rfl rfl)
theorem ko_11_394 : inW (.constant "SiltShare" 394 (Int32.ofInt (1000000))) := (inT_5 (i := 172) rfl rfl)
theorem ko_12_278 : inW (.constantLong "SiltShareModel" 278 (Int64.ofInt (27))) := (inT_7 (i := 125) rfl rfl)
theorem ko_12_280 : inW (.constantLong "SiltShareModel" 280 (Int64.ofInt (97))) := (inT_7 (i := 126) rfl rfl)
theorem ko_12_477 : inW (.constantLong "SiltShareModel" 477 (Int64.ofInt (2))) := (inT_7 (i := 219) rfl rfl)
theorem ko_12_479 : inW (.constantLong "SiltShareModel" 479 (Int64.ofInt (5))) := (inT_7 (i := 220) rfl rfl)
theorem ko_12_425 : inW (.constantLong "SiltShareModel" 425 (Int64.ofInt (9))) := (inT_8 (i := 64) rfl rfl)
theorem ko_12_412 : inW (.constantLong "SiltShareModel" 412 (Int64.ofInt (7))) := (inT_8 (i := 101) rfl rfl)
theorem ko_12_414 : inW (.constantLong "SiltShareModel" 414 (Int64.ofInt (13))) := (inT_8 (i := 102) rfl rfl)
theorem ko_12_393 : inW (.constantLong "SiltShareModel" 393 (Int64.ofInt (1000000))) := (inT_8 (i := 110) rfl rfl)
theorem ko_12_395 : inW (.constantLong "SiltShareModel" 395 (Int64.ofInt (-1000000))) := (inT_8 (i := 111) rfl rfl)
theorem ko_12_517 : inW (.constantLong "SiltShareModel" 517 (Int64.ofInt (3))) := (inT_8 (i := 131) rfl rfl)
theorem ko_12_543 : inW (.constantLong "SiltShareModel" 543 (Int64.ofInt (50))) := (inT_8 (i := 171) rfl rfl)
theorem ko_12_535 : inW (.constantLong "SiltShareModel" 535 (Int64.ofInt (1103515245))) := (inT_8 (i := 176) rfl rfl)
theorem ko_12_537 : inW (.constantLong "SiltShareModel" 537 (Int64.ofInt (12345))) := (inT_8 (i := 177) rfl rfl)
theorem ko_12_539 : inW (.constantLong "SiltShareModel" 539 (Int64.ofInt (2147483648))) := (inT_8 (i := 178) rfl rfl)
theorem ko_12_541 : inW (.constantLong "SiltShareModel" 541 (Int64.ofInt (64))) := (inT_8 (i := 179) rfl rfl)
theorem ko_12_560 : inW (.constantLong "SiltShareModel" 560 (Int64.ofInt (1000))) := (inT_8 (i := 192) rfl rfl)
theorem ko_12_569 : inW (.constantLong "SiltShareModel" 569 (Int64.ofInt (99))) := (inT_8 (i := 217) rfl rfl)
theorem ko_12_671 : inW (.constantLong "SiltShareModel" 671 (Int64.ofInt (-1000000000000000))) := (inT_9 (i := 2) rfl rfl)
theorem ko_12_666 : inW (.constantLong "SiltShareModel" 666 (Int64.ofInt (-1))) := (inT_9 (i := 82) rfl rfl)
