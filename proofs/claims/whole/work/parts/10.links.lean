theorem ml_11_3 : inW (.methodLink "SiltShare" 3 objectInit) := (inT_1 (i := 25) rfl rfl)
theorem cl_11_9 : inW (.classLink "SiltShare" 9 RX10) := (inT_1 (i := 28) rfl rfl)
theorem ml_11_11 : ("SiltShare", 11, m_X10_init.1, "SiltShare") ∈ nsLk := List.mem_of_getElem? (i := 0) rfl
theorem fl_11_12 : FL "SiltShare" 12 11 0 true (.object "SiltShare$Text") := ⟨RX11, TX11, 20, tyX11, kl_11, by decide, (inT_2 (i := 135) rfl rfl), rfl, rfl, rfl⟩
theorem cl_11_16 : inW (.classLink "SiltShare" 16 RX1) := (inT_1 (i := 62) rfl rfl)
theorem ml_11_18 : ("SiltShare", 18, m_X1_init.1, "SiltShare") ∈ nsLk := List.mem_of_getElem? (i := 1) rfl
theorem fl_11_19 : FL "SiltShare" 19 11 1 true (.object "SiltShare$Formula") := ⟨RX11, TX11, 20, tyX11, kl_11, by decide, (inT_2 (i := 136) rfl rfl), rfl, rfl, rfl⟩
theorem cl_11_23 : inW (.classLink "SiltShare" 23 RX2) := (inT_1 (i := 80) rfl rfl)
theorem ml_11_25 : inW (.methodLink "SiltShare" 25 m_X2_init.1) := (inT_1 (i := 82) rfl rfl)
theorem fl_11_28 : FL "SiltShare" 28 11 2 true (.object "SiltShare$Grammar") := ⟨RX11, TX11, 20, tyX11, kl_11, by decide, (inT_2 (i := 137) rfl rfl), rfl, rfl, rfl⟩
theorem cl_11_32 : inW (.classLink "SiltShare" 32 RX7) := (inT_1 (i := 102) rfl rfl)
theorem ml_11_34 : inW (.methodLink "SiltShare" 34 m_X7_init.1) := (inT_1 (i := 104) rfl rfl)
theorem fl_11_35 : FL "SiltShare" 35 11 4 false (.object "SiltShare$River") := ⟨RX11, TX11, 20, tyX11, kl_11, by decide, (inT_2 (i := 139) rfl rfl), rfl, rfl, rfl⟩
theorem fl_11_39 : FL "SiltShare" 39 11 5 false (.object "SiltShare$River") := ⟨RX11, TX11, 20, tyX11, kl_11, by decide, (inT_2 (i := 140) rfl rfl), rfl, rfl, rfl⟩
theorem cl_11_42 : inW (.classLink "SiltShare" 42 RX9) := (inT_1 (i := 227) rfl rfl)
theorem ml_11_44 : ("SiltShare", 44, m_X9_init.1, "SiltShare") ∈ nsLk := List.mem_of_getElem? (i := 3) rfl
theorem fl_11_45 : FL "SiltShare" 45 11 6 true (.object "SiltShare$Silt") := ⟨RX11, TX11, 20, tyX11, kl_11, by decide, (inT_2 (i := 141) rfl rfl), rfl, rfl, rfl⟩
theorem fl_11_49 : FL "SiltShare" 49 11 7 true (.object "SiltShare$Silt") := ⟨RX11, TX11, 20, tyX11, kl_11, by decide, (inT_2 (i := 142) rfl rfl), rfl, rfl, rfl⟩
theorem cl_11_52 : inW (.classLink "SiltShare" 52 RX5) := (inT_2 (i := 25) rfl rfl)
theorem ml_11_54 : ("SiltShare", 54, m_X5_init.1, "SiltShare") ∈ nsLk := List.mem_of_getElem? (i := 4) rfl
theorem fl_11_55 : FL "SiltShare" 55 11 8 true (.object "SiltShare$Past") := ⟨RX11, TX11, 20, tyX11, kl_11, by decide, (inT_2 (i := 143) rfl rfl), rfl, rfl, rfl⟩
theorem cl_11_59 : inW (.classLink "SiltShare" 59 RX6) := (inT_2 (i := 42) rfl rfl)
theorem ml_11_61 : ("SiltShare", 61, m_X6_init.1, "SiltShare") ∈ nsLk := List.mem_of_getElem? (i := 5) rfl
theorem fl_11_62 : FL "SiltShare" 62 11 9 true (.object "SiltShare$Reckoner") := ⟨RX11, TX11, 20, tyX11, kl_11, by decide, (inT_2 (i := 144) rfl rfl), rfl, rfl, rfl⟩
theorem fl_11_66 : FL "SiltShare" 66 11 12 true (.array .int) := ⟨RX11, TX11, 20, tyX11, kl_11, by decide, (inT_2 (i := 147) rfl rfl), rfl, rfl, rfl⟩
theorem fl_11_70 : FL "SiltShare" 70 11 13 true (.array .int) := ⟨RX11, TX11, 20, tyX11, kl_11, by decide, (inT_2 (i := 148) rfl rfl), rfl, rfl, rfl⟩
theorem fl_11_73 : FL "SiltShare" 73 11 14 true (.array .int) := ⟨RX11, TX11, 20, tyX11, kl_11, by decide, (inT_2 (i := 149) rfl rfl), rfl, rfl, rfl⟩
theorem fl_11_76 : FL "SiltShare" 76 11 17 false .int := ⟨RX11, TX11, 20, tyX11, kl_11, by decide, (inT_2 (i := 152) rfl rfl), rfl, rfl, rfl⟩
theorem fl_11_80 : FL "SiltShare" 80 11 19 false .int := ⟨RX11, TX11, 20, tyX11, kl_11, by decide, (inT_2 (i := 154) rfl rfl), rfl, rfl, rfl⟩
theorem cl_11_83 : inW (.classLink "SiltShare" 83 RX8) := (inT_2 (i := 67) rfl rfl)
theorem ml_11_85 : inW (.methodLink "SiltShare" 85 m_X8_init.1) := (inT_2 (i := 69) rfl rfl)
theorem fl_11_88 : FL "SiltShare" 88 11 3 true (.object "SiltShare$RiverReader") := ⟨RX11, TX11, 20, tyX11, kl_11, by decide, (inT_2 (i := 138) rfl rfl), rfl, rfl, rfl⟩
theorem cl_11_92 : inW (.classLink "SiltShare" 92 RX0) := (inT_2 (i := 83) rfl rfl)
theorem ml_11_94 : inW (.methodLink "SiltShare" 94 m_X0_init.1) := (inT_2 (i := 85) rfl rfl)
theorem fl_11_97 : FL "SiltShare" 97 11 10 true (.object "SiltShare$Flood") := ⟨RX11, TX11, 20, tyX11, kl_11, by decide, (inT_2 (i := 145) rfl rfl), rfl, rfl, rfl⟩
theorem cl_11_101 : inW (.classLink "SiltShare" 101 RX3) := (inT_2 (i := 119) rfl rfl)
theorem ml_11_103 : inW (.methodLink "SiltShare" 103 m_X3_init.1) := (inT_2 (i := 121) rfl rfl)
theorem fl_11_106 : FL "SiltShare" 106 11 11 true (.object "SiltShare$Mason") := ⟨RX11, TX11, 20, tyX11, kl_11, by decide, (inT_2 (i := 146) rfl rfl), rfl, rfl, rfl⟩
theorem ml_10_3 : inW (.methodLink "SiltShare$Text" 3 objectInit) := (inT_1 (i := 33) rfl rfl)
theorem fl_10_9 : FL "SiltShare$Text" 9 10 0 true (.array .byte) := ⟨RX10, TX10, 6, tyX10, kl_10, by decide, (inT_1 (i := 34) rfl rfl), rfl, rfl, rfl⟩
theorem fl_10_15 : FL "SiltShare$Text" 15 10 5 false .int := ⟨RX10, TX10, 6, tyX10, kl_10, by decide, (inT_1 (i := 46) rfl rfl), rfl, rfl, rfl⟩
theorem ml_1_3 : inW (.methodLink "SiltShare$Formula" 3 objectInit) := (inT_1 (i := 67) rfl rfl)
theorem fl_1_9 : FL "SiltShare$Formula" 9 1 0 true (.array .int) := ⟨RX1, TX1, 2, tyX1, kl_1, by decide, (inT_1 (i := 68) rfl rfl), rfl, rfl, rfl⟩
theorem ml_2_3 : inW (.methodLink "SiltShare$Grammar" 3 objectInit) := (inT_1 (i := 85) rfl rfl)
theorem fl_2_9 : FL "SiltShare$Grammar" 9 2 0 true (.object "SiltShare$Text") := ⟨RX2, TX2, 5, tyX2, kl_2, by decide, (inT_1 (i := 86) rfl rfl), rfl, rfl, rfl⟩
theorem fl_2_15 : FL "SiltShare$Grammar" 15 2 1 true (.object "SiltShare$Formula") := ⟨RX2, TX2, 5, tyX2, kl_2, by decide, (inT_1 (i := 87) rfl rfl), rfl, rfl, rfl⟩
theorem fl_2_19 : FL "SiltShare$Grammar" 19 2 2 false (.object "SiltShare$Formula") := ⟨RX2, TX2, 5, tyX2, kl_2, by decide, (inT_1 (i := 88) rfl rfl), rfl, rfl, rfl⟩
theorem ml_7_3 : inW (.methodLink "SiltShare$River" 3 objectInit) := (inT_1 (i := 107) rfl rfl)
theorem cl_7_9 : inW (.classLink "SiltShare$River" 9 RX4) := (inT_1 (i := 108) rfl rfl)
theorem ml_7_11 : inW (.methodLink "SiltShare$River" 11 m_X4_init.1) := (inT_1 (i := 110) rfl rfl)
theorem fl_7_14 : FL "SiltShare$River" 14 7 0 true (.object "SiltShare$Names") := ⟨RX7, TX7, 16, tyX7, kl_7, by decide, (inT_1 (i := 135) rfl rfl), rfl, rfl, rfl⟩
theorem fl_7_20 : FL "SiltShare$River" 20 7 1 true (.object "SiltShare$Names") := ⟨RX7, TX7, 16, tyX7, kl_7, by decide, (inT_1 (i := 138) rfl rfl), rfl, rfl, rfl⟩
theorem fl_7_23 : FL "SiltShare$River" 23 7 2 true (.object "SiltShare$Names") := ⟨RX7, TX7, 16, tyX7, kl_7, by decide, (inT_1 (i := 141) rfl rfl), rfl, rfl, rfl⟩
theorem fl_7_26 : FL "SiltShare$River" 26 7 3 true (.array .int) := ⟨RX7, TX7, 16, tyX7, kl_7, by decide, (inT_1 (i := 146) rfl rfl), rfl, rfl, rfl⟩
theorem fl_7_30 : FL "SiltShare$River" 30 7 4 true (.array .int) := ⟨RX7, TX7, 16, tyX7, kl_7, by decide, (inT_1 (i := 150) rfl rfl), rfl, rfl, rfl⟩
theorem fl_7_33 : FL "SiltShare$River" 33 7 5 true (.array .int) := ⟨RX7, TX7, 16, tyX7, kl_7, by decide, (inT_1 (i := 155) rfl rfl), rfl, rfl, rfl⟩
theorem fl_7_36 : FL "SiltShare$River" 36 7 6 true (.array .int) := ⟨RX7, TX7, 16, tyX7, kl_7, by decide, (inT_1 (i := 159) rfl rfl), rfl, rfl, rfl⟩
theorem fl_7_39 : FL "SiltShare$River" 39 7 7 true (.array .int) := ⟨RX7, TX7, 16, tyX7, kl_7, by decide, (inT_1 (i := 164) rfl rfl), rfl, rfl, rfl⟩
theorem fl_7_42 : FL "SiltShare$River" 42 7 8 true (.array .int) := ⟨RX7, TX7, 16, tyX7, kl_7, by decide, (inT_1 (i := 168) rfl rfl), rfl, rfl, rfl⟩
theorem cl_7_45 : inW (.classLink "SiltShare$River" 45 RX1) := (inT_1 (i := 129) rfl rfl)
theorem ml_7_47 : ("SiltShare$River", 47, m_X1_init.1, "SiltShare") ∈ nsLk := List.mem_of_getElem? (i := 2) rfl
theorem fl_7_48 : FL "SiltShare$River" 48 7 9 true (.object "SiltShare$Formula") := ⟨RX7, TX7, 16, tyX7, kl_7, by decide, (inT_1 (i := 172) rfl rfl), rfl, rfl, rfl⟩
theorem fl_7_52 : FL "SiltShare$River" 52 7 10 true (.object "SiltShare$Formula") := ⟨RX7, TX7, 16, tyX7, kl_7, by decide, (inT_1 (i := 175) rfl rfl), rfl, rfl, rfl⟩
theorem ml_7_55 : inW (.methodLink "SiltShare$River" 55 m_X7_clear.1) := (inT_1 (i := 131) rfl rfl)
theorem ml_4_3 : inW (.methodLink "SiltShare$Names" 3 objectInit) := (inT_1 (i := 113) rfl rfl)
theorem ml_4_9 : inW (.methodLink "SiltShare$Names" 9 Lib.Math.max.name) := (inT_1 (i := 114) rfl rfl)
theorem fl_4_15 : FL "SiltShare$Names" 15 4 0 true (.array .int) := ⟨RX4, TX4, 2, tyX4, kl_4, by decide, (inT_1 (i := 117) rfl rfl), rfl, rfl, rfl⟩
theorem fl_7_58 : FL "SiltShare$River" 58 4 1 false .int := ⟨RX4, TX4, 2, tyX4, kl_4, by decide, (inT_1 (i := 119) rfl rfl), rfl, rfl, rfl⟩
theorem fl_7_62 : FL "SiltShare$River" 62 1 1 false .int := ⟨RX1, TX1, 2, tyX1, kl_1, by decide, (inT_1 (i := 72) rfl rfl), rfl, rfl, rfl⟩
theorem fl_7_65 : FL "SiltShare$River" 65 7 11 false .int := ⟨RX7, TX7, 16, tyX7, kl_7, by decide, (inT_1 (i := 178) rfl rfl), rfl, rfl, rfl⟩
theorem fl_7_68 : FL "SiltShare$River" 68 7 12 false .int := ⟨RX7, TX7, 16, tyX7, kl_7, by decide, (inT_1 (i := 181) rfl rfl), rfl, rfl, rfl⟩
theorem fl_7_71 : FL "SiltShare$River" 71 7 13 false .int := ⟨RX7, TX7, 16, tyX7, kl_7, by decide, (inT_1 (i := 185) rfl rfl), rfl, rfl, rfl⟩
theorem fl_7_74 : FL "SiltShare$River" 74 7 14 false .int := ⟨RX7, TX7, 16, tyX7, kl_7, by decide, (inT_1 (i := 188) rfl rfl), rfl, rfl, rfl⟩
theorem fl_7_77 : FL "SiltShare$River" 77 7 15 false .int := ⟨RX7, TX7, 16, tyX7, kl_7, by decide, (inT_1 (i := 191) rfl rfl), rfl, rfl, rfl⟩
theorem ml_9_3 : inW (.methodLink "SiltShare$Silt" 3 objectInit) := (inT_1 (i := 232) rfl rfl)
theorem fl_9_9 : FL "SiltShare$Silt" 9 9 0 true (.array .int) := ⟨RX9, TX9, 5, tyX9, kl_9, by decide, (inT_1 (i := 233) rfl rfl), rfl, rfl, rfl⟩
theorem fl_9_15 : FL "SiltShare$Silt" 15 9 1 true (.array .int) := ⟨RX9, TX9, 5, tyX9, kl_9, by decide, (inT_1 (i := 237) rfl rfl), rfl, rfl, rfl⟩
theorem fl_9_18 : FL "SiltShare$Silt" 18 9 2 true (.array .int) := ⟨RX9, TX9, 5, tyX9, kl_9, by decide, (inT_2 (i := 1) rfl rfl), rfl, rfl, rfl⟩
theorem fl_9_21 : FL "SiltShare$Silt" 21 9 3 true (.array .int) := ⟨RX9, TX9, 5, tyX9, kl_9, by decide, (inT_2 (i := 6) rfl rfl), rfl, rfl, rfl⟩
theorem ml_5_3 : inW (.methodLink "SiltShare$Past" 3 objectInit) := (inT_2 (i := 30) rfl rfl)
theorem fl_5_11 : FL "SiltShare$Past" 11 5 0 true (.array .int) := ⟨RX5, TX5, 3, tyX5, kl_5, by decide, (inT_2 (i := 31) rfl rfl), rfl, rfl, rfl⟩
theorem ml_6_3 : inW (.methodLink "SiltShare$Reckoner" 3 objectInit) := (inT_2 (i := 47) rfl rfl)
theorem fl_6_9 : FL "SiltShare$Reckoner" 9 6 0 true (.array .int) := ⟨RX6, TX6, 5, tyX6, kl_6, by decide, (inT_2 (i := 48) rfl rfl), rfl, rfl, rfl⟩
theorem fl_6_15 : FL "SiltShare$Reckoner" 15 6 1 true (.array .int) := ⟨RX6, TX6, 5, tyX6, kl_6, by decide, (inT_2 (i := 49) rfl rfl), rfl, rfl, rfl⟩
theorem fl_6_18 : FL "SiltShare$Reckoner" 18 6 2 true (.array .int) := ⟨RX6, TX6, 5, tyX6, kl_6, by decide, (inT_2 (i := 51) rfl rfl), rfl, rfl, rfl⟩
theorem fl_6_21 : FL "SiltShare$Reckoner" 21 6 3 true (.array .int) := ⟨RX6, TX6, 5, tyX6, kl_6, by decide, (inT_2 (i := 53) rfl rfl), rfl, rfl, rfl⟩
theorem ml_8_3 : inW (.methodLink "SiltShare$RiverReader" 3 objectInit) := (inT_2 (i := 72) rfl rfl)
theorem fl_8_9 : FL "SiltShare$RiverReader" 9 8 0 true (.object "SiltShare$Text") := ⟨RX8, TX8, 3, tyX8, kl_8, by decide, (inT_2 (i := 73) rfl rfl), rfl, rfl, rfl⟩
theorem fl_8_15 : FL "SiltShare$RiverReader" 15 8 1 true (.object "SiltShare$Grammar") := ⟨RX8, TX8, 3, tyX8, kl_8, by decide, (inT_2 (i := 74) rfl rfl), rfl, rfl, rfl⟩
theorem fl_8_19 : FL "SiltShare$RiverReader" 19 8 2 false (.object "SiltShare$River") := ⟨RX8, TX8, 3, tyX8, kl_8, by decide, (inT_2 (i := 75) rfl rfl), rfl, rfl, rfl⟩
theorem ml_0_3 : inW (.methodLink "SiltShare$Flood" 3 objectInit) := (inT_2 (i := 88) rfl rfl)
theorem fl_0_9 : FL "SiltShare$Flood" 9 0 1 true (.array .int) := ⟨RX0, TX0, 8, tyX0, kl_0, by decide, (inT_2 (i := 90) rfl rfl), rfl, rfl, rfl⟩
theorem fl_0_15 : FL "SiltShare$Flood" 15 0 2 true (.array .int) := ⟨RX0, TX0, 8, tyX0, kl_0, by decide, (inT_2 (i := 92) rfl rfl), rfl, rfl, rfl⟩
theorem fl_0_18 : FL "SiltShare$Flood" 18 0 3 true (.array .int) := ⟨RX0, TX0, 8, tyX0, kl_0, by decide, (inT_2 (i := 93) rfl rfl), rfl, rfl, rfl⟩
theorem fl_0_21 : FL "SiltShare$Flood" 21 0 4 true (.array .int) := ⟨RX0, TX0, 8, tyX0, kl_0, by decide, (inT_2 (i := 95) rfl rfl), rfl, rfl, rfl⟩
theorem fl_0_24 : FL "SiltShare$Flood" 24 0 0 true (.object "SiltShare$Reckoner") := ⟨RX0, TX0, 8, tyX0, kl_0, by decide, (inT_2 (i := 89) rfl rfl), rfl, rfl, rfl⟩
theorem fl_0_28 : FL "SiltShare$Flood" 28 0 5 false (.object "SiltShare$River") := ⟨RX0, TX0, 8, tyX0, kl_0, by decide, (inT_2 (i := 97) rfl rfl), rfl, rfl, rfl⟩
theorem fl_0_32 : FL "SiltShare$Flood" 32 0 6 false (.object "SiltShare$Silt") := ⟨RX0, TX0, 8, tyX0, kl_0, by decide, (inT_2 (i := 99) rfl rfl), rfl, rfl, rfl⟩
theorem ml_3_3 : inW (.methodLink "SiltShare$Mason" 3 objectInit) := (inT_2 (i := 124) rfl rfl)
theorem fl_3_9 : FL "SiltShare$Mason" 9 3 1 true (.array .int) := ⟨RX3, TX3, 3, tyX3, kl_3, by decide, (inT_2 (i := 126) rfl rfl), rfl, rfl, rfl⟩
theorem fl_3_15 : FL "SiltShare$Mason" 15 3 2 false .int := ⟨RX3, TX3, 3, tyX3, kl_3, by decide, (inT_2 (i := 127) rfl rfl), rfl, rfl, rfl⟩
theorem fl_3_19 : FL "SiltShare$Mason" 19 3 0 true (.object "SiltShare$Flood") := ⟨RX3, TX3, 3, tyX3, kl_3, by decide, (inT_2 (i := 125) rfl rfl), rfl, rfl, rfl⟩
theorem fl_11_110 : FL "SiltShare" 110 10 1 false .int := ⟨RX10, TX10, 6, tyX10, kl_10, by decide, (inT_1 (i := 35) rfl rfl), rfl, rfl, rfl⟩
theorem ml_11_113 : inW (.methodLink "SiltShare" 113 m_X11_refuse.1) := (inT_2 (i := 200) rfl rfl)
theorem ml_11_117 : inW (.methodLink "SiltShare" 117 m_X10_append.1) := (inT_2 (i := 204) rfl rfl)
theorem fl_10_19 : FL "SiltShare$Text" 19 10 1 false .int := ⟨RX10, TX10, 6, tyX10, kl_10, by decide, (inT_1 (i := 36) rfl rfl), rfl, rfl, rfl⟩
theorem ml_11_121 : inW (.methodLink "SiltShare" 121 m_X11_refuseAct.1) := (inT_2 (i := 212) rfl rfl)
theorem ml_11_125 : inW (.methodLink "SiltShare" 125 m_X10_begin.1) := (inT_2 (i := 220) rfl rfl)
theorem ml_11_128 : inW (.methodLink "SiltShare" 128 m_X8_read.1) := (inT_2 (i := 224) rfl rfl)
theorem ml_11_132 : inW (.methodLink "SiltShare" 132 m_X11_keepFault.1) := (inT_4 (i := 5) rfl rfl)
theorem ml_11_135 : inW (.methodLink "SiltShare" 135 m_X9_clear.1) := (inT_4 (i := 9) rfl rfl)
theorem ml_11_139 : inW (.methodLink "SiltShare" 139 m_X5_clear.1) := (inT_4 (i := 13) rfl rfl)
theorem fl_11_141 : FL "SiltShare" 141 11 15 false .boolean := ⟨RX11, TX11, 20, tyX11, kl_11, by decide, (inT_2 (i := 150) rfl rfl), rfl, rfl, rfl⟩
theorem fl_11_145 : FL "SiltShare" 145 7 11 false .int := ⟨RX7, TX7, 16, tyX7, kl_7, by decide, (inT_1 (i := 180) rfl rfl), rfl, rfl, rfl⟩
theorem fl_10_26 : FL "SiltShare$Text" 26 10 2 false .int := ⟨RX10, TX10, 6, tyX10, kl_10, by decide, (inT_1 (i := 38) rfl rfl), rfl, rfl, rfl⟩
theorem fl_10_29 : FL "SiltShare$Text" 29 10 3 false .int := ⟨RX10, TX10, 6, tyX10, kl_10, by decide, (inT_1 (i := 39) rfl rfl), rfl, rfl, rfl⟩
theorem fl_10_32 : FL "SiltShare$Text" 32 10 4 false .int := ⟨RX10, TX10, 6, tyX10, kl_10, by decide, (inT_1 (i := 43) rfl rfl), rfl, rfl, rfl⟩
theorem ml_8_23 : inW (.methodLink "SiltShare$RiverReader" 23 m_X7_clear.1) := (inT_2 (i := 228) rfl rfl)
theorem ml_8_28 : inW (.methodLink "SiltShare$RiverReader" 28 m_X10_isMore.1) := (inT_2 (i := 229) rfl rfl)
theorem fl_8_34 : FL "SiltShare$RiverReader" 34 10 2 false .int := ⟨RX10, TX10, 6, tyX10, kl_10, by decide, (inT_1 (i := 37) rfl rfl), rfl, rfl, rfl⟩
theorem ml_8_38 : inW (.methodLink "SiltShare$RiverReader" 38 m_X10_fail.1) := (inT_2 (i := 237) rfl rfl)
theorem ml_8_42 : inW (.methodLink "SiltShare$RiverReader" 42 m_X8_reaches.1) := (inT_3 (i := 1) rfl rfl)
theorem ml_8_45 : inW (.methodLink "SiltShare$RiverReader" 45 m_X8_statement.1) := (inT_3 (i := 86) rfl rfl)
theorem ml_8_48 : inW (.methodLink "SiltShare$RiverReader" 48 m_X10_needSign.1) := (inT_4 (i := 4) rfl rfl)
theorem fl_8_52 : FL "SiltShare$RiverReader" 52 7 11 false .int := ⟨RX7, TX7, 16, tyX7, kl_7, by decide, (inT_1 (i := 179) rfl rfl), rfl, rfl, rfl⟩
theorem ml_8_55 : inW (.methodLink "SiltShare$RiverReader" 55 m_X10_failHere.1) := (inT_4 (i := 3) rfl rfl)
theorem ml_10_39 : inW (.methodLink "SiltShare$Text" 39 m_X10_next.1) := (inT_2 (i := 233) rfl rfl)
theorem ml_8_60 : inW (.methodLink "SiltShare$RiverReader" 60 m_X10_needWord.1) := (inT_3 (i := 6) rfl rfl)
theorem ml_8_64 : inW (.methodLink "SiltShare$RiverReader" 64 m_X10_number.1) := (inT_3 (i := 78) rfl rfl)
theorem ml_8_68 : inW (.methodLink "SiltShare$RiverReader" 68 Lib.Math.max.name) := (inT_3 (i := 85) rfl rfl)
theorem fl_8_73 : FL "SiltShare$RiverReader" 73 7 12 false .int := ⟨RX7, TX7, 16, tyX7, kl_7, by decide, (inT_1 (i := 182) rfl rfl), rfl, rfl, rfl⟩
theorem fl_8_75 : FL "SiltShare$RiverReader" 75 10 4 false .int := ⟨RX10, TX10, 6, tyX10, kl_10, by decide, (inT_1 (i := 42) rfl rfl), rfl, rfl, rfl⟩
theorem ml_10_69 : inW (.methodLink "SiltShare$Text" 69 m_X10_word.1) := (inT_3 (i := 10) rfl rfl)
theorem ml_10_50 : inW (.methodLink "SiltShare$Text" 50 m_X10_failHere.1) := (inT_3 (i := 73) rfl rfl)
theorem ml_10_22 : inW (.methodLink "SiltShare$Text" 22 m_X10_byteAt.1) := (inT_3 (i := 24) rfl rfl)
theorem ml_10_63 : inW (.methodLink "SiltShare$Text" 63 m_X10_isLetter.1) := (inT_3 (i := 66) rfl rfl)
theorem ml_10_66 : inW (.methodLink "SiltShare$Text" 66 m_X10_isGlued.1) := (inT_3 (i := 69) rfl rfl)
theorem ml_10_35 : inW (.methodLink "SiltShare$Text" 35 m_X10_fail.1) := (inT_3 (i := 77) rfl rfl)
theorem ml_10_42 : inW (.methodLink "SiltShare$Text" 42 m_X10_isDigit.1) := (inT_3 (i := 82) rfl rfl)
theorem ml_8_80 : inW (.methodLink "SiltShare$RiverReader" 80 m_X10_word.1) := (inT_3 (i := 91) rfl rfl)
theorem ml_8_83 : inW (.methodLink "SiltShare$RiverReader" 83 m_X8_slope.1) := (inT_3 (i := 92) rfl rfl)
theorem fl_8_87 : FL "SiltShare$RiverReader" 87 7 0 true (.object "SiltShare$Names") := ⟨RX7, TX7, 16, tyX7, kl_7, by decide, (inT_1 (i := 136) rfl rfl), rfl, rfl, rfl⟩
theorem ml_8_91 : inW (.methodLink "SiltShare$RiverReader" 91 m_X4_isFull.1) := (inT_3 (i := 102) rfl rfl)
theorem ml_8_96 : inW (.methodLink "SiltShare$RiverReader" 96 m_X8_isRoom.1) := (inT_3 (i := 106) rfl rfl)
theorem ml_8_100 : inW (.methodLink "SiltShare$RiverReader" 100 m_X8_given.1) := (inT_3 (i := 110) rfl rfl)
theorem fl_8_106 : FL "SiltShare$RiverReader" 106 7 1 true (.object "SiltShare$Names") := ⟨RX7, TX7, 16, tyX7, kl_7, by decide, (inT_1 (i := 139) rfl rfl), rfl, rfl, rfl⟩
theorem fl_8_111 : FL "SiltShare$RiverReader" 111 7 2 true (.object "SiltShare$Names") := ⟨RX7, TX7, 16, tyX7, kl_7, by decide, (inT_1 (i := 143) rfl rfl), rfl, rfl, rfl⟩
theorem ml_8_114 : inW (.methodLink "SiltShare$RiverReader" 114 m_X8_bankTold.1) := (inT_3 (i := 140) rfl rfl)
theorem fl_8_119 : FL "SiltShare$RiverReader" 119 7 9 true (.object "SiltShare$Formula") := ⟨RX7, TX7, 16, tyX7, kl_7, by decide, (inT_1 (i := 173) rfl rfl), rfl, rfl, rfl⟩
theorem ml_8_122 : inW (.methodLink "SiltShare$RiverReader" 122 m_X1_isTold.1) := (inT_3 (i := 157) rfl rfl)
theorem ml_8_127 : inW (.methodLink "SiltShare$RiverReader" 127 m_X2_sumInto.1) := (inT_3 (i := 161) rfl rfl)
theorem fl_8_135 : FL "SiltShare$RiverReader" 135 7 10 true (.object "SiltShare$Formula") := ⟨RX7, TX7, 16, tyX7, kl_7, by decide, (inT_1 (i := 176) rfl rfl), rfl, rfl, rfl⟩
theorem fl_8_139 : FL "SiltShare$RiverReader" 139 7 13 false .int := ⟨RX7, TX7, 16, tyX7, kl_7, by decide, (inT_1 (i := 186) rfl rfl), rfl, rfl, rfl⟩
theorem fl_8_143 : FL "SiltShare$RiverReader" 143 7 14 false .int := ⟨RX7, TX7, 16, tyX7, kl_7, by decide, (inT_1 (i := 189) rfl rfl), rfl, rfl, rfl⟩
theorem fl_8_147 : FL "SiltShare$RiverReader" 147 7 15 false .int := ⟨RX7, TX7, 16, tyX7, kl_7, by decide, (inT_1 (i := 192) rfl rfl), rfl, rfl, rfl⟩
theorem ml_8_153 : inW (.methodLink "SiltShare$RiverReader" 153 m_X7_hasReach.1) := (inT_3 (i := 97) rfl rfl)
theorem fl_8_157 : FL "SiltShare$RiverReader" 157 7 3 true (.array .int) := ⟨RX7, TX7, 16, tyX7, kl_7, by decide, (inT_1 (i := 148) rfl rfl), rfl, rfl, rfl⟩
theorem fl_4_21 : FL "SiltShare$Names" 21 4 1 false .int := ⟨RX4, TX4, 2, tyX4, kl_4, by decide, (inT_1 (i := 118) rfl rfl), rfl, rfl, rfl⟩
theorem fl_8_149 : FL "SiltShare$RiverReader" 149 10 3 false .int := ⟨RX10, TX10, 6, tyX10, kl_10, by decide, (inT_1 (i := 40) rfl rfl), rfl, rfl, rfl⟩
theorem ml_8_160 : inW (.methodLink "SiltShare$RiverReader" 160 m_X10_name.1) := (inT_3 (i := 114) rfl rfl)
theorem ml_8_164 : inW (.methodLink "SiltShare$RiverReader" 164 m_X7_isNamed.1) := (inT_3 (i := 125) rfl rfl)
theorem ml_8_167 : inW (.methodLink "SiltShare$RiverReader" 167 m_X4_add.1) := (inT_3 (i := 133) rfl rfl)
theorem ml_10_73 : inW (.methodLink "SiltShare$Text" 73 m_X10_packedLetter.1) := (inT_3 (i := 118) rfl rfl)
theorem ml_10_77 : inW (.methodLink "SiltShare$Text" 77 m_X10_isOwnWord.1) := (inT_3 (i := 121) rfl rfl)
theorem ml_7_80 : inW (.methodLink "SiltShare$River" 80 m_X4_indexOf.1) := (inT_3 (i := 129) rfl rfl)
theorem ml_4_25 : inW (.methodLink "SiltShare$Names" 25 m_X4_isFull.1) := (inT_3 (i := 137) rfl rfl)
theorem fl_8_175 : FL "SiltShare$RiverReader" 175 4 1 false .int := ⟨RX4, TX4, 2, tyX4, kl_4, by decide, (inT_1 (i := 123) rfl rfl), rfl, rfl, rfl⟩
theorem ml_8_178 : inW (.methodLink "SiltShare$RiverReader" 178 m_X7_hasBank.1) := (inT_3 (i := 144) rfl rfl)
theorem fl_8_181 : FL "SiltShare$RiverReader" 181 7 4 true (.array .int) := ⟨RX7, TX7, 16, tyX7, kl_7, by decide, (inT_1 (i := 153) rfl rfl), rfl, rfl, rfl⟩
theorem ml_8_185 : inW (.methodLink "SiltShare$RiverReader" 185 m_X8_asked.1) := (inT_3 (i := 149) rfl rfl)
theorem fl_8_189 : FL "SiltShare$RiverReader" 189 7 5 true (.array .int) := ⟨RX7, TX7, 16, tyX7, kl_7, by decide, (inT_1 (i := 158) rfl rfl), rfl, rfl, rfl⟩
theorem fl_8_191 : FL "SiltShare$RiverReader" 191 7 6 true (.array .int) := ⟨RX7, TX7, 16, tyX7, kl_7, by decide, (inT_1 (i := 163) rfl rfl), rfl, rfl, rfl⟩
theorem fl_8_196 : FL "SiltShare$RiverReader" 196 7 7 true (.array .int) := ⟨RX7, TX7, 16, tyX7, kl_7, by decide, (inT_1 (i := 166) rfl rfl), rfl, rfl, rfl⟩
theorem fl_8_201 : FL "SiltShare$RiverReader" 201 7 8 true (.array .int) := ⟨RX7, TX7, 16, tyX7, kl_7, by decide, (inT_1 (i := 171) rfl rfl), rfl, rfl, rfl⟩
theorem ml_8_171 : inW (.methodLink "SiltShare$RiverReader" 171 m_X4_indexOf.1) := (inT_3 (i := 153) rfl rfl)
theorem fl_1_15 : FL "SiltShare$Formula" 15 1 1 false .int := ⟨RX1, TX1, 2, tyX1, kl_1, by decide, (inT_1 (i := 70) rfl rfl), rfl, rfl, rfl⟩
theorem ml_2_22 : inW (.methodLink "SiltShare$Grammar" 22 m_X2_begin.1) := (inT_3 (i := 165) rfl rfl)
theorem ml_2_26 : inW (.methodLink "SiltShare$Grammar" 26 m_X2_sum.1) := (inT_3 (i := 169) rfl rfl)
theorem fl_2_45 : FL "SiltShare$Grammar" 45 1 1 false .int := ⟨RX1, TX1, 2, tyX1, kl_1, by decide, (inT_1 (i := 73) rfl rfl), rfl, rfl, rfl⟩
theorem fl_2_51 : FL "SiltShare$Grammar" 51 2 3 false .int := ⟨RX2, TX2, 5, tyX2, kl_2, by decide, (inT_1 (i := 89) rfl rfl), rfl, rfl, rfl⟩
theorem fl_2_54 : FL "SiltShare$Grammar" 54 2 4 false .boolean := ⟨RX2, TX2, 5, tyX2, kl_2, by decide, (inT_1 (i := 90) rfl rfl), rfl, rfl, rfl⟩
theorem ml_2_108 : inW (.methodLink "SiltShare$Grammar" 108 m_X2_product.1) := (inT_3 (i := 173) rfl rfl)
theorem ml_2_96 : inW (.methodLink "SiltShare$Grammar" 96 m_X10_sign.1) := (inT_3 (i := 194) rfl rfl)
theorem ml_2_79 : inW (.methodLink "SiltShare$Grammar" 79 m_X2_put.1) := (inT_3 (i := 186) rfl rfl)
theorem ml_2_111 : inW (.methodLink "SiltShare$Grammar" 111 m_X2_part.1) := (inT_3 (i := 177) rfl rfl)
theorem ml_2_114 : inW (.methodLink "SiltShare$Grammar" 114 m_X10_isDigitNext.1) := (inT_3 (i := 181) rfl rfl)
theorem ml_2_117 : inW (.methodLink "SiltShare$Grammar" 117 m_X10_number.1) := (inT_3 (i := 185) rfl rfl)
theorem ml_2_90 : inW (.methodLink "SiltShare$Grammar" 90 m_X2_goIn.1) := (inT_3 (i := 198) rfl rfl)
theorem ml_2_100 : inW (.methodLink "SiltShare$Grammar" 100 m_X10_needSign.1) := (inT_3 (i := 203) rfl rfl)
theorem ml_2_93 : inW (.methodLink "SiltShare$Grammar" 93 m_X2_goOut.1) := (inT_3 (i := 208) rfl rfl)
theorem ml_2_60 : inW (.methodLink "SiltShare$Grammar" 60 m_X10_word.1) := (inT_3 (i := 213) rfl rfl)
theorem ml_2_123 : inW (.methodLink "SiltShare$Grammar" 123 m_X2_pair.1) := (inT_3 (i := 214) rfl rfl)
theorem ml_2_130 : inW (.methodLink "SiltShare$Grammar" 130 m_X2_askedPart.1) := (inT_3 (i := 220) rfl rfl)
theorem ml_2_133 : inW (.methodLink "SiltShare$Grammar" 133 m_X2_riverPart.1) := (inT_3 (i := 229) rfl rfl)
theorem fl_2_163 : FL "SiltShare$Grammar" 163 10 4 false .int := ⟨RX10, TX10, 6, tyX10, kl_10, by decide, (inT_1 (i := 44) rfl rfl), rfl, rfl, rfl⟩
theorem ml_2_166 : inW (.methodLink "SiltShare$Grammar" 166 m_X1_put.1) := (inT_3 (i := 190) rfl rfl)
theorem fl_2_156 : FL "SiltShare$Grammar" 156 10 3 false .int := ⟨RX10, TX10, 6, tyX10, kl_10, by decide, (inT_1 (i := 41) rfl rfl), rfl, rfl, rfl⟩
theorem ml_2_159 : inW (.methodLink "SiltShare$Grammar" 159 m_X10_fail.1) := (inT_3 (i := 202) rfl rfl)
theorem ml_10_46 : inW (.methodLink "SiltShare$Text" 46 m_X10_sign.1) := (inT_3 (i := 207) rfl rfl)
theorem ml_2_42 : inW (.methodLink "SiltShare$Grammar" 42 m_X10_failHere.1) := (inT_3 (i := 228) rfl rfl)
theorem fl_11_366 : FL "SiltShare" 366 10 4 false .int := ⟨RX10, TX10, 6, tyX10, kl_10, by decide, (inT_1 (i := 45) rfl rfl), rfl, rfl, rfl⟩
theorem fl_11_148 : FL "SiltShare" 148 11 18 false .int := ⟨RX11, TX11, 20, tyX11, kl_11, by decide, (inT_2 (i := 153) rfl rfl), rfl, rfl, rfl⟩
theorem fl_11_369 : FL "SiltShare" 369 10 5 false .int := ⟨RX10, TX10, 6, tyX10, kl_10, by decide, (inT_1 (i := 47) rfl rfl), rfl, rfl, rfl⟩
theorem fl_9_24 : FL "SiltShare$Silt" 24 9 4 false .int := ⟨RX9, TX9, 5, tyX9, kl_9, by decide, (inT_2 (i := 10) rfl rfl), rfl, rfl, rfl⟩
theorem fl_9_28 : FL "SiltShare$Silt" 28 7 7 true (.array .int) := ⟨RX7, TX7, 16, tyX7, kl_7, by decide, (inT_1 (i := 165) rfl rfl), rfl, rfl, rfl⟩
theorem fl_5_15 : FL "SiltShare$Past" 15 5 2 false .int := ⟨RX5, TX5, 3, tyX5, kl_5, by decide, (inT_2 (i := 33) rfl rfl), rfl, rfl, rfl⟩
theorem fl_11_151 : FL "SiltShare" 151 7 12 false .int := ⟨RX7, TX7, 16, tyX7, kl_7, by decide, (inT_1 (i := 183) rfl rfl), rfl, rfl, rfl⟩
theorem fl_11_154 : FL "SiltShare" 154 7 0 true (.object "SiltShare$Names") := ⟨RX7, TX7, 16, tyX7, kl_7, by decide, (inT_1 (i := 137) rfl rfl), rfl, rfl, rfl⟩
theorem fl_11_158 : FL "SiltShare" 158 4 1 false .int := ⟨RX4, TX4, 2, tyX4, kl_4, by decide, (inT_1 (i := 122) rfl rfl), rfl, rfl, rfl⟩
theorem fl_11_163 : FL "SiltShare" 163 7 1 true (.object "SiltShare$Names") := ⟨RX7, TX7, 16, tyX7, kl_7, by decide, (inT_1 (i := 140) rfl rfl), rfl, rfl, rfl⟩
theorem fl_11_166 : FL "SiltShare" 166 7 2 true (.object "SiltShare$Names") := ⟨RX7, TX7, 16, tyX7, kl_7, by decide, (inT_1 (i := 145) rfl rfl), rfl, rfl, rfl⟩
theorem fl_11_169 : FL "SiltShare" 169 7 13 false .int := ⟨RX7, TX7, 16, tyX7, kl_7, by decide, (inT_1 (i := 187) rfl rfl), rfl, rfl, rfl⟩
theorem fl_11_172 : FL "SiltShare" 172 7 14 false .int := ⟨RX7, TX7, 16, tyX7, kl_7, by decide, (inT_1 (i := 190) rfl rfl), rfl, rfl, rfl⟩
theorem fl_11_175 : FL "SiltShare" 175 7 15 false .int := ⟨RX7, TX7, 16, tyX7, kl_7, by decide, (inT_1 (i := 193) rfl rfl), rfl, rfl, rfl⟩
theorem fl_11_178 : FL "SiltShare" 178 9 4 false .int := ⟨RX9, TX9, 5, tyX9, kl_9, by decide, (inT_2 (i := 12) rfl rfl), rfl, rfl, rfl⟩
theorem fl_11_181 : FL "SiltShare" 181 9 0 true (.array .int) := ⟨RX9, TX9, 5, tyX9, kl_9, by decide, (inT_1 (i := 236) rfl rfl), rfl, rfl, rfl⟩
theorem ml_11_184 : inW (.methodLink "SiltShare" 184 m_X11_total.1) := (inT_4 (i := 25) rfl rfl)
theorem fl_11_188 : FL "SiltShare" 188 9 2 true (.array .int) := ⟨RX9, TX9, 5, tyX9, kl_9, by decide, (inT_2 (i := 5) rfl rfl), rfl, rfl, rfl⟩
theorem fl_11_191 : FL "SiltShare" 191 9 1 true (.array .int) := ⟨RX9, TX9, 5, tyX9, kl_9, by decide, (inT_1 (i := 239) rfl rfl), rfl, rfl, rfl⟩
theorem fl_11_194 : FL "SiltShare" 194 9 3 true (.array .int) := ⟨RX9, TX9, 5, tyX9, kl_9, by decide, (inT_2 (i := 8) rfl rfl), rfl, rfl, rfl⟩
theorem fl_11_197 : FL "SiltShare" 197 5 2 false .int := ⟨RX5, TX5, 3, tyX5, kl_5, by decide, (inT_2 (i := 34) rfl rfl), rfl, rfl, rfl⟩
theorem ml_11_198 : inW (.methodLink "SiltShare" 198 m_X4_letterOf.1) := (inT_4 (i := 32) rfl rfl)
theorem ml_11_202 : inW (.methodLink "SiltShare" 202 m_X7_hasBank.1) := (inT_4 (i := 40) rfl rfl)
theorem fl_11_205 : FL "SiltShare" 205 7 4 true (.array .int) := ⟨RX7, TX7, 16, tyX7, kl_7, by decide, (inT_1 (i := 152) rfl rfl), rfl, rfl, rfl⟩
theorem fl_11_208 : FL "SiltShare" 208 7 5 true (.array .int) := ⟨RX7, TX7, 16, tyX7, kl_7, by decide, (inT_1 (i := 157) rfl rfl), rfl, rfl, rfl⟩
theorem fl_11_211 : FL "SiltShare" 211 7 6 true (.array .int) := ⟨RX7, TX7, 16, tyX7, kl_7, by decide, (inT_1 (i := 162) rfl rfl), rfl, rfl, rfl⟩
theorem fl_11_214 : FL "SiltShare" 214 7 8 true (.array .int) := ⟨RX7, TX7, 16, tyX7, kl_7, by decide, (inT_1 (i := 170) rfl rfl), rfl, rfl, rfl⟩
theorem ml_11_217 : inW (.methodLink "SiltShare" 217 m_X9_lyingOf.1) := (inT_4 (i := 41) rfl rfl)
theorem ml_9_39 : ("SiltShare$Silt", 39, m_X11_cell.1, "SiltShare") ∈ nsLk := List.mem_of_getElem? (i := 6) rfl
theorem ml_11_220 : inW (.methodLink "SiltShare" 220 m_X7_hasReach.1) := (inT_4 (i := 52) rfl rfl)
theorem fl_11_223 : FL "SiltShare" 223 7 3 true (.array .int) := ⟨RX7, TX7, 16, tyX7, kl_7, by decide, (inT_1 (i := 149) rfl rfl), rfl, rfl, rfl⟩
theorem ml_11_226 : inW (.methodLink "SiltShare" 226 m_X9_lyingIn.1) := (inT_4 (i := 53) rfl rfl)
theorem ml_11_229 : inW (.methodLink "SiltShare" 229 m_X11_isIsland.1) := (inT_4 (i := 57) rfl rfl)
theorem ml_11_232 : inW (.methodLink "SiltShare" 232 m_X11_majority.1) := (inT_4 (i := 61) rfl rfl)
theorem ml_11_235 : inW (.methodLink "SiltShare" 235 m_X11_landFrom.1) := (inT_4 (i := 73) rfl rfl)
theorem ml_11_238 : inW (.methodLink "SiltShare" 238 m_X11_landTo.1) := (inT_4 (i := 81) rfl rfl)
theorem ml_11_241 : inW (.methodLink "SiltShare" 241 m_X11_vote.1) := (inT_4 (i := 85) rfl rfl)
theorem ml_11_330 : inW (.methodLink "SiltShare" 330 m_X11_hasMajority.1) := (inT_4 (i := 65) rfl rfl)
theorem ml_11_250 : inW (.methodLink "SiltShare" 250 m_X9_owned.1) := (inT_4 (i := 69) rfl rfl)
theorem fl_9_43 : FL "SiltShare$Silt" 43 7 2 true (.object "SiltShare$Names") := ⟨RX7, TX7, 16, tyX7, kl_7, by decide, (inT_1 (i := 144) rfl rfl), rfl, rfl, rfl⟩
theorem fl_9_47 : FL "SiltShare$Silt" 47 4 1 false .int := ⟨RX4, TX4, 2, tyX4, kl_4, by decide, (inT_1 (i := 121) rfl rfl), rfl, rfl, rfl⟩
theorem fl_9_52 : FL "SiltShare$Silt" 52 7 4 true (.array .int) := ⟨RX7, TX7, 16, tyX7, kl_7, by decide, (inT_1 (i := 151) rfl rfl), rfl, rfl, rfl⟩
theorem ml_11_387 : inW (.methodLink "SiltShare" 387 m_X11_isJoined.1) := (inT_4 (i := 77) rfl rfl)
theorem ml_11_244 : inW (.methodLink "SiltShare" 244 m_X11_cell.1) := (inT_4 (i := 93) rfl rfl)
theorem ml_11_247 : inW (.methodLink "SiltShare" 247 m_X7_hasOwner.1) := (inT_4 (i := 98) rfl rfl)
theorem ml_11_254 : inW (.methodLink "SiltShare" 254 m_X11_thousandths.1) := (inT_4 (i := 102) rfl rfl)
theorem ml_11_257 : inW (.methodLink "SiltShare" 257 m_X7_hasColour.1) := (inT_4 (i := 109) rfl rfl)
theorem ml_11_260 : inW (.methodLink "SiltShare" 260 m_X9_coloured.1) := (inT_4 (i := 113) rfl rfl)
theorem fl_9_55 : FL "SiltShare$Silt" 55 7 5 true (.array .int) := ⟨RX7, TX7, 16, tyX7, kl_7, by decide, (inT_1 (i := 156) rfl rfl), rfl, rfl, rfl⟩
theorem ml_11_263 : inW (.methodLink "SiltShare" 263 m_X11_isLevel.1) := (inT_4 (i := 121) rfl rfl)
theorem ml_11_266 : inW (.methodLink "SiltShare" 266 m_X0_aim.1) := (inT_4 (i := 124) rfl rfl)
theorem ml_11_270 : inW (.methodLink "SiltShare" 270 m_X0_flowIn.1) := (inT_4 (i := 131) rfl rfl)
theorem fl_0_36 : FL "SiltShare$Flood" 36 0 7 false .int := ⟨RX0, TX0, 8, tyX0, kl_0, by decide, (inT_2 (i := 101) rfl rfl), rfl, rfl, rfl⟩
theorem fl_0_40 : FL "SiltShare$Flood" 40 9 0 true (.array .int) := ⟨RX9, TX9, 5, tyX9, kl_9, by decide, (inT_1 (i := 234) rfl rfl), rfl, rfl, rfl⟩
theorem ml_0_43 : inW (.methodLink "SiltShare$Flood" 43 arraycopyName) := (inT_4 (i := 128) rfl rfl)
theorem fl_0_80 : FL "SiltShare$Flood" 80 7 3 true (.array .int) := ⟨RX7, TX7, 16, tyX7, kl_7, by decide, (inT_1 (i := 147) rfl rfl), rfl, rfl, rfl⟩
theorem ml_0_49 : inW (.methodLink "SiltShare$Flood" 49 Lib.Math.max.name) := (inT_4 (i := 135) rfl rfl)
theorem ml_11_273 : inW (.methodLink "SiltShare" 273 m_X0_cutOf.1) := (inT_4 (i := 140) rfl rfl)
theorem fl_0_83 : FL "SiltShare$Flood" 83 7 9 true (.object "SiltShare$Formula") := ⟨RX7, TX7, 16, tyX7, kl_7, by decide, (inT_1 (i := 174) rfl rfl), rfl, rfl, rfl⟩
theorem ml_0_86 : inW (.methodLink "SiltShare$Flood" 86 m_X1_isTold.1) := (inT_4 (i := 144) rfl rfl)
theorem fl_0_69 : FL "SiltShare$Flood" 69 7 6 true (.array .int) := ⟨RX7, TX7, 16, tyX7, kl_7, by decide, (inT_1 (i := 161) rfl rfl), rfl, rfl, rfl⟩
theorem fl_0_92 : FL "SiltShare$Flood" 92 9 2 true (.array .int) := ⟨RX9, TX9, 5, tyX9, kl_9, by decide, (inT_2 (i := 4) rfl rfl), rfl, rfl, rfl⟩
theorem ml_0_95 : inW (.methodLink "SiltShare$Flood" 95 m_X0_tell.1) := (inT_4 (i := 145) rfl rfl)
theorem ml_0_99 : inW (.methodLink "SiltShare$Flood" 99 m_X6_reckon.1) := (inT_4 (i := 150) rfl rfl)
theorem ml_0_105 : ("SiltShare$Flood", 105, m_X11_within.1, "SiltShare") ∈ nsLk := List.mem_of_getElem? (i := 8) rfl
theorem fl_0_118 : FL "SiltShare$Flood" 118 6 1 true (.array .int) := ⟨RX6, TX6, 5, tyX6, kl_6, by decide, (inT_2 (i := 50) rfl rfl), rfl, rfl, rfl⟩
theorem ml_0_115 : inW (.methodLink "SiltShare$Flood" 115 m_X0_flowIn.1) := (inT_4 (i := 149) rfl rfl)
theorem fl_0_112 : FL "SiltShare$Flood" 112 7 8 true (.array .int) := ⟨RX7, TX7, 16, tyX7, kl_7, by decide, (inT_1 (i := 169) rfl rfl), rfl, rfl, rfl⟩
theorem fl_0_121 : FL "SiltShare$Flood" 121 9 4 false .int := ⟨RX9, TX9, 5, tyX9, kl_9, by decide, (inT_2 (i := 13) rfl rfl), rfl, rfl, rfl⟩
theorem fl_6_24 : FL "SiltShare$Reckoner" 24 6 4 false .int := ⟨RX6, TX6, 5, tyX6, kl_6, by decide, (inT_2 (i := 55) rfl rfl), rfl, rfl, rfl⟩
theorem fl_6_28 : FL "SiltShare$Reckoner" 28 1 1 false .int := ⟨RX1, TX1, 2, tyX1, kl_1, by decide, (inT_1 (i := 71) rfl rfl), rfl, rfl, rfl⟩
theorem fl_6_33 : FL "SiltShare$Reckoner" 33 1 0 true (.array .int) := ⟨RX1, TX1, 2, tyX1, kl_1, by decide, (inT_1 (i := 69) rfl rfl), rfl, rfl, rfl⟩
theorem ml_6_36 : inW (.methodLink "SiltShare$Reckoner" 36 m_X6_push.1) := (inT_4 (i := 154) rfl rfl)
theorem ml_6_40 : inW (.methodLink "SiltShare$Reckoner" 40 m_X6_entry.1) := (inT_4 (i := 158) rfl rfl)
theorem ml_6_44 : inW (.methodLink "SiltShare$Reckoner" 44 m_X6_pop.1) := (inT_4 (i := 161) rfl rfl)
theorem ml_6_48 : inW (.methodLink "SiltShare$Reckoner" 48 m_X6_join.1) := (inT_4 (i := 165) rfl rfl)
theorem ml_6_54 : ("SiltShare$Reckoner", 54, m_X11_within.1, "SiltShare") ∈ nsLk := List.mem_of_getElem? (i := 7) rfl
theorem ml_6_58 : inW (.methodLink "SiltShare$Reckoner" 58 m_JM_floorDiv.1) := (inT_4 (i := 174) rfl rfl)
theorem ml_6_64 : inW (.methodLink "SiltShare$Reckoner" 64 Lib.Math.min.name) := (inT_4 (i := 177) rfl rfl)
theorem ml_6_67 : inW (.methodLink "SiltShare$Reckoner" 67 Lib.Math.max.name) := (inT_4 (i := 180) rfl rfl)
theorem ml_11_276 : inW (.methodLink "SiltShare" 276 m_X11_imagine.1) := (inT_4 (i := 186) rfl rfl)
theorem fl_11_279 : FL "SiltShare" 279 0 3 true (.array .int) := ⟨RX0, TX0, 8, tyX0, kl_0, by decide, (inT_2 (i := 94) rfl rfl), rfl, rfl, rfl⟩
theorem ml_11_373 : inW (.methodLink "SiltShare" 373 m_X0_run.1) := (inT_4 (i := 190) rfl rfl)
theorem fl_0_55 : FL "SiltShare$Flood" 55 7 2 true (.object "SiltShare$Names") := ⟨RX7, TX7, 16, tyX7, kl_7, by decide, (inT_1 (i := 142) rfl rfl), rfl, rfl, rfl⟩
theorem fl_0_61 : FL "SiltShare$Flood" 61 4 1 false .int := ⟨RX4, TX4, 2, tyX4, kl_4, by decide, (inT_1 (i := 120) rfl rfl), rfl, rfl, rfl⟩
theorem ml_0_66 : ("SiltShare$Flood", 66, m_X11_cell.1, "SiltShare") ∈ nsLk := List.mem_of_getElem? (i := 9) rfl
theorem ml_0_72 : inW (.methodLink "SiltShare$Flood" 72 m_X0_cutOf.1) := (inT_4 (i := 195) rfl rfl)
theorem ml_0_76 : inW (.methodLink "SiltShare$Flood" 76 m_X0_settling.1) := (inT_4 (i := 196) rfl rfl)
theorem fl_0_109 : FL "SiltShare$Flood" 109 7 10 true (.object "SiltShare$Formula") := ⟨RX7, TX7, 16, tyX7, kl_7, by decide, (inT_1 (i := 177) rfl rfl), rfl, rfl, rfl⟩
theorem fl_11_282 : FL "SiltShare" 282 0 4 true (.array .int) := ⟨RX0, TX0, 8, tyX0, kl_0, by decide, (inT_2 (i := 96) rfl rfl), rfl, rfl, rfl⟩
theorem ml_11_285 : inW (.methodLink "SiltShare" 285 m_X0_taken.1) := (inT_4 (i := 208) rfl rfl)
theorem ml_11_289 : inW (.methodLink "SiltShare" 289 m_X0_settledGrains.1) := (inT_4 (i := 212) rfl rfl)
theorem ml_11_292 : inW (.methodLink "SiltShare" 292 m_X0_toSea.1) := (inT_4 (i := 220) rfl rfl)
theorem ml_11_295 : inW (.methodLink "SiltShare" 295 m_X0_mostSettled.1) := (inT_4 (i := 224) rfl rfl)
theorem fl_0_134 : FL "SiltShare$Flood" 134 7 12 false .int := ⟨RX7, TX7, 16, tyX7, kl_7, by decide, (inT_1 (i := 184) rfl rfl), rfl, rfl, rfl⟩
theorem ml_0_143 : inW (.methodLink "SiltShare$Flood" 143 m_X0_settledIn.1) := (inT_4 (i := 216) rfl rfl)
theorem ml_11_298 : inW (.methodLink "SiltShare" 298 m_X5_store.1) := (inT_4 (i := 232) rfl rfl)
theorem ml_11_302 : inW (.methodLink "SiltShare" 302 m_X11_passYear.1) := (inT_4 (i := 238) rfl rfl)
theorem fl_5_19 : FL "SiltShare$Past" 19 5 1 false .int := ⟨RX5, TX5, 3, tyX5, kl_5, by decide, (inT_2 (i := 32) rfl rfl), rfl, rfl, rfl⟩
theorem fl_5_22 : FL "SiltShare$Past" 22 9 4 false .int := ⟨RX9, TX9, 5, tyX9, kl_9, by decide, (inT_2 (i := 11) rfl rfl), rfl, rfl, rfl⟩
theorem fl_5_27 : FL "SiltShare$Past" 27 9 0 true (.array .int) := ⟨RX9, TX9, 5, tyX9, kl_9, by decide, (inT_1 (i := 235) rfl rfl), rfl, rfl, rfl⟩
theorem ml_5_30 : inW (.methodLink "SiltShare$Past" 30 arraycopyName) := (inT_4 (i := 236) rfl rfl)
theorem fl_5_36 : FL "SiltShare$Past" 36 9 1 true (.array .int) := ⟨RX9, TX9, 5, tyX9, kl_9, by decide, (inT_1 (i := 238) rfl rfl), rfl, rfl, rfl⟩
theorem fl_5_39 : FL "SiltShare$Past" 39 9 2 true (.array .int) := ⟨RX9, TX9, 5, tyX9, kl_9, by decide, (inT_2 (i := 3) rfl rfl), rfl, rfl, rfl⟩
theorem fl_5_42 : FL "SiltShare$Past" 42 9 3 true (.array .int) := ⟨RX9, TX9, 5, tyX9, kl_9, by decide, (inT_2 (i := 7) rfl rfl), rfl, rfl, rfl⟩
theorem ml_5_45 : inW (.methodLink "SiltShare$Past" 45 Lib.Math.min.name) := (inT_4 (i := 237) rfl rfl)
theorem ml_11_376 : inW (.methodLink "SiltShare" 376 m_X0_lay.1) := (inT_5 (i := 2) rfl rfl)
theorem ml_11_379 : inW (.methodLink "SiltShare" 379 m_X9_payInterest.1) := (inT_5 (i := 6) rfl rfl)
theorem fl_0_159 : FL "SiltShare$Flood" 159 9 1 true (.array .int) := ⟨RX9, TX9, 5, tyX9, kl_9, by decide, (inT_2 (i := 0) rfl rfl), rfl, rfl, rfl⟩
theorem fl_0_160 : FL "SiltShare$Flood" 160 9 3 true (.array .int) := ⟨RX9, TX9, 5, tyX9, kl_9, by decide, (inT_2 (i := 9) rfl rfl), rfl, rfl, rfl⟩
theorem ml_11_306 : inW (.methodLink "SiltShare" 306 m_X11_draw.1) := (inT_5 (i := 14) rfl rfl)
theorem ml_11_309 : inW (.methodLink "SiltShare" 309 m_X5_giveBack.1) := (inT_5 (i := 32) rfl rfl)
theorem ml_11_313 : inW (.methodLink "SiltShare" 313 m_X11_isStoneQuestion.1) := (inT_5 (i := 44) rfl rfl)
theorem ml_11_316 : inW (.methodLink "SiltShare" 316 m_X3_seekShare.1) := (inT_5 (i := 48) rfl rfl)
theorem ml_11_320 : inW (.methodLink "SiltShare" 320 m_X3_answer.1) := (inT_5 (i := 79) rfl rfl)
theorem ml_3_23 : inW (.methodLink "SiltShare$Mason" 23 m_X3_begin.1) := (inT_5 (i := 52) rfl rfl)
theorem fl_3_37 : FL "SiltShare$Mason" 37 0 1 true (.array .int) := ⟨RX0, TX0, 8, tyX0, kl_0, by decide, (inT_2 (i := 91) rfl rfl), rfl, rfl, rfl⟩
theorem ml_3_56 : ("SiltShare$Mason", 56, m_X11_total.1, "SiltShare") ∈ nsLk := List.mem_of_getElem? (i := 10) rfl
theorem ml_3_60 : inW (.methodLink "SiltShare$Mason" 60 m_X0_run.1) := (inT_5 (i := 57) rfl rfl)
theorem ml_3_64 : inW (.methodLink "SiltShare$Mason" 64 m_X0_shareLeft.1) := (inT_5 (i := 58) rfl rfl)
theorem ml_3_53 : inW (.methodLink "SiltShare$Mason" 53 m_X3_keepBest.1) := (inT_5 (i := 69) rfl rfl)
theorem ml_3_68 : inW (.methodLink "SiltShare$Mason" 68 m_X3_countUp.1) := (inT_5 (i := 74) rfl rfl)
theorem ml_3_71 : inW (.methodLink "SiltShare$Mason" 71 Lib.Math.min.name) := (inT_5 (i := 78) rfl rfl)
theorem ml_0_149 : inW (.methodLink "SiltShare$Flood" 149 m_X9_owned.1) := (inT_5 (i := 62) rfl rfl)
theorem fl_0_153 : FL "SiltShare$Flood" 153 7 4 true (.array .int) := ⟨RX7, TX7, 16, tyX7, kl_7, by decide, (inT_1 (i := 154) rfl rfl), rfl, rfl, rfl⟩
theorem ml_0_137 : inW (.methodLink "SiltShare$Flood" 137 m_X0_leftIn.1) := (inT_5 (i := 63) rfl rfl)
theorem ml_0_156 : ("SiltShare$Flood", 156, m_X11_thousandths.1, "SiltShare") ∈ nsLk := List.mem_of_getElem? (i := 11) rfl
theorem ml_0_146 : inW (.methodLink "SiltShare$Flood" 146 m_X9_lyingIn.1) := (inT_5 (i := 67) rfl rfl)
theorem ml_3_76 : inW (.methodLink "SiltShare$Mason" 76 arraycopyName) := (inT_5 (i := 73) rfl rfl)
theorem ml_11_323 : inW (.methodLink "SiltShare" 323 m_X3_seekHeld.1) := (inT_5 (i := 87) rfl rfl)
theorem fl_3_26 : FL "SiltShare$Mason" 26 0 5 false (.object "SiltShare$River") := ⟨RX0, TX0, 8, tyX0, kl_0, by decide, (inT_2 (i := 98) rfl rfl), rfl, rfl, rfl⟩
theorem fl_3_32 : FL "SiltShare$Mason" 32 7 6 true (.array .int) := ⟨RX7, TX7, 16, tyX7, kl_7, by decide, (inT_1 (i := 160) rfl rfl), rfl, rfl, rfl⟩
theorem fl_3_40 : FL "SiltShare$Mason" 40 0 6 false (.object "SiltShare$Silt") := ⟨RX0, TX0, 8, tyX0, kl_0, by decide, (inT_2 (i := 100) rfl rfl), rfl, rfl, rfl⟩
theorem fl_3_44 : FL "SiltShare$Mason" 44 9 2 true (.array .int) := ⟨RX9, TX9, 5, tyX9, kl_9, by decide, (inT_2 (i := 2) rfl rfl), rfl, rfl, rfl⟩
theorem ml_3_49 : inW (.methodLink "SiltShare$Mason" 49 m_X0_cutOf.1) := (inT_5 (i := 91) rfl rfl)
theorem ml_11_327 : inW (.methodLink "SiltShare" 327 m_X9_copy.1) := (inT_5 (i := 96) rfl rfl)
theorem ml_9_33 : inW (.methodLink "SiltShare$Silt" 33 arraycopyName) := (inT_5 (i := 100) rfl rfl)
theorem ml_11_334 : inW (.methodLink "SiltShare" 334 m_X10_twoAt.1) := (inT_5 (i := 105) rfl rfl)
theorem ml_11_337 : inW (.methodLink "SiltShare" 337 m_X11_isAsFound.1) := (inT_5 (i := 113) rfl rfl)
theorem ml_11_390 : inW (.methodLink "SiltShare" 390 m_X0_leftIn.1) := (inT_5 (i := 117) rfl rfl)
theorem ml_11_341 : inW (.methodLink "SiltShare" 341 m_X11_toldAbove.1) := (inT_5 (i := 122) rfl rfl)
theorem ml_11_382 : inW (.methodLink "SiltShare" 382 Lib.Math.max.name) := (inT_5 (i := 126) rfl rfl)
theorem ml_11_346 : inW (.methodLink "SiltShare" 346 m_X2_question.1) := (inT_5 (i := 132) rfl rfl)
theorem ml_11_348 : inW (.methodLink "SiltShare" 348 m_X11_answer.1) := (inT_5 (i := 167) rfl rfl)
theorem ml_2_30 : inW (.methodLink "SiltShare$Grammar" 30 m_X2_kind.1) := (inT_5 (i := 136) rfl rfl)
theorem ml_2_34 : inW (.methodLink "SiltShare$Grammar" 34 m_X2_test.1) := (inT_5 (i := 146) rfl rfl)
theorem ml_2_37 : inW (.methodLink "SiltShare$Grammar" 37 m_X10_isMore.1) := (inT_5 (i := 166) rfl rfl)
theorem ml_2_74 : inW (.methodLink "SiltShare$Grammar" 74 m_X2_both.1) := (inT_5 (i := 150) rfl rfl)
theorem ml_2_83 : inW (.methodLink "SiltShare$Grammar" 83 m_X2_fact.1) := (inT_5 (i := 154) rfl rfl)
theorem ml_2_105 : inW (.methodLink "SiltShare$Grammar" 105 m_X2_comparison.1) := (inT_5 (i := 160) rfl rfl)
theorem ml_11_395 : inW (.methodLink "SiltShare" 395 m_X0_tellAll.1) := (inT_5 (i := 173) rfl rfl)
theorem ml_11_398 : inW (.methodLink "SiltShare" 398 m_X6_reckon.1) := (inT_5 (i := 179) rfl rfl)
theorem ml_11_402 : inW (.methodLink "SiltShare" 402 Lib.Math.min.name) := (inT_5 (i := 180) rfl rfl)
theorem ml_0_124 : inW (.methodLink "SiltShare$Flood" 124 m_X0_taken.1) := (inT_5 (i := 177) rfl rfl)
theorem ml_0_128 : inW (.methodLink "SiltShare$Flood" 128 m_X0_toSea.1) := (inT_5 (i := 178) rfl rfl)
theorem fl_0_131 : FL "SiltShare$Flood" 131 6 2 true (.array .int) := ⟨RX6, TX6, 5, tyX6, kl_6, by decide, (inT_2 (i := 52) rfl rfl), rfl, rfl, rfl⟩
theorem fl_0_140 : FL "SiltShare$Flood" 140 6 3 true (.array .int) := ⟨RX6, TX6, 5, tyX6, kl_6, by decide, (inT_2 (i := 54) rfl rfl), rfl, rfl, rfl⟩
theorem fl_11_351 : FL "SiltShare" 351 11 16 false .int := ⟨RX11, TX11, 20, tyX11, kl_11, by decide, (inT_2 (i := 151) rfl rfl), rfl, rfl, rfl⟩
theorem ml_11_354 : inW (.methodLink "SiltShare" 354 m_X11_writeTwo.1) := (inT_5 (i := 185) rfl rfl)
theorem ml_11_357 : inW (.methodLink "SiltShare" 357 m_X11_write.1) := (inT_5 (i := 189) rfl rfl)
theorem ml_11_360 : inW (.methodLink "SiltShare" 360 m_X11_checkBehind.1) := (inT_5 (i := 193) rfl rfl)
theorem ml_11_363 : inW (.methodLink "SiltShare" 363 m_X11_isImage.1) := (inT_5 (i := 204) rfl rfl)
theorem ml_11_405 : inW (.methodLink "SiltShare" 405 m_X11_isChecked.1) := (inT_5 (i := 208) rfl rfl)
theorem ml_11_408 : inW (.methodLink "SiltShare" 408 m_X11_readTrial.1) := (inT_5 (i := 213) rfl rfl)
theorem fl_11_411 : FL "SiltShare" 411 7 7 true (.array .int) := ⟨RX7, TX7, 16, tyX7, kl_7, by decide, (inT_1 (i := 167) rfl rfl), rfl, rfl, rfl⟩
theorem ml_11_414 : inW (.methodLink "SiltShare" 414 m_X10_byteAt.1) := (inT_5 (i := 212) rfl rfl)
theorem ml_12_1 : inW (.methodLink "SiltShareModel" 1 objectInit) := (inT_5 (i := 226) rfl rfl)
theorem fl_12_7 : FL "SiltShareModel" 7 12 0 true (.array .int) := ⟨RX12, TX12, 98, tyX12, kl_12, by decide, (inT_5 (i := 227) rfl rfl), rfl, rfl, rfl⟩
theorem fl_12_13 : FL "SiltShareModel" 13 12 8 false .int := ⟨RX12, TX12, 98, tyX12, kl_12, by decide, (inT_5 (i := 235) rfl rfl), rfl, rfl, rfl⟩
theorem fl_12_17 : FL "SiltShareModel" 17 12 9 true (.array .int) := ⟨RX12, TX12, 98, tyX12, kl_12, by decide, (inT_5 (i := 236) rfl rfl), rfl, rfl, rfl⟩
theorem fl_12_20 : FL "SiltShareModel" 20 12 10 true (.array .char) := ⟨RX12, TX12, 98, tyX12, kl_12, by decide, (inT_5 (i := 237) rfl rfl), rfl, rfl, rfl⟩
theorem fl_12_24 : FL "SiltShareModel" 24 12 11 true (.array .char) := ⟨RX12, TX12, 98, tyX12, kl_12, by decide, (inT_5 (i := 238) rfl rfl), rfl, rfl, rfl⟩
theorem fl_12_27 : FL "SiltShareModel" 27 12 12 true (.array .char) := ⟨RX12, TX12, 98, tyX12, kl_12, by decide, (inT_5 (i := 239) rfl rfl), rfl, rfl, rfl⟩
theorem fl_12_30 : FL "SiltShareModel" 30 12 13 true (.array .char) := ⟨RX12, TX12, 98, tyX12, kl_12, by decide, (inT_6 (i := 0) rfl rfl), rfl, rfl, rfl⟩
theorem fl_12_33 : FL "SiltShareModel" 33 12 14 true (.array .char) := ⟨RX12, TX12, 98, tyX12, kl_12, by decide, (inT_6 (i := 1) rfl rfl), rfl, rfl, rfl⟩
theorem fl_12_36 : FL "SiltShareModel" 36 12 15 true (.array .char) := ⟨RX12, TX12, 98, tyX12, kl_12, by decide, (inT_6 (i := 2) rfl rfl), rfl, rfl, rfl⟩
theorem fl_12_39 : FL "SiltShareModel" 39 12 16 true (.array .char) := ⟨RX12, TX12, 98, tyX12, kl_12, by decide, (inT_6 (i := 3) rfl rfl), rfl, rfl, rfl⟩
theorem fl_12_42 : FL "SiltShareModel" 42 12 17 true (.array .char) := ⟨RX12, TX12, 98, tyX12, kl_12, by decide, (inT_6 (i := 4) rfl rfl), rfl, rfl, rfl⟩
theorem fl_12_45 : FL "SiltShareModel" 45 12 18 true (.array .char) := ⟨RX12, TX12, 98, tyX12, kl_12, by decide, (inT_6 (i := 5) rfl rfl), rfl, rfl, rfl⟩
theorem fl_12_48 : FL "SiltShareModel" 48 12 19 true (.array .char) := ⟨RX12, TX12, 98, tyX12, kl_12, by decide, (inT_6 (i := 6) rfl rfl), rfl, rfl, rfl⟩
theorem fl_12_51 : FL "SiltShareModel" 51 12 20 true (.array .char) := ⟨RX12, TX12, 98, tyX12, kl_12, by decide, (inT_6 (i := 7) rfl rfl), rfl, rfl, rfl⟩
theorem fl_12_54 : FL "SiltShareModel" 54 12 21 true (.array .char) := ⟨RX12, TX12, 98, tyX12, kl_12, by decide, (inT_6 (i := 8) rfl rfl), rfl, rfl, rfl⟩
theorem fl_12_57 : FL "SiltShareModel" 57 12 22 true (.array .char) := ⟨RX12, TX12, 98, tyX12, kl_12, by decide, (inT_6 (i := 9) rfl rfl), rfl, rfl, rfl⟩
theorem fl_12_60 : FL "SiltShareModel" 60 12 23 true (.array .char) := ⟨RX12, TX12, 98, tyX12, kl_12, by decide, (inT_6 (i := 10) rfl rfl), rfl, rfl, rfl⟩
theorem fl_12_63 : FL "SiltShareModel" 63 12 24 true (.array .char) := ⟨RX12, TX12, 98, tyX12, kl_12, by decide, (inT_6 (i := 11) rfl rfl), rfl, rfl, rfl⟩
theorem fl_12_66 : FL "SiltShareModel" 66 12 25 true (.array .char) := ⟨RX12, TX12, 98, tyX12, kl_12, by decide, (inT_6 (i := 12) rfl rfl), rfl, rfl, rfl⟩
theorem fl_12_69 : FL "SiltShareModel" 69 12 26 true (.array .char) := ⟨RX12, TX12, 98, tyX12, kl_12, by decide, (inT_6 (i := 13) rfl rfl), rfl, rfl, rfl⟩
theorem fl_12_72 : FL "SiltShareModel" 72 12 27 true (.array .char) := ⟨RX12, TX12, 98, tyX12, kl_12, by decide, (inT_6 (i := 14) rfl rfl), rfl, rfl, rfl⟩
theorem fl_12_75 : FL "SiltShareModel" 75 12 28 true (.array .char) := ⟨RX12, TX12, 98, tyX12, kl_12, by decide, (inT_6 (i := 15) rfl rfl), rfl, rfl, rfl⟩
theorem fl_12_78 : FL "SiltShareModel" 78 12 29 true (.array .char) := ⟨RX12, TX12, 98, tyX12, kl_12, by decide, (inT_6 (i := 16) rfl rfl), rfl, rfl, rfl⟩
theorem fl_12_81 : FL "SiltShareModel" 81 12 30 true (.array .char) := ⟨RX12, TX12, 98, tyX12, kl_12, by decide, (inT_6 (i := 17) rfl rfl), rfl, rfl, rfl⟩
theorem fl_12_84 : FL "SiltShareModel" 84 12 31 true (.array .char) := ⟨RX12, TX12, 98, tyX12, kl_12, by decide, (inT_6 (i := 18) rfl rfl), rfl, rfl, rfl⟩
theorem fl_12_87 : FL "SiltShareModel" 87 12 33 true (.array .int) := ⟨RX12, TX12, 98, tyX12, kl_12, by decide, (inT_6 (i := 20) rfl rfl), rfl, rfl, rfl⟩
theorem fl_12_90 : FL "SiltShareModel" 90 12 34 true (.array .long) := ⟨RX12, TX12, 98, tyX12, kl_12, by decide, (inT_6 (i := 21) rfl rfl), rfl, rfl, rfl⟩
theorem fl_12_94 : FL "SiltShareModel" 94 12 37 true (.array .int) := ⟨RX12, TX12, 98, tyX12, kl_12, by decide, (inT_6 (i := 24) rfl rfl), rfl, rfl, rfl⟩
theorem fl_12_97 : FL "SiltShareModel" 97 12 38 true (.array .int) := ⟨RX12, TX12, 98, tyX12, kl_12, by decide, (inT_6 (i := 25) rfl rfl), rfl, rfl, rfl⟩
theorem fl_12_100 : FL "SiltShareModel" 100 12 39 true (.array .int) := ⟨RX12, TX12, 98, tyX12, kl_12, by decide, (inT_6 (i := 26) rfl rfl), rfl, rfl, rfl⟩
theorem fl_12_103 : FL "SiltShareModel" 103 12 40 true (.array .int) := ⟨RX12, TX12, 98, tyX12, kl_12, by decide, (inT_6 (i := 27) rfl rfl), rfl, rfl, rfl⟩
theorem fl_12_106 : FL "SiltShareModel" 106 12 41 true (.array .int) := ⟨RX12, TX12, 98, tyX12, kl_12, by decide, (inT_6 (i := 28) rfl rfl), rfl, rfl, rfl⟩
theorem fl_12_109 : FL "SiltShareModel" 109 12 43 true (.array .int) := ⟨RX12, TX12, 98, tyX12, kl_12, by decide, (inT_6 (i := 30) rfl rfl), rfl, rfl, rfl⟩
theorem fl_12_112 : FL "SiltShareModel" 112 12 45 true (.array .int) := ⟨RX12, TX12, 98, tyX12, kl_12, by decide, (inT_6 (i := 32) rfl rfl), rfl, rfl, rfl⟩
theorem fl_12_115 : FL "SiltShareModel" 115 12 49 true (.array .long) := ⟨RX12, TX12, 98, tyX12, kl_12, by decide, (inT_6 (i := 36) rfl rfl), rfl, rfl, rfl⟩
theorem fl_12_118 : FL "SiltShareModel" 118 12 51 true (.array .int) := ⟨RX12, TX12, 98, tyX12, kl_12, by decide, (inT_6 (i := 38) rfl rfl), rfl, rfl, rfl⟩
theorem fl_12_121 : FL "SiltShareModel" 121 12 52 true (.array .int) := ⟨RX12, TX12, 98, tyX12, kl_12, by decide, (inT_6 (i := 39) rfl rfl), rfl, rfl, rfl⟩
theorem fl_12_124 : FL "SiltShareModel" 124 12 53 true (.array .int) := ⟨RX12, TX12, 98, tyX12, kl_12, by decide, (inT_6 (i := 40) rfl rfl), rfl, rfl, rfl⟩
theorem fl_12_127 : FL "SiltShareModel" 127 12 54 true (.array .int) := ⟨RX12, TX12, 98, tyX12, kl_12, by decide, (inT_6 (i := 41) rfl rfl), rfl, rfl, rfl⟩
theorem fl_12_130 : FL "SiltShareModel" 130 12 55 true (.array .int) := ⟨RX12, TX12, 98, tyX12, kl_12, by decide, (inT_6 (i := 42) rfl rfl), rfl, rfl, rfl⟩
theorem fl_12_133 : FL "SiltShareModel" 133 12 56 true (.array .int) := ⟨RX12, TX12, 98, tyX12, kl_12, by decide, (inT_6 (i := 43) rfl rfl), rfl, rfl, rfl⟩
theorem fl_12_136 : FL "SiltShareModel" 136 12 57 true (.array .int) := ⟨RX12, TX12, 98, tyX12, kl_12, by decide, (inT_6 (i := 44) rfl rfl), rfl, rfl, rfl⟩
theorem fl_12_139 : FL "SiltShareModel" 139 12 58 true (.array .int) := ⟨RX12, TX12, 98, tyX12, kl_12, by decide, (inT_6 (i := 45) rfl rfl), rfl, rfl, rfl⟩
theorem fl_12_142 : FL "SiltShareModel" 142 12 59 true (.array .int) := ⟨RX12, TX12, 98, tyX12, kl_12, by decide, (inT_6 (i := 46) rfl rfl), rfl, rfl, rfl⟩
theorem fl_12_145 : FL "SiltShareModel" 145 12 60 true (.array .int) := ⟨RX12, TX12, 98, tyX12, kl_12, by decide, (inT_6 (i := 47) rfl rfl), rfl, rfl, rfl⟩
theorem fl_12_148 : FL "SiltShareModel" 148 12 63 false .long := ⟨RX12, TX12, 98, tyX12, kl_12, by decide, (inT_6 (i := 50) rfl rfl), rfl, rfl, rfl⟩
theorem fl_12_152 : FL "SiltShareModel" 152 12 64 true (.array .int) := ⟨RX12, TX12, 98, tyX12, kl_12, by decide, (inT_6 (i := 51) rfl rfl), rfl, rfl, rfl⟩
theorem fl_12_155 : FL "SiltShareModel" 155 12 66 true (.array .int) := ⟨RX12, TX12, 98, tyX12, kl_12, by decide, (inT_6 (i := 53) rfl rfl), rfl, rfl, rfl⟩
theorem fl_12_158 : FL "SiltShareModel" 158 12 68 true (.array .int) := ⟨RX12, TX12, 98, tyX12, kl_12, by decide, (inT_6 (i := 55) rfl rfl), rfl, rfl, rfl⟩
theorem fl_12_161 : FL "SiltShareModel" 161 12 69 true (.array .char) := ⟨RX12, TX12, 98, tyX12, kl_12, by decide, (inT_6 (i := 56) rfl rfl), rfl, rfl, rfl⟩
theorem fl_12_164 : FL "SiltShareModel" 164 12 70 true (.array .char) := ⟨RX12, TX12, 98, tyX12, kl_12, by decide, (inT_6 (i := 57) rfl rfl), rfl, rfl, rfl⟩
theorem fl_12_167 : FL "SiltShareModel" 167 12 71 true (.array .char) := ⟨RX12, TX12, 98, tyX12, kl_12, by decide, (inT_6 (i := 58) rfl rfl), rfl, rfl, rfl⟩
theorem fl_12_170 : FL "SiltShareModel" 170 12 72 true (.array .char) := ⟨RX12, TX12, 98, tyX12, kl_12, by decide, (inT_6 (i := 59) rfl rfl), rfl, rfl, rfl⟩
theorem fl_12_173 : FL "SiltShareModel" 173 12 73 true (.array .char) := ⟨RX12, TX12, 98, tyX12, kl_12, by decide, (inT_6 (i := 60) rfl rfl), rfl, rfl, rfl⟩
theorem fl_12_176 : FL "SiltShareModel" 176 12 74 true (.array .char) := ⟨RX12, TX12, 98, tyX12, kl_12, by decide, (inT_6 (i := 61) rfl rfl), rfl, rfl, rfl⟩
theorem fl_12_179 : FL "SiltShareModel" 179 12 75 true (.array .char) := ⟨RX12, TX12, 98, tyX12, kl_12, by decide, (inT_6 (i := 62) rfl rfl), rfl, rfl, rfl⟩
theorem fl_12_182 : FL "SiltShareModel" 182 12 76 true (.array .char) := ⟨RX12, TX12, 98, tyX12, kl_12, by decide, (inT_6 (i := 63) rfl rfl), rfl, rfl, rfl⟩
theorem fl_12_185 : FL "SiltShareModel" 185 12 77 true (.array .char) := ⟨RX12, TX12, 98, tyX12, kl_12, by decide, (inT_6 (i := 64) rfl rfl), rfl, rfl, rfl⟩
theorem fl_12_188 : FL "SiltShareModel" 188 12 78 true (.array .char) := ⟨RX12, TX12, 98, tyX12, kl_12, by decide, (inT_6 (i := 65) rfl rfl), rfl, rfl, rfl⟩
theorem fl_12_191 : FL "SiltShareModel" 191 12 79 true (.array .char) := ⟨RX12, TX12, 98, tyX12, kl_12, by decide, (inT_6 (i := 66) rfl rfl), rfl, rfl, rfl⟩
theorem fl_12_194 : FL "SiltShareModel" 194 12 80 true (.array .char) := ⟨RX12, TX12, 98, tyX12, kl_12, by decide, (inT_6 (i := 67) rfl rfl), rfl, rfl, rfl⟩
theorem fl_12_197 : FL "SiltShareModel" 197 12 81 true (.array .char) := ⟨RX12, TX12, 98, tyX12, kl_12, by decide, (inT_6 (i := 68) rfl rfl), rfl, rfl, rfl⟩
theorem fl_12_200 : FL "SiltShareModel" 200 12 82 true (.array .char) := ⟨RX12, TX12, 98, tyX12, kl_12, by decide, (inT_6 (i := 69) rfl rfl), rfl, rfl, rfl⟩
theorem fl_12_203 : FL "SiltShareModel" 203 12 83 true (.array .char) := ⟨RX12, TX12, 98, tyX12, kl_12, by decide, (inT_6 (i := 70) rfl rfl), rfl, rfl, rfl⟩
theorem fl_12_206 : FL "SiltShareModel" 206 12 84 true (.array .char) := ⟨RX12, TX12, 98, tyX12, kl_12, by decide, (inT_6 (i := 71) rfl rfl), rfl, rfl, rfl⟩
theorem fl_12_209 : FL "SiltShareModel" 209 12 85 true (.array .char) := ⟨RX12, TX12, 98, tyX12, kl_12, by decide, (inT_6 (i := 72) rfl rfl), rfl, rfl, rfl⟩
theorem fl_12_212 : FL "SiltShareModel" 212 12 86 true (.array .int) := ⟨RX12, TX12, 98, tyX12, kl_12, by decide, (inT_6 (i := 73) rfl rfl), rfl, rfl, rfl⟩
theorem fl_12_215 : FL "SiltShareModel" 215 12 88 true (.array .int) := ⟨RX12, TX12, 98, tyX12, kl_12, by decide, (inT_6 (i := 75) rfl rfl), rfl, rfl, rfl⟩
theorem fl_12_218 : FL "SiltShareModel" 218 12 92 true (.array .long) := ⟨RX12, TX12, 98, tyX12, kl_12, by decide, (inT_6 (i := 79) rfl rfl), rfl, rfl, rfl⟩
theorem fl_12_221 : FL "SiltShareModel" 221 12 96 true (.array .int) := ⟨RX12, TX12, 98, tyX12, kl_12, by decide, (inT_6 (i := 83) rfl rfl), rfl, rfl, rfl⟩
theorem fl_12_224 : FL "SiltShareModel" 224 12 1 false .int := ⟨RX12, TX12, 98, tyX12, kl_12, by decide, (inT_5 (i := 228) rfl rfl), rfl, rfl, rfl⟩
theorem fl_12_236 : FL "SiltShareModel" 236 12 3 false .int := ⟨RX12, TX12, 98, tyX12, kl_12, by decide, (inT_5 (i := 230) rfl rfl), rfl, rfl, rfl⟩
theorem fl_12_233 : FL "SiltShareModel" 233 12 2 false .int := ⟨RX12, TX12, 98, tyX12, kl_12, by decide, (inT_5 (i := 229) rfl rfl), rfl, rfl, rfl⟩
theorem fl_12_247 : FL "SiltShareModel" 247 12 4 false .int := ⟨RX12, TX12, 98, tyX12, kl_12, by decide, (inT_5 (i := 231) rfl rfl), rfl, rfl, rfl⟩
theorem fl_12_227 : FL "SiltShareModel" 227 12 5 false .int := ⟨RX12, TX12, 98, tyX12, kl_12, by decide, (inT_5 (i := 232) rfl rfl), rfl, rfl, rfl⟩
theorem fl_12_230 : FL "SiltShareModel" 230 12 6 false .int := ⟨RX12, TX12, 98, tyX12, kl_12, by decide, (inT_5 (i := 233) rfl rfl), rfl, rfl, rfl⟩
theorem fl_12_312 : FL "SiltShareModel" 312 12 44 false .int := ⟨RX12, TX12, 98, tyX12, kl_12, by decide, (inT_6 (i := 31) rfl rfl), rfl, rfl, rfl⟩
theorem ml_12_301 : inW (.methodLink "SiltShareModel" 301 m_X12_asks.1) := (inT_7 (i := 56) rfl rfl)
theorem ml_12_297 : inW (.methodLink "SiltShareModel" 297 m_X12_number.1) := (inT_7 (i := 79) rfl rfl)
theorem fl_12_305 : FL "SiltShareModel" 305 12 35 false .int := ⟨RX12, TX12, 98, tyX12, kl_12, by decide, (inT_6 (i := 22) rfl rfl), rfl, rfl, rfl⟩
theorem ml_12_344 : inW (.methodLink "SiltShareModel" 344 m_X12_asksSign.1) := (inT_7 (i := 89) rfl rfl)
theorem fl_12_327 : FL "SiltShareModel" 327 12 42 false .int := ⟨RX12, TX12, 98, tyX12, kl_12, by decide, (inT_6 (i := 29) rfl rfl), rfl, rfl, rfl⟩
theorem ml_12_239 : inW (.methodLink "SiltShareModel" 239 m_X12_look.1) := (inT_7 (i := 68) rfl rfl)
theorem ml_12_347 : inW (.methodLink "SiltShareModel" 347 m_X12_statementTold.1) := (inT_7 (i := 97) rfl rfl)
theorem fl_12_350 : FL "SiltShareModel" 350 12 7 false .int := ⟨RX12, TX12, 98, tyX12, kl_12, by decide, (inT_5 (i := 234) rfl rfl), rfl, rfl, rfl⟩
theorem ml_12_353 : inW (.methodLink "SiltShareModel" 353 m_X12_stands.1) := (inT_7 (i := 183) rfl rfl)
theorem ml_12_254 : inW (.methodLink "SiltShareModel" 254 m_X12_takes.1) := (inT_7 (i := 60) rfl rfl)
theorem ml_12_257 : inW (.methodLink "SiltShareModel" 257 m_X12_fail.1) := (inT_7 (i := 75) rfl rfl)
theorem ml_12_250 : inW (.methodLink "SiltShareModel" 250 m_X12_isHere.1) := (inT_7 (i := 64) rfl rfl)
theorem ml_12_243 : inW (.methodLink "SiltShareModel" 243 m_X12_isLetter.1) := (inT_7 (i := 72) rfl rfl)
theorem ml_12_264 : inW (.methodLink "SiltShareModel" 264 m_X12_isDigit.1) := (inT_7 (i := 83) rfl rfl)
theorem ml_12_267 : inW (.methodLink "SiltShareModel" 267 m_X12_isIn.1) := (inT_7 (i := 86) rfl rfl)
theorem ml_12_261 : inW (.methodLink "SiltShareModel" 261 m_X12_takesSign.1) := (inT_7 (i := 93) rfl rfl)
theorem ml_12_330 : inW (.methodLink "SiltShareModel" 330 m_X12_slopeTold.1) := (inT_7 (i := 101) rfl rfl)
theorem ml_12_333 : inW (.methodLink "SiltShareModel" 333 m_X12_newNamed.1) := (inT_7 (i := 105) rfl rfl)
theorem ml_12_337 : inW (.methodLink "SiltShareModel" 337 m_X12_bankTold.1) := (inT_7 (i := 131) rfl rfl)
theorem ml_12_341 : inW (.methodLink "SiltShareModel" 341 m_X12_sumIsTold.1) := (inT_7 (i := 139) rfl rfl)
theorem ml_12_290 : inW (.methodLink "SiltShareModel" 290 m_X12_isFull.1) := (inT_7 (i := 109) rfl rfl)
theorem ml_12_294 : inW (.methodLink "SiltShareModel" 294 m_X12_newName.1) := (inT_7 (i := 113) rfl rfl)
theorem ml_12_282 : inW (.methodLink "SiltShareModel" 282 m_X12_name.1) := (inT_7 (i := 117) rfl rfl)
theorem ml_12_286 : inW (.methodLink "SiltShareModel" 286 m_X12_nameOf.1) := (inT_7 (i := 127) rfl rfl)
theorem fl_12_275 : FL "SiltShareModel" 275 12 32 false .int := ⟨RX12, TX12, 98, tyX12, kl_12, by decide, (inT_6 (i := 19) rfl rfl), rfl, rfl, rfl⟩
theorem ml_12_271 : inW (.methodLink "SiltShareModel" 271 m_X12_isOwnHere.1) := (inT_7 (i := 121) rfl rfl)
theorem ml_12_308 : inW (.methodLink "SiltShareModel" 308 m_X12_oneOf.1) := (inT_7 (i := 135) rfl rfl)
theorem fl_12_315 : FL "SiltShareModel" 315 12 46 false .int := ⟨RX12, TX12, 98, tyX12, kl_12, by decide, (inT_6 (i := 33) rfl rfl), rfl, rfl, rfl⟩
theorem fl_12_318 : FL "SiltShareModel" 318 12 47 false .int := ⟨RX12, TX12, 98, tyX12, kl_12, by decide, (inT_6 (i := 34) rfl rfl), rfl, rfl, rfl⟩
theorem fl_12_321 : FL "SiltShareModel" 321 12 48 false .int := ⟨RX12, TX12, 98, tyX12, kl_12, by decide, (inT_6 (i := 35) rfl rfl), rfl, rfl, rfl⟩
theorem ml_12_324 : inW (.methodLink "SiltShareModel" 324 m_X12_sumsTold.1) := (inT_7 (i := 143) rfl rfl)
theorem ml_12_387 : inW (.methodLink "SiltShareModel" 387 m_X12_onePart.1) := (inT_7 (i := 147) rfl rfl)
theorem ml_12_390 : inW (.methodLink "SiltShareModel" 390 m_X12_goesOn.1) := (inT_7 (i := 159) rfl rfl)
theorem ml_12_372 : inW (.methodLink "SiltShareModel" 372 m_X12_drops.1) := (inT_7 (i := 175) rfl rfl)
theorem ml_12_375 : inW (.methodLink "SiltShareModel" 375 m_X12_opens.1) := (inT_7 (i := 151) rfl rfl)
theorem ml_12_366 : inW (.methodLink "SiltShareModel" 366 m_X12_code.1) := (inT_7 (i := 155) rfl rfl)
theorem ml_12_378 : inW (.methodLink "SiltShareModel" 378 m_X12_waitsLast.1) := (inT_7 (i := 163) rfl rfl)
theorem ml_12_381 : inW (.methodLink "SiltShareModel" 381 m_X12_dropsToMark.1) := (inT_7 (i := 171) rfl rfl)
theorem ml_12_384 : inW (.methodLink "SiltShareModel" 384 m_X12_isOn.1) := (inT_7 (i := 179) rfl rfl)
theorem ml_12_369 : inW (.methodLink "SiltShareModel" 369 m_X12_isMark.1) := (inT_7 (i := 167) rfl rfl)
theorem fl_12_356 : FL "SiltShareModel" 356 12 36 false .int := ⟨RX12, TX12, 98, tyX12, kl_12, by decide, (inT_6 (i := 23) rfl rfl), rfl, rfl, rfl⟩
theorem fl_12_359 : FL "SiltShareModel" 359 12 61 false .int := ⟨RX12, TX12, 98, tyX12, kl_12, by decide, (inT_6 (i := 48) rfl rfl), rfl, rfl, rfl⟩
theorem fl_12_362 : FL "SiltShareModel" 362 12 67 false .boolean := ⟨RX12, TX12, 98, tyX12, kl_12, by decide, (inT_6 (i := 54) rfl rfl), rfl, rfl, rfl⟩
theorem ml_12_422 : inW (.methodLink "SiltShareModel" 422 m_X12_ownerMany.1) := (inT_7 (i := 195) rfl rfl)
theorem ml_12_471 : inW (.methodLink "SiltShareModel" 471 m_X12_colourMany.1) := (inT_7 (i := 199) rfl rfl)
theorem ml_12_419 : inW (.methodLink "SiltShareModel" 419 m_X12_bankMany.1) := (inT_7 (i := 203) rfl rfl)
theorem ml_12_462 : inW (.methodLink "SiltShareModel" 462 m_X12_settingOf.1) := (inT_7 (i := 207) rfl rfl)
theorem ml_12_474 : inW (.methodLink "SiltShareModel" 474 m_X12_sumNow.1) := (inT_7 (i := 211) rfl rfl)
theorem ml_12_481 : inW (.methodLink "SiltShareModel" 481 m_X12_isBank.1) := (inT_7 (i := 225) rfl rfl)
theorem ml_12_430 : inW (.methodLink "SiltShareModel" 430 m_X12_bankOf.1) := (inT_7 (i := 229) rfl rfl)
theorem ml_12_484 : inW (.methodLink "SiltShareModel" 484 m_X12_lyingOf.1) := (inT_7 (i := 233) rfl rfl)
theorem ml_12_468 : inW (.methodLink "SiltShareModel" 468 m_X12_liesIn.1) := (inT_7 (i := 237) rfl rfl)
theorem ml_12_499 : inW (.methodLink "SiltShareModel" 499 m_X12_isReach.1) := (inT_8 (i := 5) rfl rfl)
theorem ml_12_456 : inW (.methodLink "SiltShareModel" 456 m_X12_liesAll.1) := (inT_8 (i := 9) rfl rfl)
theorem ml_12_490 : inW (.methodLink "SiltShareModel" 490 m_X12_isIsland.1) := (inT_8 (i := 13) rfl rfl)
theorem ml_12_502 : inW (.methodLink "SiltShareModel" 502 m_X12_majorityIn.1) := (inT_8 (i := 17) rfl rfl)
theorem ml_12_496 : inW (.methodLink "SiltShareModel" 496 m_X12_endOf.1) := (inT_8 (i := 25) rfl rfl)
theorem ml_12_505 : inW (.methodLink "SiltShareModel" 505 m_X12_voteOf.1) := (inT_8 (i := 33) rfl rfl)
theorem ml_12_487 : inW (.methodLink "SiltShareModel" 487 m_X12_ownersIn.1) := (inT_8 (i := 21) rfl rfl)
theorem ml_12_493 : inW (.methodLink "SiltShareModel" 493 m_X12_areJoined.1) := (inT_8 (i := 29) rfl rfl)
theorem ml_12_508 : inW (.methodLink "SiltShareModel" 508 m_X12_isOwner.1) := (inT_8 (i := 45) rfl rfl)
theorem ml_12_511 : inW (.methodLink "SiltShareModel" 511 m_X12_tintOf.1) := (inT_8 (i := 53) rfl rfl)
theorem ml_12_514 : inW (.methodLink "SiltShareModel" 514 m_X12_isLevel.1) := (inT_8 (i := 61) rfl rfl)
theorem ml_12_447 : inW (.methodLink "SiltShareModel" 447 m_X12_stonesAsNow.1) := (inT_8 (i := 65) rfl rfl)
theorem ml_12_427 : inW (.methodLink "SiltShareModel" 427 m_X12_flowOf.1) := (inT_8 (i := 69) rfl rfl)
theorem ml_12_459 : inW (.methodLink "SiltShareModel" 459 m_X12_wouldBe.1) := (inT_8 (i := 77) rfl rfl)
theorem ml_12_450 : inW (.methodLink "SiltShareModel" 450 m_X12_floods.1) := (inT_8 (i := 81) rfl rfl)
theorem ml_12_440 : inW (.methodLink "SiltShareModel" 440 m_X12_isCut.1) := (inT_8 (i := 85) rfl rfl)
theorem ml_12_443 : inW (.methodLink "SiltShareModel" 443 m_X12_settlesOf.1) := (inT_8 (i := 115) rfl rfl)
theorem ml_12_433 : inW (.methodLink "SiltShareModel" 433 m_X12_asksOf.1) := (inT_8 (i := 89) rfl rfl)
theorem ml_12_437 : inW (.methodLink "SiltShareModel" 437 m_X12_told.1) := (inT_8 (i := 93) rfl rfl)
theorem fl_12_397 : FL "SiltShareModel" 397 12 50 false .int := ⟨RX12, TX12, 98, tyX12, kl_12, by decide, (inT_6 (i := 37) rfl rfl), rfl, rfl, rfl⟩
theorem ml_12_404 : inW (.methodLink "SiltShareModel" 404 m_X12_puts.1) := (inT_8 (i := 97) rfl rfl)
theorem ml_12_416 : inW (.methodLink "SiltShareModel" 416 m_X12_joins.1) := (inT_8 (i := 103) rfl rfl)
theorem ml_12_400 : inW (.methodLink "SiltShareModel" 400 m_X12_clip.1) := (inT_8 (i := 107) rfl rfl)
theorem ml_12_408 : inW (.methodLink "SiltShareModel" 408 m_X12_floor.1) := (inT_8 (i := 112) rfl rfl)
theorem ml_12_519 : inW (.methodLink "SiltShareModel" 519 m_X12_sumOf.1) := (inT_8 (i := 132) rfl rfl)
theorem ml_12_465 : inW (.methodLink "SiltShareModel" 465 m_X12_settledAll.1) := (inT_8 (i := 135) rfl rfl)
theorem ml_12_523 : inW (.methodLink "SiltShareModel" 523 m_X12_mostSettled.1) := (inT_8 (i := 143) rfl rfl)
theorem ml_12_453 : inW (.methodLink "SiltShareModel" 453 m_X12_settledIn.1) := (inT_8 (i := 139) rfl rfl)
theorem fl_12_526 : FL "SiltShareModel" 526 12 62 false .int := ⟨RX12, TX12, 98, tyX12, kl_12, by decide, (inT_6 (i := 49) rfl rfl), rfl, rfl, rfl⟩
theorem ml_12_529 : inW (.methodLink "SiltShareModel" 529 m_X12_keeps.1) := (inT_8 (i := 155) rfl rfl)
theorem ml_12_532 : inW (.methodLink "SiltShareModel" 532 m_X12_yearGoes.1) := (inT_8 (i := 159) rfl rfl)
theorem ml_12_545 : inW (.methodLink "SiltShareModel" 545 m_X12_drawOf.1) := (inT_8 (i := 172) rfl rfl)
theorem ml_12_562 : inW (.methodLink "SiltShareModel" 562 m_X12_seeksStones.1) := (inT_8 (i := 193) rfl rfl)
theorem ml_12_566 : inW (.methodLink "SiltShareModel" 566 m_X12_stonesTold.1) := (inT_8 (i := 209) rfl rfl)
theorem fl_12_551 : FL "SiltShareModel" 551 12 65 false .int := ⟨RX12, TX12, 98, tyX12, kl_12, by decide, (inT_6 (i := 52) rfl rfl), rfl, rfl, rfl⟩
theorem ml_12_554 : inW (.methodLink "SiltShareModel" 554 m_X12_laysStones.1) := (inT_8 (i := 197) rfl rfl)
theorem ml_12_557 : inW (.methodLink "SiltShareModel" 557 m_X12_shareThen.1) := (inT_8 (i := 201) rfl rfl)
theorem ml_12_548 : inW (.methodLink "SiltShareModel" 548 m_X12_wouldLie.1) := (inT_8 (i := 205) rfl rfl)
theorem ml_12_571 : inW (.methodLink "SiltShareModel" 571 m_X12_isAsFound.1) := (inT_8 (i := 230) rfl rfl)
theorem fl_12_574 : FL "SiltShareModel" 574 12 87 false .int := ⟨RX12, TX12, 98, tyX12, kl_12, by decide, (inT_6 (i := 74) rfl rfl), rfl, rfl, rfl⟩
theorem fl_12_580 : FL "SiltShareModel" 580 12 89 false .int := ⟨RX12, TX12, 98, tyX12, kl_12, by decide, (inT_6 (i := 76) rfl rfl), rfl, rfl, rfl⟩
theorem fl_12_577 : FL "SiltShareModel" 577 12 90 false .int := ⟨RX12, TX12, 98, tyX12, kl_12, by decide, (inT_6 (i := 77) rfl rfl), rfl, rfl, rfl⟩
theorem fl_12_586 : FL "SiltShareModel" 586 12 91 false .int := ⟨RX12, TX12, 98, tyX12, kl_12, by decide, (inT_6 (i := 78) rfl rfl), rfl, rfl, rfl⟩
theorem ml_12_673 : inW (.methodLink "SiltShareModel" 673 m_X12_qKind.1) := (inT_9 (i := 3) rfl rfl)
theorem ml_12_676 : inW (.methodLink "SiltShareModel" 676 m_X12_qTest.1) := (inT_9 (i := 7) rfl rfl)
theorem ml_12_625 : inW (.methodLink "SiltShareModel" 625 m_X12_qSums.1) := (inT_9 (i := 23) rfl rfl)
theorem fl_12_663 : FL "SiltShareModel" 663 12 94 false .long := ⟨RX12, TX12, 98, tyX12, kl_12, by decide, (inT_6 (i := 81) rfl rfl), rfl, rfl, rfl⟩
theorem fl_12_668 : FL "SiltShareModel" 668 12 95 false .boolean := ⟨RX12, TX12, 98, tyX12, kl_12, by decide, (inT_6 (i := 82) rfl rfl), rfl, rfl, rfl⟩
theorem ml_12_679 : inW (.methodLink "SiltShareModel" 679 m_X12_qTold.1) := (inT_9 (i := 83) rfl rfl)
theorem ml_12_683 : inW (.methodLink "SiltShareModel" 683 m_X12_qTakes.1) := (inT_9 (i := 109) rfl rfl)
theorem ml_12_601 : inW (.methodLink "SiltShareModel" 601 m_X12_qOpens.1) := (inT_9 (i := 11) rfl rfl)
theorem ml_12_628 : inW (.methodLink "SiltShareModel" 628 m_X12_qFact.1) := (inT_9 (i := 15) rfl rfl)
theorem ml_12_631 : inW (.methodLink "SiltShareModel" 631 m_X12_qDropsNots.1) := (inT_9 (i := 70) rfl rfl)
theorem ml_12_634 : inW (.methodLink "SiltShareModel" 634 m_X12_qGoesOnTest.1) := (inT_9 (i := 74) rfl rfl)
theorem ml_12_592 : inW (.methodLink "SiltShareModel" 592 m_X12_qDrops.1) := (inT_9 (i := 47) rfl rfl)
theorem ml_12_583 : inW (.methodLink "SiltShareModel" 583 m_X12_qCode.1) := (inT_9 (i := 19) rfl rfl)
theorem ml_12_619 : inW (.methodLink "SiltShareModel" 619 m_X12_qPartTold.1) := (inT_9 (i := 27) rfl rfl)
theorem ml_12_622 : inW (.methodLink "SiltShareModel" 622 m_X12_qGoesOn.1) := (inT_9 (i := 51) rfl rfl)
theorem ml_12_598 : inW (.methodLink "SiltShareModel" 598 m_X12_qWordOf.1) := (inT_9 (i := 31) rfl rfl)
theorem ml_12_604 : inW (.methodLink "SiltShareModel" 604 m_X12_qAsksWord.1) := (inT_9 (i := 39) rfl rfl)
theorem ml_12_607 : inW (.methodLink "SiltShareModel" 607 m_X12_qEndsPart.1) := (inT_9 (i := 43) rfl rfl)
theorem ml_12_595 : inW (.methodLink "SiltShareModel" 595 m_X12_qWordHere.1) := (inT_9 (i := 35) rfl rfl)
theorem ml_12_610 : inW (.methodLink "SiltShareModel" 610 m_X12_qBracket.1) := (inT_9 (i := 55) rfl rfl)
theorem ml_12_613 : inW (.methodLink "SiltShareModel" 613 m_X12_qDropsToBracket.1) := (inT_9 (i := 62) rfl rfl)
theorem ml_12_616 : inW (.methodLink "SiltShareModel" 616 m_X12_qIsOn.1) := (inT_9 (i := 66) rfl rfl)
theorem ml_12_589 : inW (.methodLink "SiltShareModel" 589 m_X12_qIsBracket.1) := (inT_9 (i := 59) rfl rfl)
theorem ml_12_637 : inW (.methodLink "SiltShareModel" 637 m_X12_qHasSquare.1) := (inT_9 (i := 78) rfl rfl)
theorem fl_12_640 : FL "SiltShareModel" 640 12 93 false .int := ⟨RX12, TX12, 98, tyX12, kl_12, by decide, (inT_6 (i := 80) rfl rfl), rfl, rfl, rfl⟩
theorem ml_12_646 : inW (.methodLink "SiltShareModel" 646 m_X12_qPuts.1) := (inT_9 (i := 87) rfl rfl)
theorem ml_12_652 : inW (.methodLink "SiltShareModel" 652 m_X12_qOf.1) := (inT_9 (i := 91) rfl rfl)
theorem ml_12_643 : inW (.methodLink "SiltShareModel" 643 m_X12_qClip.1) := (inT_9 (i := 95) rfl rfl)
theorem ml_12_656 : inW (.methodLink "SiltShareModel" 656 m_X12_qPartOf.1) := (inT_9 (i := 98) rfl rfl)
theorem ml_12_660 : inW (.methodLink "SiltShareModel" 660 m_X12_qJoins.1) := (inT_9 (i := 102) rfl rfl)
theorem ml_12_649 : inW (.methodLink "SiltShareModel" 649 m_X12_qFloor.1) := (inT_9 (i := 106) rfl rfl)
theorem fl_12_687 : FL "SiltShareModel" 687 12 97 false .int := ⟨RX12, TX12, 98, tyX12, kl_12, by decide, (inT_6 (i := 84) rfl rfl), rfl, rfl, rfl⟩
theorem ml_12_693 : inW (.methodLink "SiltShareModel" 693 m_X12_writesTwo.1) := (inT_9 (i := 117) rfl rfl)
theorem ml_12_690 : inW (.methodLink "SiltShareModel" 690 m_X12_writes.1) := (inT_9 (i := 121) rfl rfl)
theorem ml_12_696 : inW (.methodLink "SiltShareModel" 696 m_X12_checked.1) := (inT_9 (i := 125) rfl rfl)
theorem ml_12_703 : inW (.methodLink "SiltShareModel" 703 m_X12_isTold.1) := (inT_9 (i := 136) rfl rfl)
theorem ml_12_700 : inW (.methodLink "SiltShareModel" 700 m_X12_two.1) := (inT_9 (i := 140) rfl rfl)
theorem cl_L_7 : inW (.classLink "SiltShareLaw" 7 RX11) := (inT_1 (i := 20) rfl rfl)
theorem ml_L_9 : inW (.methodLink "SiltShareLaw" 9 m_X11_init.1) := (inT_1 (i := 22) rfl rfl)
theorem cl_L_10 : inW (.classLink "SiltShareLaw" 10 RX12) := (inT_5 (i := 221) rfl rfl)
theorem ml_L_12 : inW (.methodLink "SiltShareLaw" 12 m_X12_init.1) := (inT_5 (i := 223) rfl rfl)
theorem ml_L_13 : inW (.methodLink "SiltShareLaw" 13 m_X11_feed.1) := (inT_2 (i := 196) rfl rfl)
theorem ml_L_17 : inW (.methodLink "SiltShareLaw" 17 m_X12_feed.1) := (inT_7 (i := 44) rfl rfl)
theorem ml_L_18 : inW (.methodLink "SiltShareLaw" 18 m_X11_end.1) := (inT_2 (i := 208) rfl rfl)
theorem ml_L_22 : inW (.methodLink "SiltShareLaw" 22 m_X12_end.1) := (inT_7 (i := 48) rfl rfl)
theorem ml_L_23 : inW (.methodLink "SiltShareLaw" 23 m_X11_river.1) := (inT_2 (i := 216) rfl rfl)
theorem ml_L_27 : inW (.methodLink "SiltShareLaw" 27 m_X12_river.1) := (inT_7 (i := 52) rfl rfl)
theorem ml_L_28 : inW (.methodLink "SiltShareLaw" 28 m_X11_fault.1) := (inT_4 (i := 17) rfl rfl)
theorem ml_L_32 : inW (.methodLink "SiltShareLaw" 32 m_X12_fault.1) := (inT_7 (i := 187) rfl rfl)
theorem ml_L_33 : inW (.methodLink "SiltShareLaw" 33 m_X11_has.1) := (inT_4 (i := 21) rfl rfl)
theorem ml_L_36 : inW (.methodLink "SiltShareLaw" 36 m_X12_has.1) := (inT_7 (i := 191) rfl rfl)
theorem ml_L_37 : inW (.methodLink "SiltShareLaw" 37 m_X11_letter.1) := (inT_4 (i := 28) rfl rfl)
theorem ml_L_41 : inW (.methodLink "SiltShareLaw" 41 m_X12_letter.1) := (inT_7 (i := 215) rfl rfl)
theorem ml_L_42 : inW (.methodLink "SiltShareLaw" 42 m_X11_bank.1) := (inT_4 (i := 36) rfl rfl)
theorem ml_L_46 : inW (.methodLink "SiltShareLaw" 46 m_X12_bank.1) := (inT_7 (i := 221) rfl rfl)
theorem ml_L_47 : inW (.methodLink "SiltShareLaw" 47 m_X11_reach.1) := (inT_4 (i := 48) rfl rfl)
theorem ml_L_50 : inW (.methodLink "SiltShareLaw" 50 m_X12_reach.1) := (inT_8 (i := 1) rfl rfl)
theorem ml_L_51 : inW (.methodLink "SiltShareLaw" 51 m_X11_lies.1) := (inT_4 (i := 89) rfl rfl)
theorem ml_L_54 : inW (.methodLink "SiltShareLaw" 54 m_X12_lies.1) := (inT_8 (i := 37) rfl rfl)
theorem ml_L_55 : inW (.methodLink "SiltShareLaw" 55 m_X11_share.1) := (inT_4 (i := 94) rfl rfl)
theorem ml_L_58 : inW (.methodLink "SiltShareLaw" 58 m_X12_share.1) := (inT_8 (i := 41) rfl rfl)
theorem ml_L_59 : inW (.methodLink "SiltShareLaw" 59 m_X11_tint.1) := (inT_4 (i := 105) rfl rfl)
theorem ml_L_62 : inW (.methodLink "SiltShareLaw" 62 m_X12_tint.1) := (inT_8 (i := 49) rfl rfl)
theorem ml_L_63 : inW (.methodLink "SiltShareLaw" 63 m_X11_flow.1) := (inT_4 (i := 117) rfl rfl)
theorem ml_L_66 : inW (.methodLink "SiltShareLaw" 66 m_X12_flow.1) := (inT_8 (i := 57) rfl rfl)
theorem ml_L_67 : inW (.methodLink "SiltShareLaw" 67 m_X11_cuts.1) := (inT_4 (i := 136) rfl rfl)
theorem ml_L_70 : inW (.methodLink "SiltShareLaw" 70 m_X12_cuts.1) := (inT_8 (i := 73) rfl rfl)
theorem ml_L_71 : inW (.methodLink "SiltShareLaw" 71 m_X11_settles.1) := (inT_4 (i := 182) rfl rfl)
theorem ml_L_74 : inW (.methodLink "SiltShareLaw" 74 m_X12_settles.1) := (inT_8 (i := 119) rfl rfl)
theorem ml_L_75 : inW (.methodLink "SiltShareLaw" 75 m_X11_carries.1) := (inT_4 (i := 200) rfl rfl)
theorem ml_L_78 : inW (.methodLink "SiltShareLaw" 78 m_X12_carries.1) := (inT_8 (i := 123) rfl rfl)
theorem ml_L_79 : inW (.methodLink "SiltShareLaw" 79 m_X11_would.1) := (inT_4 (i := 204) rfl rfl)
theorem ml_L_82 : inW (.methodLink "SiltShareLaw" 82 m_X12_would.1) := (inT_8 (i := 127) rfl rfl)
theorem ml_L_83 : inW (.methodLink "SiltShareLaw" 83 m_X11_flood.1) := (inT_4 (i := 228) rfl rfl)
theorem ml_L_86 : inW (.methodLink "SiltShareLaw" 86 m_X12_flood.1) := (inT_8 (i := 151) rfl rfl)
theorem ml_L_87 : inW (.methodLink "SiltShareLaw" 87 m_X11_years.1) := (inT_5 (i := 10) rfl rfl)
theorem ml_L_90 : inW (.methodLink "SiltShareLaw" 90 m_X12_years.1) := (inT_8 (i := 167) rfl rfl)
theorem ml_L_91 : inW (.methodLink "SiltShareLaw" 91 m_X11_stone.1) := (inT_5 (i := 20) rfl rfl)
theorem ml_L_95 : inW (.methodLink "SiltShareLaw" 95 m_X12_stone.1) := (inT_8 (i := 180) rfl rfl)
theorem ml_L_96 : inW (.methodLink "SiltShareLaw" 96 m_X11_rake.1) := (inT_5 (i := 24) rfl rfl)
theorem ml_L_100 : inW (.methodLink "SiltShareLaw" 100 m_X12_rake.1) := (inT_8 (i := 184) rfl rfl)
theorem ml_L_101 : inW (.methodLink "SiltShareLaw" 101 m_X11_undo.1) := (inT_5 (i := 28) rfl rfl)
theorem ml_L_105 : inW (.methodLink "SiltShareLaw" 105 m_X12_undo.1) := (inT_8 (i := 147) rfl rfl)
theorem ml_L_106 : inW (.methodLink "SiltShareLaw" 106 m_X11_seed.1) := (inT_5 (i := 36) rfl rfl)
theorem ml_L_109 : inW (.methodLink "SiltShareLaw" 109 m_X12_seed.1) := (inT_8 (i := 163) rfl rfl)
theorem ml_L_110 : inW (.methodLink "SiltShareLaw" 110 m_X11_mine.1) := (inT_5 (i := 40) rfl rfl)
theorem ml_L_113 : inW (.methodLink "SiltShareLaw" 113 m_X12_mine.1) := (inT_8 (i := 188) rfl rfl)
theorem ml_L_114 : inW (.methodLink "SiltShareLaw" 114 m_X11_keep.1) := (inT_5 (i := 83) rfl rfl)
theorem ml_L_118 : inW (.methodLink "SiltShareLaw" 118 m_X12_keep.1) := (inT_8 (i := 213) rfl rfl)
theorem ml_L_119 : inW (.methodLink "SiltShareLaw" 119 m_X11_until.1) := (inT_5 (i := 92) rfl rfl)
theorem ml_L_122 : inW (.methodLink "SiltShareLaw" 122 m_X12_until.1) := (inT_8 (i := 218) rfl rfl)
theorem ml_L_123 : inW (.methodLink "SiltShareLaw" 123 m_X11_find.1) := (inT_5 (i := 101) rfl rfl)
theorem ml_L_126 : inW (.methodLink "SiltShareLaw" 126 m_X12_find.1) := (inT_8 (i := 222) rfl rfl)
theorem ml_L_127 : inW (.methodLink "SiltShareLaw" 127 m_X11_levels.1) := (inT_5 (i := 109) rfl rfl)
theorem ml_L_130 : inW (.methodLink "SiltShareLaw" 130 m_X12_levels.1) := (inT_8 (i := 226) rfl rfl)
theorem ml_L_131 : inW (.methodLink "SiltShareLaw" 131 m_X11_forged.1) := (inT_5 (i := 118) rfl rfl)
theorem ml_L_134 : inW (.methodLink "SiltShareLaw" 134 m_X12_forged.1) := (inT_8 (i := 234) rfl rfl)
theorem ml_L_135 : inW (.methodLink "SiltShareLaw" 135 m_X11_ask.1) := (inT_5 (i := 127) rfl rfl)
theorem ml_L_139 : inW (.methodLink "SiltShareLaw" 139 m_X12_ask.1) := (inT_8 (i := 238) rfl rfl)
theorem ml_L_140 : inW (.methodLink "SiltShareLaw" 140 m_X11_image.1) := (inT_5 (i := 181) rfl rfl)
theorem ml_L_143 : inW (.methodLink "SiltShareLaw" 143 m_X12_image.1) := (inT_9 (i := 113) rfl rfl)
theorem ml_L_144 : inW (.methodLink "SiltShareLaw" 144 m_X11_octet.1) := (inT_5 (i := 196) rfl rfl)
theorem ml_L_147 : inW (.methodLink "SiltShareLaw" 147 m_X12_octet.1) := (inT_9 (i := 128) rfl rfl)
theorem ml_L_148 : inW (.methodLink "SiltShareLaw" 148 m_X11_on.1) := (inT_5 (i := 200) rfl rfl)
theorem ml_L_151 : inW (.methodLink "SiltShareLaw" 151 m_X12_on.1) := (inT_9 (i := 132) rfl rfl)
theorem ml_L_152 : inW (.methodLink "SiltShareLaw" 152 m_X11_status.1) := (inT_5 (i := 217) rfl rfl)
theorem ml_L_155 : inW (.methodLink "SiltShareLaw" 155 m_X12_status.1) := (inT_9 (i := 144) rfl rfl)
