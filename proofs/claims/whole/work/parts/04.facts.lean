theorem ff_11_0 : FF 11 0 RX11 "register" "LCardHall$Register;" 3 true := ⟨TX11, 10, tyX11, rfl, uw_11, rfl, by decide, rfl, rfl, tyX11_ok, nmX11⟩
theorem fl_X11_12 : Cond.fieldLink RX11 12 RX11 "register" "LCardHall$Register;" ∈ BW := (bw3 45 (by decide +kernel) rfl)
theorem kt_0 : KT 0 = (0, 11) := by decide +kernel
theorem sr_1000 : SR 1000 = some 1 := by decide +kernel
theorem vk_X7_addAffiliate : VOK yX7_addAffiliate cX7_addAffiliate 2 (some .int) 1 := ⟨⟨(bw3 83 (by decide +kernel) rfl), (bw1 2 (by decide +kernel) rfl), by decide, by decide, by decide +kernel⟩, (bw3 81 (by decide +kernel) rfl), (bw3 82 (by decide +kernel) rfl)⟩
theorem ml_X11_95 : Cond.methodLink RX11 95 yX7_addAffiliate ∈ BW := (bw3 80 (by decide +kernel) rfl)
theorem kt_1 : KT 1 = (0, 7) := by decide +kernel
theorem ff_7_8 : FF 7 8 RX7 "affiliates" "I" 0 false := ⟨TX7, 13, tyX7, rfl, uw_7, rfl, by decide, rfl, rfl, tyX7_ok, nmX7⟩
theorem fl_X7_40 : Cond.fieldLink RX7 40 RX7 "affiliates" "I" ∈ BW := (bw1 55 (by decide +kernel) rfl)
theorem ff_7_0 : FF 7 0 RX7 "section" "[I" 3 true := ⟨TX7, 13, tyX7, rfl, uw_7, rfl, by decide, rfl, rfl, tyX7_ok, nmX7⟩
theorem fl_X7_9 : Cond.fieldLink RX7 9 RX7 "section" "[I" ∈ BW := (bw1 39 (by decide +kernel) rfl)
theorem sr_1128 : SR 1128 = some 2 := by decide +kernel
theorem nw_X7_49 : (RX7, 49, yX11_set, "CardHall") ∈ NWL := List.mem_of_getElem? (i := 4) rfl
theorem kt_2 : KT 2 = (1, 12) := by decide +kernel
theorem vk_X7_addBranch : VOK yX7_addBranch cX7_addBranch 3 (some .int) 2 := ⟨⟨(bw3 94 (by decide +kernel) rfl), (bw1 2 (by decide +kernel) rfl), by decide, by decide, by decide +kernel⟩, (bw3 92 (by decide +kernel) rfl), (bw3 93 (by decide +kernel) rfl)⟩
theorem ml_X11_99 : Cond.methodLink RX11 99 yX7_addBranch ∈ BW := (bw3 91 (by decide +kernel) rfl)
theorem vk_X7_hasAffiliate : VOK yX7_hasAffiliate cX7_hasAffiliate 2 (some .boolean) 1 := ⟨⟨(bw3 98 (by decide +kernel) rfl), (bw1 2 (by decide +kernel) rfl), by decide, by decide, by decide +kernel⟩, (bw3 96 (by decide +kernel) rfl), (bw3 97 (by decide +kernel) rfl)⟩
theorem ml_X7_53 : Cond.methodLink RX7 53 yX7_hasAffiliate ∈ BW := (bw3 95 (by decide +kernel) rfl)
theorem ff_7_9 : FF 7 9 RX7 "branches" "I" 0 false := ⟨TX7, 13, tyX7, rfl, uw_7, rfl, by decide, rfl, rfl, tyX7_ok, nmX7⟩
theorem fl_X7_43 : Cond.fieldLink RX7 43 RX7 "branches" "I" ∈ BW := (bw1 59 (by decide +kernel) rfl)
theorem ff_7_1 : FF 7 1 RX7 "owner" "[I" 3 true := ⟨TX7, 13, tyX7, rfl, uw_7, rfl, by decide, rfl, rfl, tyX7_ok, nmX7⟩
theorem fl_X7_15 : Cond.fieldLink RX7 15 RX7 "owner" "[I" ∈ BW := (bw1 41 (by decide +kernel) rfl)
theorem sr_1129 : SR 1129 = some 3 := by decide +kernel
theorem kt_3 : KT 3 = (1, 48) := by decide +kernel
theorem ml_X11_103 : Cond.methodLink RX11 103 yX7_hasAffiliate ∈ BW := (bw3 103 (by decide +kernel) rfl)
theorem vk_X7_tell : VOK yX7_tell cX7_tell 5 (some .boolean) 4 := ⟨⟨(bw3 107 (by decide +kernel) rfl), (bw1 2 (by decide +kernel) rfl), by decide, by decide, by decide +kernel⟩, (bw3 105 (by decide +kernel) rfl), (bw3 106 (by decide +kernel) rfl)⟩
theorem ml_X11_107 : Cond.methodLink RX11 107 yX7_tell ∈ BW := (bw3 104 (by decide +kernel) rfl)
theorem ff_7_10 : FF 7 10 RX7 "tellings" "I" 0 false := ⟨TX7, 13, tyX7, rfl, uw_7, rfl, by decide, rfl, rfl, tyX7_ok, nmX7⟩
theorem fl_X7_61 : Cond.fieldLink RX7 61 RX7 "tellings" "I" ∈ BW := (bw1 63 (by decide +kernel) rfl)
theorem ff_7_3 : FF 7 3 RX7 "kind" "[I" 3 true := ⟨TX7, 13, tyX7, rfl, uw_7, rfl, by decide, rfl, rfl, tyX7_ok, nmX7⟩
theorem fl_X7_21 : Cond.fieldLink RX7 21 RX7 "kind" "[I" ∈ BW := (bw1 45 (by decide +kernel) rfl)
theorem sr_1131 : SR 1131 = some 5 := by decide +kernel
theorem kt_5 : KT 5 = (1, 600) := by decide +kernel
theorem cs_X11_111 : Cond.constant RX11 111 (Int32.ofInt (99999)) ∈ BW := (bw3 112 (by decide +kernel) rfl)
theorem vk_X7_hasBranch : VOK yX7_hasBranch cX7_hasBranch 2 (some .boolean) 1 := ⟨⟨(bw3 120 (by decide +kernel) rfl), (bw1 2 (by decide +kernel) rfl), by decide, by decide, by decide +kernel⟩, (bw3 118 (by decide +kernel) rfl), (bw3 119 (by decide +kernel) rfl)⟩
theorem ml_X11_112 : Cond.methodLink RX11 112 yX7_hasBranch ∈ BW := (bw3 117 (by decide +kernel) rfl)
theorem ff_11_5 : FF 11 5 RX11 "floor" "LCardHall$Floor;" 3 true := ⟨TX11, 10, tyX11, rfl, uw_11, rfl, by decide, rfl, rfl, tyX11_ok, nmX11⟩
theorem fl_X11_57 : Cond.fieldLink RX11 57 RX11 "floor" "LCardHall$Floor;" ∈ BW := (bw3 50 (by decide +kernel) rfl)
theorem sr_1005 : SR 1005 = some 67 := by decide +kernel
theorem vk_X3_has : VOK yX3_has cX3_has 2 (some .boolean) 1 := ⟨⟨(bw3 124 (by decide +kernel) rfl), (bw1 8 (by decide +kernel) rfl), by decide, by decide, by decide +kernel⟩, (bw3 122 (by decide +kernel) rfl), (bw3 123 (by decide +kernel) rfl)⟩
theorem ml_X11_115 : Cond.methodLink RX11 115 yX3_has ∈ BW := (bw3 121 (by decide +kernel) rfl)
theorem kt_67 : KT 67 = (0, 3) := by decide +kernel
theorem vk_X3_stateOf : VOK yX3_stateOf cX3_stateOf 2 (some .int) 1 := ⟨⟨(bw3 128 (by decide +kernel) rfl), (bw1 8 (by decide +kernel) rfl), by decide, by decide, by decide +kernel⟩, (bw3 126 (by decide +kernel) rfl), (bw3 127 (by decide +kernel) rfl)⟩
theorem ml_X3_50 : Cond.methodLink RX3 50 yX3_stateOf ∈ BW := (bw3 125 (by decide +kernel) rfl)
theorem ff_3_1 : FF 3 1 RX3 "state" "[I" 3 true := ⟨TX3, 9, tyX3, rfl, uw_3, rfl, by decide, rfl, rfl, tyX3_ok, nmX3⟩
theorem fl_X3_9 : Cond.fieldLink RX3 9 RX3 "state" "[I" ∈ BW := (bw2 30 (by decide +kernel) rfl)
theorem sr_9577 : SR 9577 = some 68 := by decide +kernel
theorem nw_X3_54 : (RX3, 54, yX11_at, "CardHall") ∈ NWL := List.mem_of_getElem? (i := 5) rfl
theorem kt_68 : KT 68 = (1, 210) := by decide +kernel
theorem ml_X11_118 : Cond.methodLink RX11 118 yX3_stateOf ∈ BW := (bw3 136 (by decide +kernel) rfl)
theorem vk_X11_isBarred : VOK yX11_isBarred cX11_isBarred 5 (some .boolean) 3 := ⟨⟨(bw3 140 (by decide +kernel) rfl), (bw1 1 (by decide +kernel) rfl), by decide, by decide, by decide +kernel⟩, (bw3 139 (by decide +kernel) rfl), (bw0 0 (by decide +kernel) rfl)⟩
theorem ml_X11_121 : Cond.methodLink RX11 121 yX11_isBarred ∈ BW := (bw3 137 (by decide +kernel) rfl)
theorem ff_11_4 : FF 11 4 RX11 "papers" "LCardHall$Papers;" 3 true := ⟨TX11, 10, tyX11, rfl, uw_11, rfl, by decide, rfl, rfl, tyX11_ok, nmX11⟩
theorem fl_X11_26 : Cond.fieldLink RX11 26 RX11 "papers" "LCardHall$Papers;" ∈ BW := (bw3 49 (by decide +kernel) rfl)
theorem sr_1004 : SR 1004 = some 12 := by decide +kernel
theorem ff_3_8 : FF 3 8 RX3 "force" "I" 0 false := ⟨TX3, 9, tyX3, rfl, uw_3, rfl, by decide, rfl, rfl, tyX3_ok, nmX3⟩
theorem fl_X11_125 : Cond.fieldLink RX11 125 RX3 "force" "I" ∈ BW := (bw2 45 (by decide +kernel) rfl)
theorem vk_X6_inForce : VOK yX6_inForce cX6_inForce 3 (some (.object "CardHall$Rules")) 1 := ⟨⟨(bw3 144 (by decide +kernel) rfl), (bw1 4 (by decide +kernel) rfl), by decide, by decide, by decide +kernel⟩, (bw3 142 (by decide +kernel) rfl), (bw3 143 (by decide +kernel) rfl)⟩
theorem ml_X11_129 : Cond.methodLink RX11 129 yX6_inForce ∈ BW := (bw3 141 (by decide +kernel) rfl)
theorem kt_12 : KT 12 = (0, 6) := by decide +kernel
theorem ff_8_6 : FF 8 6 RX8 "binds" "Z" 1 false := ⟨TX8, 7, tyX8, rfl, uw_8, rfl, by decide, rfl, rfl, tyX8_ok, nmX8⟩
theorem fl_X11_133 : Cond.fieldLink RX11 133 RX8 "binds" "Z" ∈ BW := (bw1 160 (by decide +kernel) rfl)
theorem ff_11_6 : FF 11 6 RX11 "count" "LCardHall$Count;" 3 true := ⟨TX11, 10, tyX11, rfl, uw_11, rfl, by decide, rfl, rfl, tyX11_ok, nmX11⟩
theorem fl_X11_66 : Cond.fieldLink RX11 66 RX11 "count" "LCardHall$Count;" ∈ BW := (bw3 51 (by decide +kernel) rfl)
theorem sr_1006 : SR 1006 = some 73 := by decide +kernel
theorem ff_7_11 : FF 7 11 RX7 "today" "I" 0 false := ⟨TX7, 13, tyX7, rfl, uw_7, rfl, by decide, rfl, rfl, tyX7_ok, nmX7⟩
theorem fl_X11_139 : Cond.fieldLink RX11 139 RX7 "today" "I" ∈ BW := (bw1 68 (by decide +kernel) rfl)
theorem vk_X2_take : VOK yX2_take cX2_take 4 none 2 := ⟨⟨(bw3 148 (by decide +kernel) rfl), (bw1 9 (by decide +kernel) rfl), by decide, by decide, by decide +kernel⟩, (bw3 146 (by decide +kernel) rfl), (bw3 147 (by decide +kernel) rfl)⟩
theorem ml_X11_142 : Cond.methodLink RX11 142 yX2_take ∈ BW := (bw3 145 (by decide +kernel) rfl)
theorem kt_73 : KT 73 = (0, 2) := by decide +kernel
theorem vk_X2_mandateOf : VOK yX2_mandateOf cX2_mandateOf 4 (some .int) 1 := ⟨⟨(bw3 163 (by decide +kernel) rfl), (bw1 9 (by decide +kernel) rfl), by decide, by decide, by decide +kernel⟩, (bw3 161 (by decide +kernel) rfl), (bw3 162 (by decide +kernel) rfl)⟩
theorem ml_X11_146 : Cond.methodLink RX11 146 yX2_mandateOf ∈ BW := (bw3 164 (by decide +kernel) rfl)
theorem cs_X11_149 : Cond.constant RX11 149 (Int32.ofInt (100000)) ∈ BW := (bw3 169 (by decide +kernel) rfl)
theorem ff_7_12 : FF 7 12 RX7 "lastDay" "I" 0 false := ⟨TX7, 13, tyX7, rfl, uw_7, rfl, by decide, rfl, rfl, tyX7_ok, nmX7⟩
theorem fl_X11_150 : Cond.fieldLink RX11 150 RX7 "lastDay" "I" ∈ BW := (bw1 70 (by decide +kernel) rfl)
theorem ff_11_1 : FF 11 1 RX11 "tape" "LCardHall$Tape;" 3 true := ⟨TX11, 10, tyX11, rfl, uw_11, rfl, by decide, rfl, rfl, tyX11_ok, nmX11⟩
theorem fl_X11_19 : Cond.fieldLink RX11 19 RX11 "tape" "LCardHall$Tape;" ∈ BW := (bw3 46 (by decide +kernel) rfl)
theorem sr_1001 : SR 1001 = some 10 := by decide +kernel
theorem ff_9_1 : FF 9 1 RX9 "length" "I" 0 false := ⟨TX9, 8, tyX9, rfl, uw_9, rfl, by decide, rfl, rfl, tyX9_ok, nmX9⟩
theorem fl_X11_153 : Cond.fieldLink RX11 153 RX9 "length" "I" ∈ BW := (bw1 107 (by decide +kernel) rfl)
theorem kt_10 : KT 10 = (0, 9) := by decide +kernel
theorem vk_X9_append : VOK yX9_append cX9_append 3 none 1 := ⟨⟨(bw3 181 (by decide +kernel) rfl), (bw1 3 (by decide +kernel) rfl), by decide, by decide, by decide +kernel⟩, (bw3 179 (by decide +kernel) rfl), (bw3 180 (by decide +kernel) rfl)⟩
theorem ml_X11_156 : Cond.methodLink RX11 156 yX9_append ∈ BW := (bw3 178 (by decide +kernel) rfl)
theorem ff_6_9 : FF 6 9 RX6 "orders" "I" 0 false := ⟨TX6, 10, tyX6, rfl, uw_6, rfl, by decide, rfl, rfl, tyX6_ok, nmX6⟩
theorem fl_X11_160 : Cond.fieldLink RX11 160 RX6 "orders" "I" ∈ BW := (bw1 197 (by decide +kernel) rfl)
theorem ff_11_2 : FF 11 2 RX11 "ordersReader" "LCardHall$OrdersReader;" 3 true := ⟨TX11, 10, tyX11, rfl, uw_11, rfl, by decide, rfl, rfl, tyX11_ok, nmX11⟩
theorem fl_X11_39 : Cond.fieldLink RX11 39 RX11 "ordersReader" "LCardHall$OrdersReader;" ∈ BW := (bw3 47 (by decide +kernel) rfl)
theorem sr_1002 : SR 1002 = some 63 := by decide +kernel
theorem vk_X6_draft : VOK yX6_draft cX6_draft 1 (some (.object "CardHall$Rules")) 0 := ⟨⟨(bw3 194 (by decide +kernel) rfl), (bw1 4 (by decide +kernel) rfl), by decide, by decide, by decide +kernel⟩, (bw3 192 (by decide +kernel) rfl), (bw3 193 (by decide +kernel) rfl)⟩
theorem ml_X11_163 : Cond.methodLink RX11 163 yX6_draft ∈ BW := (bw3 191 (by decide +kernel) rfl)
theorem vk_X5_read : VOK yX5_read cX5_read 3 (some .boolean) 1 := ⟨⟨(bw3 199 (by decide +kernel) rfl), (bw1 6 (by decide +kernel) rfl), by decide, by decide, by decide +kernel⟩, (bw3 197 (by decide +kernel) rfl), (bw3 198 (by decide +kernel) rfl)⟩
theorem ml_X11_167 : Cond.methodLink RX11 167 yX5_read ∈ BW := (bw3 196 (by decide +kernel) rfl)
theorem kt_63 : KT 63 = (0, 5) := by decide +kernel
theorem vk_X3_bring : VOK yX3_bring cX3_bring 2 none 1 := ⟨⟨(bw4 183 (by decide +kernel) rfl), (bw1 8 (by decide +kernel) rfl), by decide, by decide, by decide +kernel⟩, (bw4 181 (by decide +kernel) rfl), (bw4 182 (by decide +kernel) rfl)⟩
theorem ml_X11_174 : Cond.methodLink RX11 174 yX3_bring ∈ BW := (bw4 180 (by decide +kernel) rfl)
theorem vk_X3_put : VOK yX3_put cX3_put 3 none 2 := ⟨⟨(bw4 187 (by decide +kernel) rfl), (bw1 8 (by decide +kernel) rfl), by decide, by decide, by decide +kernel⟩, (bw4 185 (by decide +kernel) rfl), (bw4 186 (by decide +kernel) rfl)⟩
theorem ml_X11_177 : Cond.methodLink RX11 177 yX3_put ∈ BW := (bw4 189 (by decide +kernel) rfl)
theorem ff_11_7 : FF 11 7 RX11 "chair" "LCardHall$Chair;" 3 true := ⟨TX11, 10, tyX11, rfl, uw_11, rfl, by decide, rfl, rfl, tyX11_ok, nmX11⟩
theorem fl_X11_75 : Cond.fieldLink RX11 75 RX11 "chair" "LCardHall$Chair;" ∈ BW := (bw3 52 (by decide +kernel) rfl)
theorem sr_1007 : SR 1007 = some 83 := by decide +kernel
theorem vk_X0_closeLatest : VOK yX0_closeLatest cX0_closeLatest 1 none 0 := ⟨⟨(bw4 193 (by decide +kernel) rfl), (bw1 10 (by decide +kernel) rfl), by decide, by decide, by decide +kernel⟩, (bw4 191 (by decide +kernel) rfl), (bw4 192 (by decide +kernel) rfl)⟩
theorem ml_X11_180 : Cond.methodLink RX11 180 yX0_closeLatest ∈ BW := (bw4 190 (by decide +kernel) rfl)
theorem kt_83 : KT 83 = (0, 0) := by decide +kernel
theorem ff_9_6 : FF 9 6 RX9 "fault" "I" 0 false := ⟨TX9, 8, tyX9, rfl, uw_9, rfl, by decide, rfl, rfl, tyX9_ok, nmX9⟩
theorem fl_X11_171 : Cond.fieldLink RX11 171 RX9 "fault" "I" ∈ BW := (bw1 114 (by decide +kernel) rfl)
theorem ff_6_7 : FF 6 7 RX6 "motions" "I" 0 false := ⟨TX6, 10, tyX6, rfl, uw_6, rfl, by decide, rfl, rfl, tyX6_ok, nmX6⟩
theorem fl_X11_183 : Cond.fieldLink RX11 183 RX6 "motions" "I" ∈ BW := (bw1 191 (by decide +kernel) rfl)
theorem ff_11_3 : FF 11 3 RX11 "lineReader" "LCardHall$LineReader;" 3 true := ⟨TX11, 10, tyX11, rfl, uw_11, rfl, by decide, rfl, rfl, tyX11_ok, nmX11⟩
theorem fl_X11_48 : Cond.fieldLink RX11 48 RX11 "lineReader" "LCardHall$LineReader;" ∈ BW := (bw3 48 (by decide +kernel) rfl)
theorem sr_1003 : SR 1003 = some 64 := by decide +kernel
theorem vk_X4_readMotion : VOK yX4_readMotion cX4_readMotion 5 (some .boolean) 0 := ⟨⟨(bw4 202 (by decide +kernel) rfl), (bw1 7 (by decide +kernel) rfl), by decide, by decide, by decide +kernel⟩, (bw4 200 (by decide +kernel) rfl), (bw4 201 (by decide +kernel) rfl)⟩
theorem ml_X11_186 : Cond.methodLink RX11 186 yX4_readMotion ∈ BW := (bw4 199 (by decide +kernel) rfl)
theorem kt_64 : KT 64 = (0, 4) := by decide +kernel
theorem vk_X11_isLate : VOK yX11_isLate cX11_isLate 1 (some .boolean) 0 := ⟨⟨(bw4 229 (by decide +kernel) rfl), (bw1 1 (by decide +kernel) rfl), by decide, by decide, by decide +kernel⟩, (bw4 228 (by decide +kernel) rfl), (bw0 23 (by decide +kernel) rfl)⟩
theorem ml_X11_190 : Cond.methodLink RX11 190 yX11_isLate ∈ BW := (bw4 226 (by decide +kernel) rfl)
theorem ff_4_3 : FF 4 3 RX4 "size" "I" 0 false := ⟨TX4, 4, tyX4, rfl, uw_4, rfl, by decide, rfl, rfl, tyX4_ok, nmX4⟩
theorem fl_X11_193 : Cond.fieldLink RX11 193 RX4 "size" "I" ∈ BW := (bw2 10 (by decide +kernel) rfl)
theorem vk_X11_isTakenLate : VOK yX11_isTakenLate cX11_isTakenLate 3 (some .boolean) 2 := ⟨⟨(bw4 233 (by decide +kernel) rfl), (bw1 1 (by decide +kernel) rfl), by decide, by decide, by decide +kernel⟩, (bw4 232 (by decide +kernel) rfl), (bw0 24 (by decide +kernel) rfl)⟩
theorem ml_X11_196 : Cond.methodLink RX11 196 yX11_isTakenLate ∈ BW := (bw4 230 (by decide +kernel) rfl)
theorem vk_X6_addMotion : VOK yX6_addMotion cX6_addMotion 2 (some .int) 1 := ⟨⟨(bw5 27 (by decide +kernel) rfl), (bw1 4 (by decide +kernel) rfl), by decide, by decide, by decide +kernel⟩, (bw5 25 (by decide +kernel) rfl), (bw5 26 (by decide +kernel) rfl)⟩
theorem ml_X11_200 : Cond.methodLink RX11 200 yX6_addMotion ∈ BW := (bw5 24 (by decide +kernel) rfl)
theorem ff_6_0 : FF 6 0 RX6 "mover" "[I" 3 true := ⟨TX6, 10, tyX6, rfl, uw_6, rfl, by decide, rfl, rfl, tyX6_ok, nmX6⟩
theorem fl_X6_9 : Cond.fieldLink RX6 9 RX6 "mover" "[I" ∈ BW := (bw1 176 (by decide +kernel) rfl)
theorem sr_2536 : SR 2536 = some 13 := by decide +kernel
theorem fl_X6_38 : Cond.fieldLink RX6 38 RX6 "motions" "I" ∈ BW := (bw1 189 (by decide +kernel) rfl)
theorem nw_X6_49 : (RX6, 49, yX11_set, "CardHall") ∈ NWL := List.mem_of_getElem? (i := 16) rfl
theorem kt_13 : KT 13 = (1, 24) := by decide +kernel
theorem ff_4_1 : FF 4 1 RX4 "number" "[I" 3 true := ⟨TX4, 4, tyX4, rfl, uw_4, rfl, by decide, rfl, rfl, tyX4_ok, nmX4⟩
theorem fl_X11_203 : Cond.fieldLink RX11 203 RX4 "number" "[I" ∈ BW := (bw2 4 (by decide +kernel) rfl)
theorem sr_9193 : SR 9193 = some 65 := by decide +kernel
theorem ml_X11_207 : Cond.methodLink RX11 207 yX11_at ∈ BW := (bw5 29 (by decide +kernel) rfl)
theorem kt_65 : KT 65 = (1, 12) := by decide +kernel
theorem ff_4_2 : FF 4 2 RX4 "sort" "[I" 3 true := ⟨TX4, 4, tyX4, rfl, uw_4, rfl, by decide, rfl, rfl, tyX4_ok, nmX4⟩
theorem fl_X11_211 : Cond.fieldLink RX11 211 RX4 "sort" "[I" ∈ BW := (bw2 7 (by decide +kernel) rfl)
theorem sr_9194 : SR 9194 = some 66 := by decide +kernel
theorem kt_66 : KT 66 = (1, 12) := by decide +kernel
theorem vk_X3_addLine : VOK yX3_addLine cX3_addLine 6 none 4 := ⟨⟨(bw5 33 (by decide +kernel) rfl), (bw1 8 (by decide +kernel) rfl), by decide, by decide, by decide +kernel⟩, (bw5 31 (by decide +kernel) rfl), (bw5 32 (by decide +kernel) rfl)⟩
theorem ml_X11_214 : Cond.methodLink RX11 214 yX3_addLine ∈ BW := (bw5 30 (by decide +kernel) rfl)
theorem vk_X2_takesLate : VOK yX2_takesLate cX2_takesLate 5 (some .boolean) 4 := ⟨⟨(bw4 237 (by decide +kernel) rfl), (bw1 9 (by decide +kernel) rfl), by decide, by decide, by decide +kernel⟩, (bw4 235 (by decide +kernel) rfl), (bw4 236 (by decide +kernel) rfl)⟩
theorem ml_X11_218 : Cond.methodLink RX11 218 yX2_takesLate ∈ BW := (bw4 234 (by decide +kernel) rfl)
theorem ff_2_8 : FF 2 8 RX2 "facts" "[I" 3 true := ⟨TX2, 17, tyX2, rfl, uw_2, rfl, by decide, rfl, rfl, tyX2_ok, nmX2⟩
theorem fl_X2_34 : Cond.fieldLink RX2 34 RX2 "facts" "[I" ∈ BW := (bw2 79 (by decide +kernel) rfl)
theorem sr_10352 : SR 10352 = some 81 := by decide +kernel
theorem ff_8_4 : FF 8 4 RX8 "rate" "I" 0 false := ⟨TX8, 7, tyX8, rfl, uw_8, rfl, by decide, rfl, rfl, tyX8_ok, nmX8⟩
theorem fl_X2_108 : Cond.fieldLink RX2 108 RX8 "rate" "I" ∈ BW := (bw1 153 (by decide +kernel) rfl)
theorem vk_X2_paidHeadsOf : VOK yX2_paidHeadsOf cX2_paidHeadsOf 4 (some .int) 2 := ⟨⟨(bw5 1 (by decide +kernel) rfl), (bw1 9 (by decide +kernel) rfl), by decide, by decide, by decide +kernel⟩, (bw4 239 (by decide +kernel) rfl), (bw5 0 (by decide +kernel) rfl)⟩
theorem ml_X2_111 : Cond.methodLink RX2 111 yX2_paidHeadsOf ∈ BW := (bw4 238 (by decide +kernel) rfl)
theorem vk_X6_hasMotion : VOK yX6_hasMotion cX6_hasMotion 2 (some .boolean) 1 := ⟨⟨(bw5 41 (by decide +kernel) rfl), (bw1 4 (by decide +kernel) rfl), by decide, by decide, by decide +kernel⟩, (bw5 39 (by decide +kernel) rfl), (bw5 40 (by decide +kernel) rfl)⟩
theorem ml_X11_222 : Cond.methodLink RX11 222 yX6_hasMotion ∈ BW := (bw5 38 (by decide +kernel) rfl)
theorem ff_6_8 : FF 6 8 RX6 "amendments" "I" 0 false := ⟨TX6, 10, tyX6, rfl, uw_6, rfl, by decide, rfl, rfl, tyX6_ok, nmX6⟩
theorem fl_X11_225 : Cond.fieldLink RX11 225 RX6 "amendments" "I" ∈ BW := (bw1 194 (by decide +kernel) rfl)
theorem vk_X4_readAmendment : VOK yX4_readAmendment cX4_readAmendment 3 (some .boolean) 0 := ⟨⟨(bw5 45 (by decide +kernel) rfl), (bw1 7 (by decide +kernel) rfl), by decide, by decide, by decide +kernel⟩, (bw5 43 (by decide +kernel) rfl), (bw5 44 (by decide +kernel) rfl)⟩
theorem ml_X11_228 : Cond.methodLink RX11 228 yX4_readAmendment ∈ BW := (bw5 42 (by decide +kernel) rfl)
theorem vk_X6_addAmendment : VOK yX6_addAmendment cX6_addAmendment 4 (some .int) 2 := ⟨⟨(bw5 56 (by decide +kernel) rfl), (bw1 4 (by decide +kernel) rfl), by decide, by decide, by decide +kernel⟩, (bw5 54 (by decide +kernel) rfl), (bw5 55 (by decide +kernel) rfl)⟩
theorem ml_X11_231 : Cond.methodLink RX11 231 yX6_addAmendment ∈ BW := (bw5 53 (by decide +kernel) rfl)
theorem ff_9_7 : FF 9 7 RX9 "place" "I" 0 false := ⟨TX9, 8, tyX9, rfl, uw_9, rfl, by decide, rfl, rfl, tyX9_ok, nmX9⟩
theorem fl_X11_235 : Cond.fieldLink RX11 235 RX9 "place" "I" ∈ BW := (bw1 116 (by decide +kernel) rfl)
theorem vk_X7_isKnownDay : VOK yX7_isKnownDay cX7_isKnownDay 2 (some .boolean) 1 := ⟨⟨(bw5 69 (by decide +kernel) rfl), (bw1 2 (by decide +kernel) rfl), by decide, by decide, by decide +kernel⟩, (bw5 67 (by decide +kernel) rfl), (bw5 68 (by decide +kernel) rfl)⟩
theorem ml_X11_238 : Cond.methodLink RX11 238 yX7_isKnownDay ∈ BW := (bw5 66 (by decide +kernel) rfl)
theorem fl_X7_46 : Cond.fieldLink RX7 46 RX7 "today" "I" ∈ BW := (bw1 65 (by decide +kernel) rfl)
theorem fl_X11_241 : Cond.fieldLink RX11 241 RX8 "rate" "I" ∈ BW := (bw1 154 (by decide +kernel) rfl)
theorem ml_X11_244 : Cond.methodLink RX11 244 yX2_paidHeadsOf ∈ BW := (bw5 70 (by decide +kernel) rfl)
theorem vk_X2_cardsOf : VOK yX2_cardsOf cX2_cardsOf 4 (some .int) 2 := ⟨⟨(bw5 78 (by decide +kernel) rfl), (bw1 9 (by decide +kernel) rfl), by decide, by decide, by decide +kernel⟩, (bw5 76 (by decide +kernel) rfl), (bw5 77 (by decide +kernel) rfl)⟩
theorem ml_X11_247 : Cond.methodLink RX11 247 yX2_cardsOf ∈ BW := (bw5 75 (by decide +kernel) rfl)
theorem vk_X2_voiceOf : VOK yX2_voiceOf cX2_voiceOf 3 (some .int) 1 := ⟨⟨(bw3 159 (by decide +kernel) rfl), (bw1 9 (by decide +kernel) rfl), by decide, by decide, by decide +kernel⟩, (bw3 157 (by decide +kernel) rfl), (bw3 158 (by decide +kernel) rfl)⟩
theorem ml_X11_251 : Cond.methodLink RX11 251 yX2_voiceOf ∈ BW := (bw5 95 (by decide +kernel) rfl)
theorem ff_2_3 : FF 2 3 RX2 "casts" "[I" 3 true := ⟨TX2, 17, tyX2, rfl, uw_2, rfl, by decide, rfl, rfl, tyX2_ok, nmX2⟩
theorem fl_X2_18 : Cond.fieldLink RX2 18 RX2 "casts" "[I" ∈ BW := (bw2 74 (by decide +kernel) rfl)
theorem sr_10347 : SR 10347 = some 76 := by decide +kernel
theorem nw_X2_59 : (RX2, 59, yX11_at, "CardHall") ∈ NWL := List.mem_of_getElem? (i := 7) rfl
theorem kt_76 : KT 76 = (1, 12) := by decide +kernel
theorem vk_X2_weigh : VOK yX2_weigh cX2_weigh 4 none 2 := ⟨⟨(bw5 103 (by decide +kernel) rfl), (bw1 9 (by decide +kernel) rfl), by decide, by decide, by decide +kernel⟩, (bw5 101 (by decide +kernel) rfl), (bw5 102 (by decide +kernel) rfl)⟩
theorem ml_X11_254 : Cond.methodLink RX11 254 yX2_weigh ∈ BW := (bw5 100 (by decide +kernel) rfl)
theorem vk_X2_sumUp : VOK yX2_sumUp cX2_sumUp 4 none 1 := ⟨⟨(bw5 108 (by decide +kernel) rfl), (bw1 9 (by decide +kernel) rfl), by decide, by decide, by decide +kernel⟩, (bw5 106 (by decide +kernel) rfl), (bw5 107 (by decide +kernel) rfl)⟩
theorem ml_X11_258 : Cond.methodLink RX11 258 yX2_sumUp ∈ BW := (bw5 105 (by decide +kernel) rfl)
theorem ff_2_13 : FF 2 13 RX2 "yes" "I" 0 false := ⟨TX2, 17, tyX2, rfl, uw_2, rfl, by decide, rfl, rfl, tyX2_ok, nmX2⟩
theorem fl_X11_261 : Cond.fieldLink RX11 261 RX2 "yes" "I" ∈ BW := (bw2 86 (by decide +kernel) rfl)
theorem ff_2_14 : FF 2 14 RX2 "no" "I" 0 false := ⟨TX2, 17, tyX2, rfl, uw_2, rfl, by decide, rfl, rfl, tyX2_ok, nmX2⟩
theorem fl_X11_264 : Cond.fieldLink RX11 264 RX2 "no" "I" ∈ BW := (bw2 89 (by decide +kernel) rfl)
theorem ff_2_15 : FF 2 15 RX2 "all" "I" 0 false := ⟨TX2, 17, tyX2, rfl, uw_2, rfl, by decide, rfl, rfl, tyX2_ok, nmX2⟩
theorem fl_X11_267 : Cond.fieldLink RX11 267 RX2 "all" "I" ∈ BW := (bw2 92 (by decide +kernel) rfl)
theorem ff_2_16 : FF 2 16 RX2 "sections" "I" 0 false := ⟨TX2, 17, tyX2, rfl, uw_2, rfl, by decide, rfl, rfl, tyX2_ok, nmX2⟩
theorem fl_X11_270 : Cond.fieldLink RX11 270 RX2 "sections" "I" ∈ BW := (bw2 94 (by decide +kernel) rfl)
theorem vk_X2_brokenMandates : VOK yX2_brokenMandates cX2_brokenMandates 5 (some .int) 0 := ⟨⟨(bw5 129 (by decide +kernel) rfl), (bw1 9 (by decide +kernel) rfl), by decide, by decide, by decide +kernel⟩, (bw5 127 (by decide +kernel) rfl), (bw5 128 (by decide +kernel) rfl)⟩
theorem ml_X11_273 : Cond.methodLink RX11 273 yX2_brokenMandates ∈ BW := (bw5 126 (by decide +kernel) rfl)
theorem vk_X0_decideNow : VOK yX0_decideNow cX0_decideNow 2 (some .int) 1 := ⟨⟨(bw5 137 (by decide +kernel) rfl), (bw1 10 (by decide +kernel) rfl), by decide, by decide, by decide +kernel⟩, (bw5 135 (by decide +kernel) rfl), (bw5 136 (by decide +kernel) rfl)⟩
theorem ml_X11_277 : Cond.methodLink RX11 277 yX0_decideNow ∈ BW := (bw5 134 (by decide +kernel) rfl)
theorem ff_0_2 : FF 0 2 RX0 "floor" "LCardHall$Floor;" 3 true := ⟨TX0, 9, tyX0, rfl, uw_0, rfl, by decide, rfl, rfl, tyX0_ok, nmX0⟩
theorem fl_X0_23 : Cond.fieldLink RX0 23 RX0 "floor" "LCardHall$Floor;" ∈ BW := (bw2 141 (by decide +kernel) rfl)
theorem sr_11626 : SR 11626 = some 67 := by decide +kernel
theorem ml_X0_47 : Cond.methodLink RX0 47 yX3_stateOf ∈ BW := (bw5 138 (by decide +kernel) rfl)
theorem ff_0_8 : FF 0 8 RX0 "rows" "I" 0 false := ⟨TX0, 9, tyX0, rfl, uw_0, rfl, by decide, rfl, rfl, tyX0_ok, nmX0⟩
theorem fl_X0_51 : Cond.fieldLink RX0 51 RX0 "rows" "I" ∈ BW := (bw2 147 (by decide +kernel) rfl)
theorem ff_0_3 : FF 0 3 RX0 "before" "LCardHall$Floor;" 3 true := ⟨TX0, 9, tyX0, rfl, uw_0, rfl, by decide, rfl, rfl, tyX0_ok, nmX0⟩
theorem fl_X0_36 : Cond.fieldLink RX0 36 RX0 "before" "LCardHall$Floor;" ∈ BW := (bw2 142 (by decide +kernel) rfl)
theorem sr_11627 : SR 11627 = some 85 := by decide +kernel
theorem vk_X3_copyFrom : VOK yX3_copyFrom cX3_copyFrom 2 none 1 := ⟨⟨(bw5 142 (by decide +kernel) rfl), (bw1 8 (by decide +kernel) rfl), by decide, by decide, by decide +kernel⟩, (bw5 140 (by decide +kernel) rfl), (bw5 141 (by decide +kernel) rfl)⟩
theorem ml_X0_55 : Cond.methodLink RX0 55 yX3_copyFrom ∈ BW := (bw5 139 (by decide +kernel) rfl)
theorem kt_85 : KT 85 = (0, 3) := by decide +kernel
theorem vk_X0_decideWithout : VOK yX0_decideWithout cX0_decideWithout 4 (some .int) 1 := ⟨⟨(bw6 19 (by decide +kernel) rfl), (bw1 10 (by decide +kernel) rfl), by decide, by decide, by decide +kernel⟩, (bw6 17 (by decide +kernel) rfl), (bw6 18 (by decide +kernel) rfl)⟩
theorem ml_X11_280 : Cond.methodLink RX11 280 yX0_decideWithout ∈ BW := (bw6 16 (by decide +kernel) rfl)
theorem ff_0_6 : FF 0 6 RX0 "latestStays" "Z" 1 false := ⟨TX0, 9, tyX0, rfl, uw_0, rfl, by decide, rfl, rfl, tyX0_ok, nmX0⟩
theorem fl_X0_39 : Cond.fieldLink RX0 39 RX0 "latestStays" "Z" ∈ BW := (bw2 145 (by decide +kernel) rfl)
theorem ff_0_0 : FF 0 0 RX0 "register" "LCardHall$Register;" 3 true := ⟨TX0, 9, tyX0, rfl, uw_0, rfl, by decide, rfl, rfl, tyX0_ok, nmX0⟩
theorem fl_X0_15 : Cond.fieldLink RX0 15 RX0 "register" "LCardHall$Register;" ∈ BW := (bw2 139 (by decide +kernel) rfl)
theorem sr_11624 : SR 11624 = some 1 := by decide +kernel
theorem ml_X0_71 : Cond.methodLink RX0 71 yX7_hasAffiliate ∈ BW := (bw6 20 (by decide +kernel) rfl)
theorem ff_0_7 : FF 0 7 RX0 "voidBits" "I" 0 false := ⟨TX0, 9, tyX0, rfl, uw_0, rfl, by decide, rfl, rfl, tyX0_ok, nmX0⟩
theorem fl_X0_59 : Cond.fieldLink RX0 59 RX0 "voidBits" "I" ∈ BW := (bw2 146 (by decide +kernel) rfl)
theorem vk_X0_rowField : VOK yX0_rowField cX0_rowField 3 (some .int) 2 := ⟨⟨(bw6 24 (by decide +kernel) rfl), (bw1 10 (by decide +kernel) rfl), by decide, by decide, by decide +kernel⟩, (bw6 22 (by decide +kernel) rfl), (bw6 23 (by decide +kernel) rfl)⟩
theorem ml_X0_75 : Cond.methodLink RX0 75 yX0_rowField ∈ BW := (bw6 21 (by decide +kernel) rfl)
theorem ff_0_5 : FF 0 5 RX0 "fields" "[I" 3 true := ⟨TX0, 9, tyX0, rfl, uw_0, rfl, by decide, rfl, rfl, tyX0_ok, nmX0⟩
theorem fl_X0_11 : Cond.fieldLink RX0 11 RX0 "fields" "[I" ∈ BW := (bw2 144 (by decide +kernel) rfl)
theorem sr_11629 : SR 11629 = some 84 := by decide +kernel
theorem nw_X0_43 : (RX0, 43, yX11_at, "CardHall") ∈ NWL := List.mem_of_getElem? (i := 23) rfl
theorem kt_84 : KT 84 = (1, 700) := by decide +kernel
theorem vk_X3_sizeOf : VOK yX3_sizeOf cX3_sizeOf 2 (some .int) 1 := ⟨⟨(bw5 173 (by decide +kernel) rfl), (bw1 8 (by decide +kernel) rfl), by decide, by decide, by decide +kernel⟩, (bw5 171 (by decide +kernel) rfl), (bw5 172 (by decide +kernel) rfl)⟩
theorem ml_X11_296 : Cond.methodLink RX11 296 yX3_sizeOf ∈ BW := (bw6 38 (by decide +kernel) rfl)
theorem ff_3_2 : FF 3 2 RX3 "size" "[I" 3 true := ⟨TX3, 9, tyX3, rfl, uw_3, rfl, by decide, rfl, rfl, tyX3_ok, nmX3⟩
theorem fl_X3_15 : Cond.fieldLink RX3 15 RX3 "size" "[I" ∈ BW := (bw2 31 (by decide +kernel) rfl)
theorem sr_9578 : SR 9578 = some 69 := by decide +kernel
theorem kt_69 : KT 69 = (1, 25) := by decide +kernel
theorem vk_X3_lineOf : VOK yX3_lineOf cX3_lineOf 3 (some .int) 2 := ⟨⟨(bw5 177 (by decide +kernel) rfl), (bw1 8 (by decide +kernel) rfl), by decide, by decide, by decide +kernel⟩, (bw5 175 (by decide +kernel) rfl), (bw5 176 (by decide +kernel) rfl)⟩
theorem ml_X11_299 : Cond.methodLink RX11 299 yX3_lineOf ∈ BW := (bw6 39 (by decide +kernel) rfl)
theorem ff_3_3 : FF 3 3 RX3 "number" "[I" 3 true := ⟨TX3, 9, tyX3, rfl, uw_3, rfl, by decide, rfl, rfl, tyX3_ok, nmX3⟩
theorem fl_X3_18 : Cond.fieldLink RX3 18 RX3 "number" "[I" ∈ BW := (bw2 32 (by decide +kernel) rfl)
theorem sr_9579 : SR 9579 = some 70 := by decide +kernel
theorem kt_70 : KT 70 = (1, 300) := by decide +kernel
theorem vk_X3_mustOf : VOK yX3_mustOf cX3_mustOf 3 (some .int) 2 := ⟨⟨(bw5 181 (by decide +kernel) rfl), (bw1 8 (by decide +kernel) rfl), by decide, by decide, by decide +kernel⟩, (bw5 179 (by decide +kernel) rfl), (bw5 180 (by decide +kernel) rfl)⟩
theorem ml_X11_302 : Cond.methodLink RX11 302 yX3_mustOf ∈ BW := (bw6 40 (by decide +kernel) rfl)
theorem ff_3_4 : FF 3 4 RX3 "must" "[I" 3 true := ⟨TX3, 9, tyX3, rfl, uw_3, rfl, by decide, rfl, rfl, tyX3_ok, nmX3⟩
theorem fl_X3_21 : Cond.fieldLink RX3 21 RX3 "must" "[I" ∈ BW := (bw2 33 (by decide +kernel) rfl)
theorem sr_9580 : SR 9580 = some 71 := by decide +kernel
theorem kt_71 : KT 71 = (1, 300) := by decide +kernel
theorem vk_X3_byOf : VOK yX3_byOf cX3_byOf 3 (some .int) 2 := ⟨⟨(bw5 185 (by decide +kernel) rfl), (bw1 8 (by decide +kernel) rfl), by decide, by decide, by decide +kernel⟩, (bw5 183 (by decide +kernel) rfl), (bw5 184 (by decide +kernel) rfl)⟩
theorem ml_X11_305 : Cond.methodLink RX11 305 yX3_byOf ∈ BW := (bw6 41 (by decide +kernel) rfl)
theorem ff_3_5 : FF 3 5 RX3 "by" "[I" 3 true := ⟨TX3, 9, tyX3, rfl, uw_3, rfl, by decide, rfl, rfl, tyX3_ok, nmX3⟩
theorem fl_X3_24 : Cond.fieldLink RX3 24 RX3 "by" "[I" ∈ BW := (bw2 34 (by decide +kernel) rfl)
theorem sr_9581 : SR 9581 = some 72 := by decide +kernel
theorem kt_72 : KT 72 = (1, 300) := by decide +kernel
theorem ff_3_6 : FF 3 6 RX3 "said" "J" 2 false := ⟨TX3, 9, tyX3, rfl, uw_3, rfl, by decide, rfl, rfl, tyX3_ok, nmX3⟩
theorem fl_X11_308 : Cond.fieldLink RX11 308 RX3 "said" "J" ∈ BW := (bw2 37 (by decide +kernel) rfl)
theorem ff_3_7 : FF 3 7 RX3 "denied" "J" 2 false := ⟨TX3, 9, tyX3, rfl, uw_3, rfl, by decide, rfl, rfl, tyX3_ok, nmX3⟩
theorem fl_X11_312 : Cond.fieldLink RX11 312 RX3 "denied" "J" ∈ BW := (bw2 40 (by decide +kernel) rfl)
theorem ff_11_8 : FF 11 8 RX11 "composer" "LCardHall$Composer;" 3 true := ⟨TX11, 10, tyX11, rfl, uw_11, rfl, by decide, rfl, rfl, tyX11_ok, nmX11⟩
theorem fl_X11_84 : Cond.fieldLink RX11 84 RX11 "composer" "LCardHall$Composer;" ∈ BW := (bw3 53 (by decide +kernel) rfl)
theorem sr_1008 : SR 1008 = some 91 := by decide +kernel
theorem vk_X1_lostByAll : VOK yX1_lostByAll cX1_lostByAll 2 (some .int) 1 := ⟨⟨(bw6 53 (by decide +kernel) rfl), (bw1 11 (by decide +kernel) rfl), by decide, by decide, by decide +kernel⟩, (bw6 51 (by decide +kernel) rfl), (bw6 52 (by decide +kernel) rfl)⟩
theorem ml_X11_315 : Cond.methodLink RX11 315 yX1_lostByAll ∈ BW := (bw6 50 (by decide +kernel) rfl)
theorem kt_91 : KT 91 = (0, 1) := by decide +kernel
theorem vk_X1_choose : VOK yX1_choose cX1_choose 4 none 1 := ⟨⟨(bw6 57 (by decide +kernel) rfl), (bw1 11 (by decide +kernel) rfl), by decide, by decide, by decide +kernel⟩, (bw6 56 (by decide +kernel) rfl), (bw0 37 (by decide +kernel) rfl)⟩
theorem ml_X1_74 : Cond.methodLink RX1 74 yX1_choose ∈ BW := (bw6 54 (by decide +kernel) rfl)
theorem vk_X1_make : VOK yX1_make cX1_make 3 (some .int) 0 := ⟨⟨(bw6 105 (by decide +kernel) rfl), (bw1 11 (by decide +kernel) rfl), by decide, by decide, by decide +kernel⟩, (bw6 103 (by decide +kernel) rfl), (bw6 104 (by decide +kernel) rfl)⟩
theorem ml_X11_318 : Cond.methodLink RX11 318 yX1_make ∈ BW := (bw6 102 (by decide +kernel) rfl)
theorem vk_X1_groupUp : VOK yX1_groupUp cX1_groupUp 5 (some .int) 2 := ⟨⟨(bw6 117 (by decide +kernel) rfl), (bw1 11 (by decide +kernel) rfl), by decide, by decide, by decide +kernel⟩, (bw6 115 (by decide +kernel) rfl), (bw6 116 (by decide +kernel) rfl)⟩
theorem ml_X11_321 : Cond.methodLink RX11 321 yX1_groupUp ∈ BW := (bw6 114 (by decide +kernel) rfl)
theorem vk_X1_groupOf : VOK yX1_groupOf cX1_groupOf 3 (some .int) 1 := ⟨⟨(bw6 146 (by decide +kernel) rfl), (bw1 11 (by decide +kernel) rfl), by decide, by decide, by decide +kernel⟩, (bw6 144 (by decide +kernel) rfl), (bw6 145 (by decide +kernel) rfl)⟩
theorem ml_X11_324 : Cond.methodLink RX11 324 yX1_groupOf ∈ BW := (bw6 143 (by decide +kernel) rfl)
theorem vk_X0_wouldPass : VOK yX0_wouldPass cX0_wouldPass 4 (some .boolean) 2 := ⟨⟨(bw6 154 (by decide +kernel) rfl), (bw1 10 (by decide +kernel) rfl), by decide, by decide, by decide +kernel⟩, (bw6 152 (by decide +kernel) rfl), (bw6 153 (by decide +kernel) rfl)⟩
theorem ml_X11_327 : Cond.methodLink RX11 327 yX0_wouldPass ∈ BW := (bw6 151 (by decide +kernel) rfl)
theorem ff_0_1 : FF 0 1 RX0 "papers" "LCardHall$Papers;" 3 true := ⟨TX0, 9, tyX0, rfl, uw_0, rfl, by decide, rfl, rfl, tyX0_ok, nmX0⟩
theorem fl_X0_19 : Cond.fieldLink RX0 19 RX0 "papers" "LCardHall$Papers;" ∈ BW := (bw2 140 (by decide +kernel) rfl)
theorem sr_11625 : SR 11625 = some 12 := by decide +kernel
theorem fl_X0_87 : Cond.fieldLink RX0 87 RX3 "force" "I" ∈ BW := (bw2 43 (by decide +kernel) rfl)
theorem ml_X0_90 : Cond.methodLink RX0 90 yX6_inForce ∈ BW := (bw5 150 (by decide +kernel) rfl)
theorem ff_11_9 : FF 11 9 RX11 "worths" "LCardHall$Worths;" 3 true := ⟨TX11, 10, tyX11, rfl, uw_11, rfl, by decide, rfl, rfl, tyX11_ok, nmX11⟩
theorem fl_X11_91 : Cond.fieldLink RX11 91 RX11 "worths" "LCardHall$Worths;" ∈ BW := (bw3 54 (by decide +kernel) rfl)
theorem sr_1009 : SR 1009 = some 101 := by decide +kernel
theorem vk_X10_tell : VOK yX10_tell cX10_tell 4 (some .boolean) 3 := ⟨⟨(bw6 166 (by decide +kernel) rfl), (bw1 12 (by decide +kernel) rfl), by decide, by decide, by decide +kernel⟩, (bw6 164 (by decide +kernel) rfl), (bw6 165 (by decide +kernel) rfl)⟩
theorem ml_X11_330 : Cond.methodLink RX11 330 yX10_tell ∈ BW := (bw6 163 (by decide +kernel) rfl)
theorem kt_101 : KT 101 = (0, 10) := by decide +kernel
theorem ff_10_4 : FF 10 4 RX10 "worthOf" "[I" 3 true := ⟨TX10, 16, tyX10, rfl, uw_10, rfl, by decide, rfl, rfl, tyX10_ok, nmX10⟩
theorem fl_X10_9 : Cond.fieldLink RX10 9 RX10 "worthOf" "[I" ∈ BW := (bw2 239 (by decide +kernel) rfl)
theorem sr_13932 : SR 13932 = some 102 := by decide +kernel
theorem nw_X10_62 : (RX10, 62, yX11_set, "CardHall") ∈ NWL := List.mem_of_getElem? (i := 30) rfl
theorem kt_102 : KT 102 = (1, 288) := by decide +kernel
theorem vk_X10_prepare : VOK yX10_prepare cX10_prepare 5 (some .boolean) 1 := ⟨⟨(bw6 175 (by decide +kernel) rfl), (bw1 12 (by decide +kernel) rfl), by decide, by decide, by decide +kernel⟩, (bw6 173 (by decide +kernel) rfl), (bw6 174 (by decide +kernel) rfl)⟩
theorem ml_X11_332 : Cond.methodLink RX11 332 yX10_prepare ∈ BW := (bw6 172 (by decide +kernel) rfl)
theorem vk_X10_readOrder : VOK yX10_readOrder cX10_readOrder 6 (some .boolean) 1 := ⟨⟨(bw6 201 (by decide +kernel) rfl), (bw1 12 (by decide +kernel) rfl), by decide, by decide, by decide +kernel⟩, (bw6 199 (by decide +kernel) rfl), (bw6 200 (by decide +kernel) rfl)⟩
theorem ml_X11_335 : Cond.methodLink RX11 335 yX10_readOrder ∈ BW := (bw6 198 (by decide +kernel) rfl)
theorem vk_X10_along : VOK yX10_along cX10_along 15 (some .int) 1 := ⟨⟨(bw6 205 (by decide +kernel) rfl), (bw1 12 (by decide +kernel) rfl), by decide, by decide, by decide +kernel⟩, (bw6 203 (by decide +kernel) rfl), (bw6 204 (by decide +kernel) rfl)⟩
theorem ml_X11_338 : Cond.methodLink RX11 338 yX10_along ∈ BW := (bw6 202 (by decide +kernel) rfl)
theorem ff_10_6 : FF 10 6 RX10 "many" "I" 0 false := ⟨TX10, 16, tyX10, rfl, uw_10, rfl, by decide, rfl, rfl, tyX10_ok, nmX10⟩
theorem fl_X11_341 : Cond.fieldLink RX11 341 RX10 "many" "I" ∈ BW := (bw3 2 (by decide +kernel) rfl)
theorem vk_X10_findBest : VOK yX10_findBest cX10_findBest 5 (some .int) 1 := ⟨⟨(bw6 219 (by decide +kernel) rfl), (bw1 12 (by decide +kernel) rfl), by decide, by decide, by decide +kernel⟩, (bw6 217 (by decide +kernel) rfl), (bw6 218 (by decide +kernel) rfl)⟩
theorem ml_X11_344 : Cond.methodLink RX11 344 yX10_findBest ∈ BW := (bw6 216 (by decide +kernel) rfl)
theorem vk_X10_bestMotionAt : VOK yX10_bestMotionAt cX10_bestMotionAt 2 (some .int) 1 := ⟨⟨(bw6 233 (by decide +kernel) rfl), (bw1 12 (by decide +kernel) rfl), by decide, by decide, by decide +kernel⟩, (bw6 231 (by decide +kernel) rfl), (bw6 232 (by decide +kernel) rfl)⟩
theorem ml_X11_347 : Cond.methodLink RX11 347 yX10_bestMotionAt ∈ BW := (bw6 230 (by decide +kernel) rfl)
theorem ff_10_5 : FF 10 5 RX10 "motions" "[I" 3 true := ⟨TX10, 16, tyX10, rfl, uw_10, rfl, by decide, rfl, rfl, tyX10_ok, nmX10⟩
theorem fl_X10_15 : Cond.fieldLink RX10 15 RX10 "motions" "[I" ∈ BW := (bw3 0 (by decide +kernel) rfl)
theorem sr_13933 : SR 13933 = some 103 := by decide +kernel
theorem ff_10_13 : FF 10 13 RX10 "bestOrder" "[I" 3 true := ⟨TX10, 16, tyX10, rfl, uw_10, rfl, by decide, rfl, rfl, tyX10_ok, nmX10⟩
theorem fl_X10_37 : Cond.fieldLink RX10 37 RX10 "bestOrder" "[I" ∈ BW := (bw3 9 (by decide +kernel) rfl)
theorem sr_13941 : SR 13941 = some 110 := by decide +kernel
theorem nw_X10_66 : (RX10, 66, yX11_at, "CardHall") ∈ NWL := List.mem_of_getElem? (i := 31) rfl
theorem kt_110 : KT 110 = (1, 6) := by decide +kernel
theorem kt_103 : KT 103 = (1, 6) := by decide +kernel
theorem vk_X10_findDeal : VOK yX10_findDeal cX10_findDeal 3 (some .boolean) 0 := ⟨⟨(bw7 1 (by decide +kernel) rfl), (bw1 12 (by decide +kernel) rfl), by decide, by decide, by decide +kernel⟩, (bw6 239 (by decide +kernel) rfl), (bw7 0 (by decide +kernel) rfl)⟩
theorem ml_X11_350 : Cond.methodLink RX11 350 yX10_findDeal ∈ BW := (bw6 238 (by decide +kernel) rfl)
theorem vk_X10_dealField : VOK yX10_dealField cX10_dealField 2 (some .int) 1 := ⟨⟨(bw7 21 (by decide +kernel) rfl), (bw1 12 (by decide +kernel) rfl), by decide, by decide, by decide +kernel⟩, (bw7 19 (by decide +kernel) rfl), (bw7 20 (by decide +kernel) rfl)⟩
theorem ml_X11_353 : Cond.methodLink RX11 353 yX10_dealField ∈ BW := (bw7 18 (by decide +kernel) rfl)
theorem ff_10_15 : FF 10 15 RX10 "theDeal" "[I" 3 true := ⟨TX10, 16, tyX10, rfl, uw_10, rfl, by decide, rfl, rfl, tyX10_ok, nmX10⟩
theorem fl_X10_43 : Cond.fieldLink RX10 43 RX10 "theDeal" "[I" ∈ BW := (bw3 11 (by decide +kernel) rfl)
theorem sr_13943 : SR 13943 = some 112 := by decide +kernel
theorem kt_112 : KT 112 = (1, 6) := by decide +kernel
theorem fl_X11_356 : Cond.fieldLink RX11 356 RX7 "affiliates" "I" ∈ BW := (bw1 58 (by decide +kernel) rfl)
theorem fl_X11_359 : Cond.fieldLink RX11 359 RX7 "branches" "I" ∈ BW := (bw1 61 (by decide +kernel) rfl)
theorem fl_X11_362 : Cond.fieldLink RX11 362 RX7 "tellings" "I" ∈ BW := (bw1 64 (by decide +kernel) rfl)
theorem fl_X11_283 : Cond.fieldLink RX11 283 RX0 "rows" "I" ∈ BW := (bw2 148 (by decide +kernel) rfl)
theorem vk_X3_openMotions : VOK yX3_openMotions cX3_openMotions 3 (some .int) 0 := ⟨⟨(bw7 29 (by decide +kernel) rfl), (bw1 8 (by decide +kernel) rfl), by decide, by decide, by decide +kernel⟩, (bw7 27 (by decide +kernel) rfl), (bw7 28 (by decide +kernel) rfl)⟩
theorem ml_X11_365 : Cond.methodLink RX11 365 yX3_openMotions ∈ BW := (bw7 26 (by decide +kernel) rfl)
theorem sk_J13_bitCount_95d88 : SOK yJ13_bitCount_95d88 cJ13_bitCount_95d88 2 (some .int) 1 := ⟨⟨(bw6 89 (by decide +kernel) rfl), (bw1 24 (by decide +kernel) rfl), by decide, by decide, by decide +kernel⟩, (bw6 88 (by decide +kernel) rfl)⟩
theorem ml_X11_368 : Cond.methodLink RX11 368 yJ13_bitCount_95d88 ∈ BW := (bw7 30 (by decide +kernel) rfl)
theorem ff_12_0 : FF 12 0 RX12 "thrown" "I" 0 false := ⟨TX12, 90, tyX12, rfl, uw_12, rfl, by decide, rfl, rfl, tyX12_ok, nmX12⟩
theorem fl_X12_1 : Cond.fieldLink RX12 1 RX12 "thrown" "I" ∈ BW := (bw7 115 (by decide +kernel) rfl)
theorem kt_113 : KT 113 = (0, 12) := by decide +kernel
theorem ff_12_2 : FF 12 2 RX12 "affiliates" "I" 0 false := ⟨TX12, 90, tyX12, rfl, uw_12, rfl, by decide, rfl, rfl, tyX12_ok, nmX12⟩
theorem fl_X12_209 : Cond.fieldLink RX12 209 RX12 "affiliates" "I" ∈ BW := (bw7 117 (by decide +kernel) rfl)
theorem ff_12_1 : FF 12 1 RX12 "today" "I" 0 false := ⟨TX12, 90, tyX12, rfl, uw_12, rfl, by decide, rfl, rfl, tyX12_ok, nmX12⟩
theorem fl_X12_212 : Cond.fieldLink RX12 212 RX12 "today" "I" ∈ BW := (bw7 116 (by decide +kernel) rfl)
theorem sk_X12_within : SOK yX12_within cX12_within 3 (some .boolean) 3 := ⟨⟨(bw8 153 (by decide +kernel) rfl), (bw1 13 (by decide +kernel) rfl), by decide, by decide, by decide +kernel⟩, (bw8 152 (by decide +kernel) rfl)⟩
theorem ml_X12_215 : Cond.methodLink RX12 215 yX12_within ∈ BW := (bw8 151 (by decide +kernel) rfl)
theorem ff_12_3 : FF 12 3 RX12 "section" "[I" 3 true := ⟨TX12, 90, tyX12, rfl, uw_12, rfl, by decide, rfl, rfl, tyX12_ok, nmX12⟩
theorem fl_X12_13 : Cond.fieldLink RX12 13 RX12 "section" "[I" ∈ BW := (bw7 118 (by decide +kernel) rfl)
theorem sr_15467 : SR 15467 = some 114 := by decide +kernel
theorem kt_114 : KT 114 = (1, 12) := by decide +kernel
theorem vk_X12_isAffiliate : VOK yX12_isAffiliate cX12_isAffiliate 2 (some .boolean) 1 := ⟨⟨(bw8 161 (by decide +kernel) rfl), (bw1 13 (by decide +kernel) rfl), by decide, by decide, by decide +kernel⟩, (bw8 160 (by decide +kernel) rfl), (bw0 56 (by decide +kernel) rfl)⟩
theorem ml_X12_219 : Cond.methodLink RX12 219 yX12_isAffiliate ∈ BW := (bw8 158 (by decide +kernel) rfl)
theorem ff_12_4 : FF 12 4 RX12 "branches" "I" 0 false := ⟨TX12, 90, tyX12, rfl, uw_12, rfl, by decide, rfl, rfl, tyX12_ok, nmX12⟩
theorem fl_X12_223 : Cond.fieldLink RX12 223 RX12 "branches" "I" ∈ BW := (bw7 119 (by decide +kernel) rfl)
theorem ff_12_5 : FF 12 5 RX12 "branchOf" "[I" 3 true := ⟨TX12, 90, tyX12, rfl, uw_12, rfl, by decide, rfl, rfl, tyX12_ok, nmX12⟩
theorem fl_X12_17 : Cond.fieldLink RX12 17 RX12 "branchOf" "[I" ∈ BW := (bw7 120 (by decide +kernel) rfl)
theorem sr_15469 : SR 15469 = some 115 := by decide +kernel
theorem kt_115 : KT 115 = (1, 48) := by decide +kernel
theorem ff_12_6 : FF 12 6 RX12 "souls" "[I" 3 true := ⟨TX12, 90, tyX12, rfl, uw_12, rfl, by decide, rfl, rfl, tyX12_ok, nmX12⟩
theorem fl_X12_20 : Cond.fieldLink RX12 20 RX12 "souls" "[I" ∈ BW := (bw7 121 (by decide +kernel) rfl)
theorem sr_15470 : SR 15470 = some 116 := by decide +kernel
theorem kt_116 : KT 116 = (1, 48) := by decide +kernel
theorem cs_X12_226 : Cond.constant RX12 226 (Int32.ofInt (100000)) ∈ BW := (bw8 166 (by decide +kernel) rfl)
theorem ff_12_7 : FF 12 7 RX12 "closing" "I" 0 false := ⟨TX12, 90, tyX12, rfl, uw_12, rfl, by decide, rfl, rfl, tyX12_ok, nmX12⟩
theorem fl_X12_23 : Cond.fieldLink RX12 23 RX12 "closing" "I" ∈ BW := (bw7 122 (by decide +kernel) rfl)
theorem ff_12_16 : FF 12 16 RX12 "inForce" "I" 0 false := ⟨TX12, 90, tyX12, rfl, uw_12, rfl, by decide, rfl, rfl, tyX12_ok, nmX12⟩
theorem fl_X12_41 : Cond.fieldLink RX12 41 RX12 "inForce" "I" ∈ BW := (bw7 131 (by decide +kernel) rfl)
theorem ff_12_25 : FF 12 25 RX12 "wasInForce" "I" 0 false := ⟨TX12, 90, tyX12, rfl, uw_12, rfl, by decide, rfl, rfl, tyX12_ok, nmX12⟩
theorem fl_X12_69 : Cond.fieldLink RX12 69 RX12 "wasInForce" "I" ∈ BW := (bw7 140 (by decide +kernel) rfl)
theorem ff_12_17 : FF 12 17 RX12 "motionHow" "[I" 3 true := ⟨TX12, 90, tyX12, rfl, uw_12, rfl, by decide, rfl, rfl, tyX12_ok, nmX12⟩
theorem fl_X12_44 : Cond.fieldLink RX12 44 RX12 "motionHow" "[I" ∈ BW := (bw7 132 (by decide +kernel) rfl)
theorem sr_15481 : SR 15481 = some 122 := by decide +kernel
theorem ff_12_26 : FF 12 26 RX12 "wasMotion" "[I" 3 true := ⟨TX12, 90, tyX12, rfl, uw_12, rfl, by decide, rfl, rfl, tyX12_ok, nmX12⟩
theorem fl_X12_72 : Cond.fieldLink RX12 72 RX12 "wasMotion" "[I" ∈ BW := (bw7 141 (by decide +kernel) rfl)
theorem sr_15490 : SR 15490 = some 130 := by decide +kernel
theorem vk_X12_copies : VOK yX12_copies cX12_copies 4 none 2 := ⟨⟨(bw10 5 (by decide +kernel) rfl), (bw1 13 (by decide +kernel) rfl), by decide, by decide, by decide +kernel⟩, (bw10 4 (by decide +kernel) rfl), (bw0 103 (by decide +kernel) rfl)⟩
theorem ml_X12_227 : Cond.methodLink RX12 227 yX12_copies ∈ BW := (bw10 2 (by decide +kernel) rfl)
theorem kt_122 : KT 122 = (1, 24) := by decide +kernel
theorem kt_130 : KT 130 = (1, 24) := by decide +kernel
theorem ff_12_18 : FF 12 18 RX12 "amendHow" "[I" 3 true := ⟨TX12, 90, tyX12, rfl, uw_12, rfl, by decide, rfl, rfl, tyX12_ok, nmX12⟩
theorem fl_X12_47 : Cond.fieldLink RX12 47 RX12 "amendHow" "[I" ∈ BW := (bw7 133 (by decide +kernel) rfl)
theorem sr_15482 : SR 15482 = some 123 := by decide +kernel
theorem ff_12_27 : FF 12 27 RX12 "wasAmend" "[I" 3 true := ⟨TX12, 90, tyX12, rfl, uw_12, rfl, by decide, rfl, rfl, tyX12_ok, nmX12⟩
theorem fl_X12_75 : Cond.fieldLink RX12 75 RX12 "wasAmend" "[I" ∈ BW := (bw7 142 (by decide +kernel) rfl)
theorem sr_15491 : SR 15491 = some 131 := by decide +kernel
theorem kt_123 : KT 123 = (1, 40) := by decide +kernel
theorem kt_131 : KT 131 = (1, 40) := by decide +kernel
theorem ff_12_19 : FF 12 19 RX12 "orderHow" "[I" 3 true := ⟨TX12, 90, tyX12, rfl, uw_12, rfl, by decide, rfl, rfl, tyX12_ok, nmX12⟩
theorem fl_X12_50 : Cond.fieldLink RX12 50 RX12 "orderHow" "[I" ∈ BW := (bw7 134 (by decide +kernel) rfl)
theorem sr_15483 : SR 15483 = some 124 := by decide +kernel
theorem ff_12_28 : FF 12 28 RX12 "wasOrder" "[I" 3 true := ⟨TX12, 90, tyX12, rfl, uw_12, rfl, by decide, rfl, rfl, tyX12_ok, nmX12⟩
theorem fl_X12_78 : Cond.fieldLink RX12 78 RX12 "wasOrder" "[I" ∈ BW := (bw7 143 (by decide +kernel) rfl)
theorem sr_15492 : SR 15492 = some 132 := by decide +kernel
theorem kt_124 : KT 124 = (1, 10) := by decide +kernel
theorem kt_132 : KT 132 = (1, 10) := by decide +kernel
theorem ff_12_20 : FF 12 20 RX12 "lines" "[I" 3 true := ⟨TX12, 90, tyX12, rfl, uw_12, rfl, by decide, rfl, rfl, tyX12_ok, nmX12⟩
theorem fl_X12_53 : Cond.fieldLink RX12 53 RX12 "lines" "[I" ∈ BW := (bw7 135 (by decide +kernel) rfl)
theorem sr_15484 : SR 15484 = some 125 := by decide +kernel
theorem ff_12_29 : FF 12 29 RX12 "wasLines" "[I" 3 true := ⟨TX12, 90, tyX12, rfl, uw_12, rfl, by decide, rfl, rfl, tyX12_ok, nmX12⟩
theorem fl_X12_81 : Cond.fieldLink RX12 81 RX12 "wasLines" "[I" ∈ BW := (bw7 144 (by decide +kernel) rfl)
theorem sr_15493 : SR 15493 = some 133 := by decide +kernel
theorem kt_125 : KT 125 = (1, 24) := by decide +kernel
theorem kt_133 : KT 133 = (1, 24) := by decide +kernel
theorem ff_12_21 : FF 12 21 RX12 "lineN" "[I" 3 true := ⟨TX12, 90, tyX12, rfl, uw_12, rfl, by decide, rfl, rfl, tyX12_ok, nmX12⟩
theorem fl_X12_56 : Cond.fieldLink RX12 56 RX12 "lineN" "[I" ∈ BW := (bw7 136 (by decide +kernel) rfl)
theorem sr_15485 : SR 15485 = some 126 := by decide +kernel
theorem ff_12_30 : FF 12 30 RX12 "wasN" "[I" 3 true := ⟨TX12, 90, tyX12, rfl, uw_12, rfl, by decide, rfl, rfl, tyX12_ok, nmX12⟩
theorem fl_X12_84 : Cond.fieldLink RX12 84 RX12 "wasN" "[I" ∈ BW := (bw7 145 (by decide +kernel) rfl)
theorem sr_15494 : SR 15494 = some 134 := by decide +kernel
theorem kt_126 : KT 126 = (1, 288) := by decide +kernel
theorem kt_134 : KT 134 = (1, 288) := by decide +kernel
theorem ff_12_23 : FF 12 23 RX12 "lineBy" "[I" 3 true := ⟨TX12, 90, tyX12, rfl, uw_12, rfl, by decide, rfl, rfl, tyX12_ok, nmX12⟩
theorem fl_X12_63 : Cond.fieldLink RX12 63 RX12 "lineBy" "[I" ∈ BW := (bw7 138 (by decide +kernel) rfl)
theorem sr_15487 : SR 15487 = some 128 := by decide +kernel
theorem ff_12_32 : FF 12 32 RX12 "wasBy" "[I" 3 true := ⟨TX12, 90, tyX12, rfl, uw_12, rfl, by decide, rfl, rfl, tyX12_ok, nmX12⟩
theorem fl_X12_90 : Cond.fieldLink RX12 90 RX12 "wasBy" "[I" ∈ BW := (bw7 147 (by decide +kernel) rfl)
theorem sr_15496 : SR 15496 = some 136 := by decide +kernel
theorem kt_128 : KT 128 = (1, 288) := by decide +kernel
theorem kt_136 : KT 136 = (1, 288) := by decide +kernel
theorem ff_12_24 : FF 12 24 RX12 "stand" "[I" 3 true := ⟨TX12, 90, tyX12, rfl, uw_12, rfl, by decide, rfl, rfl, tyX12_ok, nmX12⟩
theorem fl_X12_66 : Cond.fieldLink RX12 66 RX12 "stand" "[I" ∈ BW := (bw7 139 (by decide +kernel) rfl)
theorem sr_15488 : SR 15488 = some 129 := by decide +kernel
theorem ff_12_33 : FF 12 33 RX12 "wasStand" "[I" 3 true := ⟨TX12, 90, tyX12, rfl, uw_12, rfl, by decide, rfl, rfl, tyX12_ok, nmX12⟩
theorem fl_X12_93 : Cond.fieldLink RX12 93 RX12 "wasStand" "[I" ∈ BW := (bw7 148 (by decide +kernel) rfl)
theorem sr_15497 : SR 15497 = some 137 := by decide +kernel
theorem kt_129 : KT 129 = (1, 61) := by decide +kernel
theorem kt_137 : KT 137 = (1, 61) := by decide +kernel
theorem ff_12_31 : FF 12 31 RX12 "wasMust" "[Z" 3 true := ⟨TX12, 90, tyX12, rfl, uw_12, rfl, by decide, rfl, rfl, tyX12_ok, nmX12⟩
theorem fl_X12_87 : Cond.fieldLink RX12 87 RX12 "wasMust" "[Z" ∈ BW := (bw7 146 (by decide +kernel) rfl)
theorem sr_15495 : SR 15495 = some 135 := by decide +kernel
theorem ff_12_22 : FF 12 22 RX12 "isMust" "[Z" 3 true := ⟨TX12, 90, tyX12, rfl, uw_12, rfl, by decide, rfl, rfl, tyX12_ok, nmX12⟩
theorem fl_X12_59 : Cond.fieldLink RX12 59 RX12 "isMust" "[Z" ∈ BW := (bw7 137 (by decide +kernel) rfl)
theorem sr_15486 : SR 15486 = some 127 := by decide +kernel
theorem kt_127 : KT 127 = (4, 288) := by decide +kernel
theorem kt_135 : KT 135 = (4, 288) := by decide +kernel
theorem ff_12_8 : FF 12 8 RX12 "motions" "I" 0 false := ⟨TX12, 90, tyX12, rfl, uw_12, rfl, by decide, rfl, rfl, tyX12_ok, nmX12⟩
theorem fl_X12_231 : Cond.fieldLink RX12 231 RX12 "motions" "I" ∈ BW := (bw7 123 (by decide +kernel) rfl)
theorem vk_X12_isMotion : VOK yX12_isMotion cX12_isMotion 2 (some .boolean) 1 := ⟨⟨(bw8 182 (by decide +kernel) rfl), (bw1 13 (by decide +kernel) rfl), by decide, by decide, by decide +kernel⟩, (bw8 181 (by decide +kernel) rfl), (bw0 58 (by decide +kernel) rfl)⟩
theorem ml_X12_234 : Cond.methodLink RX12 234 yX12_isMotion ∈ BW := (bw8 179 (by decide +kernel) rfl)
theorem ff_12_10 : FF 12 10 RX12 "amends" "I" 0 false := ⟨TX12, 90, tyX12, rfl, uw_12, rfl, by decide, rfl, rfl, tyX12_ok, nmX12⟩
theorem fl_X12_237 : Cond.fieldLink RX12 237 RX12 "amends" "I" ∈ BW := (bw7 125 (by decide +kernel) rfl)
theorem ff_12_15 : FF 12 15 RX12 "orders" "I" 0 false := ⟨TX12, 90, tyX12, rfl, uw_12, rfl, by decide, rfl, rfl, tyX12_ok, nmX12⟩
theorem fl_X12_240 : Cond.fieldLink RX12 240 RX12 "orders" "I" ∈ BW := (bw7 130 (by decide +kernel) rfl)
theorem vk_X12_isMatter : VOK yX12_isMatter cX12_isMatter 2 (some .boolean) 1 := ⟨⟨(bw8 178 (by decide +kernel) rfl), (bw1 13 (by decide +kernel) rfl), by decide, by decide, by decide +kernel⟩, (bw8 177 (by decide +kernel) rfl), (bw0 57 (by decide +kernel) rfl)⟩
theorem ml_X12_243 : Cond.methodLink RX12 243 yX12_isMatter ∈ BW := (bw8 175 (by decide +kernel) rfl)
theorem vk_X12_howOf : VOK yX12_howOf cX12_howOf 2 (some .int) 1 := ⟨⟨(bw8 186 (by decide +kernel) rfl), (bw1 13 (by decide +kernel) rfl), by decide, by decide, by decide +kernel⟩, (bw8 185 (by decide +kernel) rfl), (bw0 59 (by decide +kernel) rfl)⟩
theorem ml_X12_246 : Cond.methodLink RX12 246 yX12_howOf ∈ BW := (bw8 183 (by decide +kernel) rfl)
theorem ff_12_34 : FF 12 34 RX12 "tellings" "I" 0 false := ⟨TX12, 90, tyX12, rfl, uw_12, rfl, by decide, rfl, rfl, tyX12_ok, nmX12⟩
theorem fl_X12_250 : Cond.fieldLink RX12 250 RX12 "tellings" "I" ∈ BW := (bw7 149 (by decide +kernel) rfl)
theorem ff_12_35 : FF 12 35 RX12 "tellKind" "[I" 3 true := ⟨TX12, 90, tyX12, rfl, uw_12, rfl, by decide, rfl, rfl, tyX12_ok, nmX12⟩
theorem fl_X12_96 : Cond.fieldLink RX12 96 RX12 "tellKind" "[I" ∈ BW := (bw7 150 (by decide +kernel) rfl)
theorem sr_15499 : SR 15499 = some 138 := by decide +kernel
theorem kt_138 : KT 138 = (1, 600) := by decide +kernel
theorem ff_12_36 : FF 12 36 RX12 "tellOf" "[I" 3 true := ⟨TX12, 90, tyX12, rfl, uw_12, rfl, by decide, rfl, rfl, tyX12_ok, nmX12⟩
theorem fl_X12_99 : Cond.fieldLink RX12 99 RX12 "tellOf" "[I" ∈ BW := (bw7 151 (by decide +kernel) rfl)
theorem sr_15500 : SR 15500 = some 139 := by decide +kernel
theorem kt_139 : KT 139 = (1, 600) := by decide +kernel
theorem ff_12_37 : FF 12 37 RX12 "tellMatter" "[I" 3 true := ⟨TX12, 90, tyX12, rfl, uw_12, rfl, by decide, rfl, rfl, tyX12_ok, nmX12⟩
theorem fl_X12_102 : Cond.fieldLink RX12 102 RX12 "tellMatter" "[I" ∈ BW := (bw7 152 (by decide +kernel) rfl)
theorem sr_15501 : SR 15501 = some 140 := by decide +kernel
theorem kt_140 : KT 140 = (1, 600) := by decide +kernel
theorem ff_12_38 : FF 12 38 RX12 "tellWhat" "[I" 3 true := ⟨TX12, 90, tyX12, rfl, uw_12, rfl, by decide, rfl, rfl, tyX12_ok, nmX12⟩
theorem fl_X12_105 : Cond.fieldLink RX12 105 RX12 "tellWhat" "[I" ∈ BW := (bw7 153 (by decide +kernel) rfl)
theorem sr_15502 : SR 15502 = some 141 := by decide +kernel
theorem kt_141 : KT 141 = (1, 600) := by decide +kernel
theorem ff_12_39 : FF 12 39 RX12 "tellDay" "[I" 3 true := ⟨TX12, 90, tyX12, rfl, uw_12, rfl, by decide, rfl, rfl, tyX12_ok, nmX12⟩
theorem fl_X12_108 : Cond.fieldLink RX12 108 RX12 "tellDay" "[I" ∈ BW := (bw7 154 (by decide +kernel) rfl)
theorem sr_15503 : SR 15503 = some 142 := by decide +kernel
theorem kt_142 : KT 142 = (1, 600) := by decide +kernel
theorem vk_X12_tells : VOK yX12_tells cX12_tells 5 (some .boolean) 4 := ⟨⟨(bw8 202 (by decide +kernel) rfl), (bw1 13 (by decide +kernel) rfl), by decide, by decide, by decide +kernel⟩, (bw8 201 (by decide +kernel) rfl), (bw0 60 (by decide +kernel) rfl)⟩
theorem ml_X12_253 : Cond.methodLink RX12 253 yX12_tells ∈ BW := (bw8 199 (by decide +kernel) rfl)
theorem cs_X12_257 : Cond.constant RX12 257 (Int32.ofInt (99999)) ∈ BW := (bw8 207 (by decide +kernel) rfl)
theorem vk_X12_toldBy : VOK yX12_toldBy cX12_toldBy 7 (some .int) 5 := ⟨⟨(bw8 223 (by decide +kernel) rfl), (bw1 13 (by decide +kernel) rfl), by decide, by decide, by decide +kernel⟩, (bw8 222 (by decide +kernel) rfl), (bw0 62 (by decide +kernel) rfl)⟩
theorem ml_X12_258 : Cond.methodLink RX12 258 yX12_toldBy ∈ BW := (bw8 220 (by decide +kernel) rfl)
theorem vk_X12_mandateOf : VOK yX12_mandateOf cX12_mandateOf 7 (some .int) 3 := ⟨⟨(bw8 219 (by decide +kernel) rfl), (bw1 13 (by decide +kernel) rfl), by decide, by decide, by decide +kernel⟩, (bw8 218 (by decide +kernel) rfl), (bw0 61 (by decide +kernel) rfl)⟩
theorem ml_X12_262 : Cond.methodLink RX12 262 yX12_mandateOf ∈ BW := (bw8 216 (by decide +kernel) rfl)
theorem vk_X12_hasBind : VOK yX12_hasBind cX12_hasBind 1 (some .boolean) 0 := ⟨⟨(bw8 227 (by decide +kernel) rfl), (bw1 13 (by decide +kernel) rfl), by decide, by decide, by decide +kernel⟩, (bw8 226 (by decide +kernel) rfl), (bw0 63 (by decide +kernel) rfl)⟩
theorem ml_X12_266 : Cond.methodLink RX12 266 yX12_hasBind ∈ BW := (bw8 224 (by decide +kernel) rfl)
theorem vk_X12_clause : VOK yX12_clause cX12_clause 4 (some .int) 1 := ⟨⟨(bw8 231 (by decide +kernel) rfl), (bw1 13 (by decide +kernel) rfl), by decide, by decide, by decide +kernel⟩, (bw8 230 (by decide +kernel) rfl), (bw0 64 (by decide +kernel) rfl)⟩
theorem ml_X12_437 : Cond.methodLink RX12 437 yX12_clause ∈ BW := (bw8 228 (by decide +kernel) rfl)
theorem vk_X12_isKnown : VOK yX12_isKnown cX12_isKnown 2 (some .boolean) 1 := ⟨⟨(bw8 239 (by decide +kernel) rfl), (bw1 13 (by decide +kernel) rfl), by decide, by decide, by decide +kernel⟩, (bw8 238 (by decide +kernel) rfl), (bw0 65 (by decide +kernel) rfl)⟩
theorem ml_X12_270 : Cond.methodLink RX12 270 yX12_isKnown ∈ BW := (bw8 236 (by decide +kernel) rfl)
theorem vk_X12_voiceOf : VOK yX12_voiceOf cX12_voiceOf 5 (some .int) 3 := ⟨⟨(bw9 3 (by decide +kernel) rfl), (bw1 13 (by decide +kernel) rfl), by decide, by decide, by decide +kernel⟩, (bw9 2 (by decide +kernel) rfl), (bw0 66 (by decide +kernel) rfl)⟩
theorem ml_X12_273 : Cond.methodLink RX12 273 yX12_voiceOf ∈ BW := (bw9 0 (by decide +kernel) rfl)
theorem ff_12_48 : FF 12 48 RX12 "taped" "I" 0 false := ⟨TX12, 90, tyX12, rfl, uw_12, rfl, by decide, rfl, rfl, tyX12_ok, nmX12⟩
theorem fl_X12_276 : Cond.fieldLink RX12 276 RX12 "taped" "I" ∈ BW := (bw7 163 (by decide +kernel) rfl)
theorem ff_12_47 : FF 12 47 RX12 "tape" "[B" 3 true := ⟨TX12, 90, tyX12, rfl, uw_12, rfl, by decide, rfl, rfl, tyX12_ok, nmX12⟩
theorem fl_X12_132 : Cond.fieldLink RX12 132 RX12 "tape" "[B" ∈ BW := (bw7 162 (by decide +kernel) rfl)
theorem sr_15511 : SR 15511 = some 150 := by decide +kernel
theorem kt_150 : KT 150 = (3, 300) := by decide +kernel
theorem ff_12_49 : FF 12 49 RX12 "at" "I" 0 false := ⟨TX12, 90, tyX12, rfl, uw_12, rfl, by decide, rfl, rfl, tyX12_ok, nmX12⟩
theorem fl_X12_279 : Cond.fieldLink RX12 279 RX12 "at" "I" ∈ BW := (bw7 164 (by decide +kernel) rfl)
theorem ff_12_50 : FF 12 50 RX12 "place" "I" 0 false := ⟨TX12, 90, tyX12, rfl, uw_12, rfl, by decide, rfl, rfl, tyX12_ok, nmX12⟩
theorem fl_X12_282 : Cond.fieldLink RX12 282 RX12 "place" "I" ∈ BW := (bw7 165 (by decide +kernel) rfl)
theorem ff_12_52 : FF 12 52 RX12 "value" "I" 0 false := ⟨TX12, 90, tyX12, rfl, uw_12, rfl, by decide, rfl, rfl, tyX12_ok, nmX12⟩
theorem fl_X12_288 : Cond.fieldLink RX12 288 RX12 "value" "I" ∈ BW := (bw7 167 (by decide +kernel) rfl)
theorem sk_X12_isSmall : SOK yX12_isSmall cX12_isSmall 1 (some .boolean) 1 := ⟨⟨(bw9 34 (by decide +kernel) rfl), (bw1 13 (by decide +kernel) rfl), by decide, by decide, by decide +kernel⟩, (bw9 33 (by decide +kernel) rfl)⟩
theorem ml_X12_291 : Cond.methodLink RX12 291 yX12_isSmall ∈ BW := (bw9 32 (by decide +kernel) rfl)
theorem vk_X12_see : VOK yX12_see cX12_see 2 (some .int) 1 := ⟨⟨(bw9 38 (by decide +kernel) rfl), (bw1 13 (by decide +kernel) rfl), by decide, by decide, by decide +kernel⟩, (bw9 37 (by decide +kernel) rfl), (bw0 69 (by decide +kernel) rfl)⟩
theorem ml_X12_294 : Cond.methodLink RX12 294 yX12_see ∈ BW := (bw9 35 (by decide +kernel) rfl)
theorem ff_12_51 : FF 12 51 RX12 "sort" "I" 0 false := ⟨TX12, 90, tyX12, rfl, uw_12, rfl, by decide, rfl, rfl, tyX12_ok, nmX12⟩
theorem fl_X12_285 : Cond.fieldLink RX12 285 RX12 "sort" "I" ∈ BW := (bw7 166 (by decide +kernel) rfl)
theorem sk_X12_isDigit : SOK yX12_isDigit cX12_isDigit 1 (some .boolean) 1 := ⟨⟨(bw9 41 (by decide +kernel) rfl), (bw1 13 (by decide +kernel) rfl), by decide, by decide, by decide +kernel⟩, (bw9 40 (by decide +kernel) rfl)⟩
theorem ml_X12_297 : Cond.methodLink RX12 297 yX12_isDigit ∈ BW := (bw9 39 (by decide +kernel) rfl)
theorem ml_X12_300 : Cond.methodLink RX12 300 yJ0_length_8abf5 ∈ BW := (bw9 59 (by decide +kernel) rfl)
theorem vk_J0_length_8abf5 : VOK yJ0_length_8abf5 cJ0_length_8abf5 1 (some .int) 0 := ⟨⟨(bw4 3 (by decide +kernel) rfl), (bw1 14 (by decide +kernel) rfl), by decide, by decide, by decide +kernel⟩, (bw4 1 (by decide +kernel) rfl), (bw4 2 (by decide +kernel) rfl)⟩
theorem ml_X12_306 : Cond.methodLink RX12 306 yJ0_charAt_5068e ∈ BW := (bw9 60 (by decide +kernel) rfl)
theorem vk_J0_charAt_5068e : VOK yJ0_charAt_5068e cJ0_charAt_5068e 2 (some .char) 1 := ⟨⟨(bw4 13 (by decide +kernel) rfl), (bw1 14 (by decide +kernel) rfl), by decide, by decide, by decide +kernel⟩, (bw4 11 (by decide +kernel) rfl), (bw4 12 (by decide +kernel) rfl)⟩
theorem ff_12_53 : FF 12 53 RX12 "fault" "I" 0 false := ⟨TX12, 90, tyX12, rfl, uw_12, rfl, by decide, rfl, rfl, tyX12_ok, nmX12⟩
theorem fl_X12_310 : Cond.fieldLink RX12 310 RX12 "fault" "I" ∈ BW := (bw7 168 (by decide +kernel) rfl)
theorem ff_12_54 : FF 12 54 RX12 "faultPlace" "I" 0 false := ⟨TX12, 90, tyX12, rfl, uw_12, rfl, by decide, rfl, rfl, tyX12_ok, nmX12⟩
theorem fl_X12_313 : Cond.fieldLink RX12 313 RX12 "faultPlace" "I" ∈ BW := (bw7 169 (by decide +kernel) rfl)
theorem vk_X12_isWell : VOK yX12_isWell cX12_isWell 1 (some .boolean) 0 := ⟨⟨(bw9 45 (by decide +kernel) rfl), (bw1 13 (by decide +kernel) rfl), by decide, by decide, by decide +kernel⟩, (bw9 44 (by decide +kernel) rfl), (bw0 70 (by decide +kernel) rfl)⟩
theorem ml_X12_316 : Cond.methodLink RX12 316 yX12_isWell ∈ BW := (bw9 42 (by decide +kernel) rfl)
theorem vk_X12_isSign : VOK yX12_isSign cX12_isSign 2 (some .boolean) 1 := ⟨⟨(bw9 111 (by decide +kernel) rfl), (bw1 13 (by decide +kernel) rfl), by decide, by decide, by decide +kernel⟩, (bw9 110 (by decide +kernel) rfl), (bw0 81 (by decide +kernel) rfl)⟩
theorem ml_X12_319 : Cond.methodLink RX12 319 yX12_isSign ∈ BW := (bw9 108 (by decide +kernel) rfl)
theorem vk_X12_next : VOK yX12_next cX12_next 2 none 0 := ⟨⟨(bw9 31 (by decide +kernel) rfl), (bw1 13 (by decide +kernel) rfl), by decide, by decide, by decide +kernel⟩, (bw9 30 (by decide +kernel) rfl), (bw0 68 (by decide +kernel) rfl)⟩
theorem ml_X12_322 : Cond.methodLink RX12 322 yX12_next ∈ BW := (bw9 28 (by decide +kernel) rfl)
theorem vk_X12_fails : VOK yX12_fails cX12_fails 2 none 1 := ⟨⟨(bw9 69 (by decide +kernel) rfl), (bw1 13 (by decide +kernel) rfl), by decide, by decide, by decide +kernel⟩, (bw9 68 (by decide +kernel) rfl), (bw0 74 (by decide +kernel) rfl)⟩
theorem ml_X12_325 : Cond.methodLink RX12 325 yX12_fails ∈ BW := (bw9 66 (by decide +kernel) rfl)
theorem vk_X12_isWord : VOK yX12_isWord cX12_isWord 3 (some .boolean) 1 := ⟨⟨(bw9 58 (by decide +kernel) rfl), (bw1 13 (by decide +kernel) rfl), by decide, by decide, by decide +kernel⟩, (bw9 57 (by decide +kernel) rfl), (bw0 73 (by decide +kernel) rfl)⟩
theorem ml_X12_329 : Cond.methodLink RX12 329 yX12_isWord ∈ BW := (bw9 55 (by decide +kernel) rfl)
theorem ff_12_57 : FF 12 57 RX12 "asked" "I" 0 false := ⟨TX12, 90, tyX12, rfl, uw_12, rfl, by decide, rfl, rfl, tyX12_ok, nmX12⟩
theorem fl_X12_333 : Cond.fieldLink RX12 333 RX12 "asked" "I" ∈ BW := (bw7 172 (by decide +kernel) rfl)
theorem st_X12_336 : (RX12, 336, "heads", 11) ∈ STL := List.mem_of_getElem? (i := 40) rfl
theorem st_X12_338 : (RX12, 338, "branches", 12) ∈ STL := List.mem_of_getElem? (i := 41) rfl
theorem st_X12_339 : (RX12, 339, "souls", 13) ∈ STL := List.mem_of_getElem? (i := 42) rfl
theorem st_X12_340 : (RX12, 340, "section", 14) ∈ STL := List.mem_of_getElem? (i := 43) rfl
theorem st_X12_341 : (RX12, 341, "lines", 15) ∈ STL := List.mem_of_getElem? (i := 44) rfl
theorem st_X12_342 : (RX12, 342, "day", 16) ∈ STL := List.mem_of_getElem? (i := 45) rfl
theorem st_X12_344 : (RX12, 344, "yes", 17) ∈ STL := List.mem_of_getElem? (i := 46) rfl
theorem st_X12_346 : (RX12, 346, "no", 18) ∈ STL := List.mem_of_getElem? (i := 47) rfl
theorem st_X12_348 : (RX12, 348, "all", 19) ∈ STL := List.mem_of_getElem? (i := 48) rfl
theorem st_X12_350 : (RX12, 350, "sections", 20) ∈ STL := List.mem_of_getElem? (i := 49) rfl
theorem st_X12_352 : (RX12, 352, "against", 21) ∈ STL := List.mem_of_getElem? (i := 50) rfl
theorem ff_12_40 : FF 12 40 RX12 "signs" "[I" 3 true := ⟨TX12, 90, tyX12, rfl, uw_12, rfl, by decide, rfl, rfl, tyX12_ok, nmX12⟩
theorem fl_X12_111 : Cond.fieldLink RX12 111 RX12 "signs" "[I" ∈ BW := (bw7 155 (by decide +kernel) rfl)
theorem sr_15504 : SR 15504 = some 143 := by decide +kernel
theorem ff_12_41 : FF 12 41 RX12 "signMany" "[I" 3 true := ⟨TX12, 90, tyX12, rfl, uw_12, rfl, by decide, rfl, rfl, tyX12_ok, nmX12⟩
theorem fl_X12_114 : Cond.fieldLink RX12 114 RX12 "signMany" "[I" ∈ BW := (bw7 156 (by decide +kernel) rfl)
theorem sr_15505 : SR 15505 = some 144 := by decide +kernel
theorem kt_144 : KT 144 = (1, 11) := by decide +kernel
theorem kt_143 : KT 143 = (1, 3520) := by decide +kernel
theorem ff_12_56 : FF 12 56 RX12 "open" "I" 0 false := ⟨TX12, 90, tyX12, rfl, uw_12, rfl, by decide, rfl, rfl, tyX12_ok, nmX12⟩
theorem fl_X12_354 : Cond.fieldLink RX12 354 RX12 "open" "I" ∈ BW := (bw7 171 (by decide +kernel) rfl)
theorem vk_X12_emits : VOK yX12_emits cX12_emits 2 none 1 := ⟨⟨(bw9 92 (by decide +kernel) rfl), (bw1 13 (by decide +kernel) rfl), by decide, by decide, by decide +kernel⟩, (bw9 91 (by decide +kernel) rfl), (bw0 79 (by decide +kernel) rfl)⟩
theorem ml_X12_357 : Cond.methodLink RX12 357 yX12_emits ∈ BW := (bw9 89 (by decide +kernel) rfl)
theorem vk_X12_name : VOK yX12_name cX12_name 1 (some .int) 0 := ⟨⟨(bw9 96 (by decide +kernel) rfl), (bw1 13 (by decide +kernel) rfl), by decide, by decide, by decide +kernel⟩, (bw9 95 (by decide +kernel) rfl), (bw0 80 (by decide +kernel) rfl)⟩
theorem ml_X12_360 : Cond.methodLink RX12 360 yX12_name ∈ BW := (bw9 93 (by decide +kernel) rfl)
theorem vk_X12_opens : VOK yX12_opens cX12_opens 1 none 0 := ⟨⟨(bw9 115 (by decide +kernel) rfl), (bw1 13 (by decide +kernel) rfl), by decide, by decide, by decide +kernel⟩, (bw9 114 (by decide +kernel) rfl), (bw0 82 (by decide +kernel) rfl)⟩
theorem ml_X12_363 : Cond.methodLink RX12 363 yX12_opens ∈ BW := (bw9 112 (by decide +kernel) rfl)
theorem vk_X12_sum : VOK yX12_sum cX12_sum 2 none 0 := ⟨⟨(bw9 80 (by decide +kernel) rfl), (bw1 13 (by decide +kernel) rfl), by decide, by decide, by decide +kernel⟩, (bw9 79 (by decide +kernel) rfl), (bw0 76 (by decide +kernel) rfl)⟩
theorem ml_X12_366 : Cond.methodLink RX12 366 yX12_sum ∈ BW := (bw9 77 (by decide +kernel) rfl)
theorem vk_X12_wantSign : VOK yX12_wantSign cX12_wantSign 2 none 1 := ⟨⟨(bw9 119 (by decide +kernel) rfl), (bw1 13 (by decide +kernel) rfl), by decide, by decide, by decide +kernel⟩, (bw9 118 (by decide +kernel) rfl), (bw0 83 (by decide +kernel) rfl)⟩
theorem ml_X12_369 : Cond.methodLink RX12 369 yX12_wantSign ∈ BW := (bw9 116 (by decide +kernel) rfl)
theorem vk_X12_factor : VOK yX12_factor cX12_factor 2 none 0 := ⟨⟨(bw9 88 (by decide +kernel) rfl), (bw1 13 (by decide +kernel) rfl), by decide, by decide, by decide +kernel⟩, (bw9 87 (by decide +kernel) rfl), (bw0 78 (by decide +kernel) rfl)⟩
theorem ml_X12_372 : Cond.methodLink RX12 372 yX12_factor ∈ BW := (bw9 85 (by decide +kernel) rfl)
theorem vk_X12_product : VOK yX12_product cX12_product 2 none 0 := ⟨⟨(bw9 84 (by decide +kernel) rfl), (bw1 13 (by decide +kernel) rfl), by decide, by decide, by decide +kernel⟩, (bw9 83 (by decide +kernel) rfl), (bw0 77 (by decide +kernel) rfl)⟩
theorem ml_X12_375 : Cond.methodLink RX12 375 yX12_product ∈ BW := (bw9 81 (by decide +kernel) rfl)
theorem st_X12_378 : (RX12, 378, "not", 10) ∈ STL := List.mem_of_getElem? (i := 52) rfl
theorem vk_X12_cond : VOK yX12_cond cX12_cond 1 none 0 := ⟨⟨(bw9 128 (by decide +kernel) rfl), (bw1 13 (by decide +kernel) rfl), by decide, by decide, by decide +kernel⟩, (bw9 127 (by decide +kernel) rfl), (bw0 85 (by decide +kernel) rfl)⟩
theorem ml_X12_380 : Cond.methodLink RX12 380 yX12_cond ∈ BW := (bw9 125 (by decide +kernel) rfl)
theorem vk_X12_compares : VOK yX12_compares cX12_compares 2 none 0 := ⟨⟨(bw9 141 (by decide +kernel) rfl), (bw1 13 (by decide +kernel) rfl), by decide, by decide, by decide +kernel⟩, (bw9 140 (by decide +kernel) rfl), (bw0 88 (by decide +kernel) rfl)⟩
theorem ml_X12_383 : Cond.methodLink RX12 383 yX12_compares ∈ BW := (bw9 138 (by decide +kernel) rfl)
theorem vk_X12_part : VOK yX12_part cX12_part 2 none 0 := ⟨⟨(bw9 136 (by decide +kernel) rfl), (bw1 13 (by decide +kernel) rfl), by decide, by decide, by decide +kernel⟩, (bw9 135 (by decide +kernel) rfl), (bw0 87 (by decide +kernel) rfl)⟩
theorem ml_X12_386 : Cond.methodLink RX12 386 yX12_part ∈ BW := (bw9 133 (by decide +kernel) rfl)
theorem st_X12_389 : (RX12, 389, "and", 22) ∈ STL := List.mem_of_getElem? (i := 53) rfl
theorem vk_X12_both : VOK yX12_both cX12_both 1 none 0 := ⟨⟨(bw9 132 (by decide +kernel) rfl), (bw1 13 (by decide +kernel) rfl), by decide, by decide, by decide +kernel⟩, (bw9 131 (by decide +kernel) rfl), (bw0 86 (by decide +kernel) rfl)⟩
theorem ml_X12_391 : Cond.methodLink RX12 391 yX12_both ∈ BW := (bw9 129 (by decide +kernel) rfl)
theorem st_X12_394 : (RX12, 394, "or", 23) ∈ STL := List.mem_of_getElem? (i := 54) rfl
theorem st_X12_396 : (RX12, 396, "pass", 0) ∈ STL := List.mem_of_getElem? (i := 31) rfl
theorem st_X12_398 : (RX12, 398, "cards", 1) ∈ STL := List.mem_of_getElem? (i := 32) rfl
theorem st_X12_400 : (RX12, 400, "rate", 2) ∈ STL := List.mem_of_getElem? (i := 33) rfl
theorem st_X12_402 : (RX12, 402, "length", 3) ∈ STL := List.mem_of_getElem? (i := 34) rfl
theorem st_X12_403 : (RX12, 403, "bind", 4) ∈ STL := List.mem_of_getElem? (i := 35) rfl
theorem st_X12_405 : (RX12, 405, "late", 5) ∈ STL := List.mem_of_getElem? (i := 36) rfl
theorem vk_X12_clauseKind : VOK yX12_clauseKind cX12_clauseKind 1 (some .int) 0 := ⟨⟨(bw9 53 (by decide +kernel) rfl), (bw1 13 (by decide +kernel) rfl), by decide, by decide, by decide +kernel⟩, (bw9 52 (by decide +kernel) rfl), (bw0 72 (by decide +kernel) rfl)⟩
theorem ml_X12_407 : Cond.methodLink RX12 407 yX12_clauseKind ∈ BW := (bw9 50 (by decide +kernel) rfl)
theorem ff_12_42 : FF 12 42 RX12 "many" "[I" 3 true := ⟨TX12, 90, tyX12, rfl, uw_12, rfl, by decide, rfl, rfl, tyX12_ok, nmX12⟩
theorem fl_X12_117 : Cond.fieldLink RX12 117 RX12 "many" "[I" ∈ BW := (bw7 157 (by decide +kernel) rfl)
theorem sr_15506 : SR 15506 = some 145 := by decide +kernel
theorem kt_145 : KT 145 = (1, 11) := by decide +kernel
theorem st_X12_410 : (RX12, 410, "motion", 6) ∈ STL := List.mem_of_getElem? (i := 37) rfl
theorem st_X12_412 : (RX12, 412, "amend", 7) ∈ STL := List.mem_of_getElem? (i := 38) rfl
theorem ff_12_43 : FF 12 43 RX12 "kind" "[I" 3 true := ⟨TX12, 90, tyX12, rfl, uw_12, rfl, by decide, rfl, rfl, tyX12_ok, nmX12⟩
theorem fl_X12_120 : Cond.fieldLink RX12 120 RX12 "kind" "[I" ∈ BW := (bw7 158 (by decide +kernel) rfl)
theorem sr_15507 : SR 15507 = some 146 := by decide +kernel
theorem kt_146 : KT 146 = (1, 165) := by decide +kernel
theorem ff_12_45 : FF 12 45 RX12 "begins" "[I" 3 true := ⟨TX12, 90, tyX12, rfl, uw_12, rfl, by decide, rfl, rfl, tyX12_ok, nmX12⟩
theorem fl_X12_126 : Cond.fieldLink RX12 126 RX12 "begins" "[I" ∈ BW := (bw7 160 (by decide +kernel) rfl)
theorem sr_15509 : SR 15509 = some 148 := by decide +kernel
theorem kt_148 : KT 148 = (1, 165) := by decide +kernel
theorem ff_12_44 : FF 12 44 RX12 "number" "[I" 3 true := ⟨TX12, 90, tyX12, rfl, uw_12, rfl, by decide, rfl, rfl, tyX12_ok, nmX12⟩
theorem fl_X12_123 : Cond.fieldLink RX12 123 RX12 "number" "[I" ∈ BW := (bw7 159 (by decide +kernel) rfl)
theorem sr_15508 : SR 15508 = some 147 := by decide +kernel
theorem vk_X12_readNumber : VOK yX12_readNumber cX12_readNumber 3 (some .int) 1 := ⟨⟨(bw9 76 (by decide +kernel) rfl), (bw1 13 (by decide +kernel) rfl), by decide, by decide, by decide +kernel⟩, (bw9 75 (by decide +kernel) rfl), (bw0 75 (by decide +kernel) rfl)⟩
theorem ml_X12_415 : Cond.methodLink RX12 415 yX12_readNumber ∈ BW := (bw9 73 (by decide +kernel) rfl)
theorem kt_147 : KT 147 = (1, 165) := by decide +kernel
theorem st_X12_418 : (RX12, 418, "if", 9) ∈ STL := List.mem_of_getElem? (i := 51) rfl
theorem vk_X12_wantWord : VOK yX12_wantWord cX12_wantWord 2 none 1 := ⟨⟨(bw9 124 (by decide +kernel) rfl), (bw1 13 (by decide +kernel) rfl), by decide, by decide, by decide +kernel⟩, (bw9 123 (by decide +kernel) rfl), (bw0 84 (by decide +kernel) rfl)⟩
theorem ml_X12_420 : Cond.methodLink RX12 420 yX12_wantWord ∈ BW := (bw9 121 (by decide +kernel) rfl)
theorem ff_12_46 : FF 12 46 RX12 "ends" "[I" 3 true := ⟨TX12, 90, tyX12, rfl, uw_12, rfl, by decide, rfl, rfl, tyX12_ok, nmX12⟩
theorem fl_X12_129 : Cond.fieldLink RX12 129 RX12 "ends" "[I" ∈ BW := (bw7 161 (by decide +kernel) rfl)
theorem sr_15510 : SR 15510 = some 149 := by decide +kernel
theorem kt_149 : KT 149 = (1, 165) := by decide +kernel
theorem st_X12_414 : (RX12, 414, "order", 8) ∈ STL := List.mem_of_getElem? (i := 39) rfl
theorem ff_12_55 : FF 12 55 RX12 "lastPlace" "I" 0 false := ⟨TX12, 90, tyX12, rfl, uw_12, rfl, by decide, rfl, rfl, tyX12_ok, nmX12⟩
theorem fl_X12_136 : Cond.fieldLink RX12 136 RX12 "lastPlace" "I" ∈ BW := (bw7 170 (by decide +kernel) rfl)
theorem vk_X12_starts : VOK yX12_starts cX12_starts 1 none 0 := ⟨⟨(bw9 27 (by decide +kernel) rfl), (bw1 13 (by decide +kernel) rfl), by decide, by decide, by decide +kernel⟩, (bw9 26 (by decide +kernel) rfl), (bw0 67 (by decide +kernel) rfl)⟩
theorem ml_X12_424 : Cond.methodLink RX12 424 yX12_starts ∈ BW := (bw9 24 (by decide +kernel) rfl)
theorem vk_X12_readClause : VOK yX12_readClause cX12_readClause 3 none 0 := ⟨⟨(bw9 49 (by decide +kernel) rfl), (bw1 13 (by decide +kernel) rfl), by decide, by decide, by decide +kernel⟩, (bw9 48 (by decide +kernel) rfl), (bw0 71 (by decide +kernel) rfl)⟩
theorem ml_X12_427 : Cond.methodLink RX12 427 yX12_readClause ∈ BW := (bw9 46 (by decide +kernel) rfl)
theorem vk_X12_stops : VOK yX12_stops cX12_stops 1 (some .int) 0 := ⟨⟨(bw9 147 (by decide +kernel) rfl), (bw1 13 (by decide +kernel) rfl), by decide, by decide, by decide +kernel⟩, (bw9 146 (by decide +kernel) rfl), (bw0 89 (by decide +kernel) rfl)⟩
theorem ml_X12_430 : Cond.methodLink RX12 430 yX12_stops ∈ BW := (bw9 144 (by decide +kernel) rfl)
theorem ff_12_72 : FF 12 72 RX12 "mayBeVoid" "Z" 1 false := ⟨TX12, 90, tyX12, rfl, uw_12, rfl, by decide, rfl, rfl, tyX12_ok, nmX12⟩
theorem fl_X12_433 : Cond.fieldLink RX12 433 RX12 "mayBeVoid" "Z" ∈ BW := (bw7 187 (by decide +kernel) rfl)
theorem cl_X12_440 : Cond.constantLong RX12 440 (1000000000) ∈ BW := (bw9 174 (by decide +kernel) rfl)
theorem cs_X12_442 : Cond.constant RX12 442 (Int32.ofInt (1000000000)) ∈ BW := (bw9 175 (by decide +kernel) rfl)
theorem cl_X12_443 : Cond.constantLong RX12 443 (-1000000000) ∈ BW := (bw9 176 (by decide +kernel) rfl)
theorem cs_X12_445 : Cond.constant RX12 445 (Int32.ofInt (-1000000000)) ∈ BW := (bw9 177 (by decide +kernel) rfl)
theorem sk_X12_bounded : SOK yX12_bounded cX12_bounded 2 (some .int) 1 := ⟨⟨(bw9 173 (by decide +kernel) rfl), (bw1 13 (by decide +kernel) rfl), by decide, by decide, by decide +kernel⟩, (bw9 172 (by decide +kernel) rfl)⟩
theorem ml_X12_446 : Cond.methodLink RX12 446 yX12_bounded ∈ BW := (bw9 171 (by decide +kernel) rfl)
theorem ff_12_59 : FF 12 59 RX12 "heap" "[I" 3 true := ⟨TX12, 90, tyX12, rfl, uw_12, rfl, by decide, rfl, rfl, tyX12_ok, nmX12⟩
theorem fl_X12_142 : Cond.fieldLink RX12 142 RX12 "heap" "[I" ∈ BW := (bw7 174 (by decide +kernel) rfl)
theorem sr_15523 : SR 15523 = some 152 := by decide +kernel
theorem kt_152 : KT 152 = (1, 320) := by decide +kernel
theorem sk_X12_joined : SOK yX12_joined cX12_joined 3 (some .int) 3 := ⟨⟨(bw9 170 (by decide +kernel) rfl), (bw1 13 (by decide +kernel) rfl), by decide, by decide, by decide +kernel⟩, (bw9 169 (by decide +kernel) rfl)⟩
theorem ml_X12_450 : Cond.methodLink RX12 450 yX12_joined ∈ BW := (bw9 168 (by decide +kernel) rfl)
theorem ff_12_58 : FF 12 58 RX12 "named" "[I" 3 true := ⟨TX12, 90, tyX12, rfl, uw_12, rfl, by decide, rfl, rfl, tyX12_ok, nmX12⟩
theorem fl_X12_139 : Cond.fieldLink RX12 139 RX12 "named" "[I" ∈ BW := (bw7 173 (by decide +kernel) rfl)
theorem sr_15522 : SR 15522 = some 151 := by decide +kernel
theorem kt_151 : KT 151 = (1, 13) := by decide +kernel
theorem vk_X12_paidOf : VOK yX12_paidOf cX12_paidOf 6 (some .int) 2 := ⟨⟨(bw9 155 (by decide +kernel) rfl), (bw1 13 (by decide +kernel) rfl), by decide, by decide, by decide +kernel⟩, (bw9 154 (by decide +kernel) rfl), (bw0 90 (by decide +kernel) rfl)⟩
theorem ml_X12_453 : Cond.methodLink RX12 453 yX12_paidOf ∈ BW := (bw9 152 (by decide +kernel) rfl)
theorem vk_X12_works : VOK yX12_works cX12_works 6 (some .int) 1 := ⟨⟨(bw9 167 (by decide +kernel) rfl), (bw1 13 (by decide +kernel) rfl), by decide, by decide, by decide +kernel⟩, (bw9 166 (by decide +kernel) rfl), (bw0 92 (by decide +kernel) rfl)⟩
theorem ml_X12_457 : Cond.methodLink RX12 457 yX12_works ∈ BW := (bw9 164 (by decide +kernel) rfl)
theorem vk_X12_cardsOf : VOK yX12_cardsOf cX12_cardsOf 5 (some .int) 2 := ⟨⟨(bw9 163 (by decide +kernel) rfl), (bw1 13 (by decide +kernel) rfl), by decide, by decide, by decide +kernel⟩, (bw9 162 (by decide +kernel) rfl), (bw0 91 (by decide +kernel) rfl)⟩
theorem ml_X12_460 : Cond.methodLink RX12 460 yX12_cardsOf ∈ BW := (bw9 160 (by decide +kernel) rfl)
theorem ff_12_63 : FF 12 63 RX12 "all" "J" 2 false := ⟨TX12, 90, tyX12, rfl, uw_12, rfl, by decide, rfl, rfl, tyX12_ok, nmX12⟩
theorem fl_X12_463 : Cond.fieldLink RX12 463 RX12 "all" "J" ∈ BW := (bw7 178 (by decide +kernel) rfl)
theorem ff_12_61 : FF 12 61 RX12 "yes" "J" 2 false := ⟨TX12, 90, tyX12, rfl, uw_12, rfl, by decide, rfl, rfl, tyX12_ok, nmX12⟩
theorem fl_X12_466 : Cond.fieldLink RX12 466 RX12 "yes" "J" ∈ BW := (bw7 176 (by decide +kernel) rfl)
theorem ff_12_64 : FF 12 64 RX12 "more" "[J" 3 true := ⟨TX12, 90, tyX12, rfl, uw_12, rfl, by decide, rfl, rfl, tyX12_ok, nmX12⟩
theorem fl_X12_148 : Cond.fieldLink RX12 148 RX12 "more" "[J" ∈ BW := (bw7 179 (by decide +kernel) rfl)
theorem sr_15528 : SR 15528 = some 154 := by decide +kernel
theorem kt_154 : KT 154 = (2, 6) := by decide +kernel
theorem ff_12_62 : FF 12 62 RX12 "no" "J" 2 false := ⟨TX12, 90, tyX12, rfl, uw_12, rfl, by decide, rfl, rfl, tyX12_ok, nmX12⟩
theorem fl_X12_468 : Cond.fieldLink RX12 468 RX12 "no" "J" ∈ BW := (bw7 177 (by decide +kernel) rfl)
theorem ff_12_65 : FF 12 65 RX12 "sections" "I" 0 false := ⟨TX12, 90, tyX12, rfl, uw_12, rfl, by decide, rfl, rfl, tyX12_ok, nmX12⟩
theorem fl_X12_470 : Cond.fieldLink RX12 470 RX12 "sections" "I" ∈ BW := (bw7 180 (by decide +kernel) rfl)
theorem ff_12_60 : FF 12 60 RX12 "isVoid" "[Z" 3 true := ⟨TX12, 90, tyX12, rfl, uw_12, rfl, by decide, rfl, rfl, tyX12_ok, nmX12⟩
theorem fl_X12_145 : Cond.fieldLink RX12 145 RX12 "isVoid" "[Z" ∈ BW := (bw7 175 (by decide +kernel) rfl)
theorem sr_15524 : SR 15524 = some 153 := by decide +kernel
theorem kt_153 : KT 153 = (4, 12) := by decide +kernel
theorem vk_X12_counts : VOK yX12_counts cX12_counts 4 none 3 := ⟨⟨(bw9 189 (by decide +kernel) rfl), (bw1 13 (by decide +kernel) rfl), by decide, by decide, by decide +kernel⟩, (bw9 188 (by decide +kernel) rfl), (bw0 94 (by decide +kernel) rfl)⟩
theorem ml_X12_472 : Cond.methodLink RX12 472 yX12_counts ∈ BW := (bw9 186 (by decide +kernel) rfl)
theorem sk_X12_whole : SOK yX12_whole cX12_whole 2 (some .int) 1 := ⟨⟨(bw9 192 (by decide +kernel) rfl), (bw1 13 (by decide +kernel) rfl), by decide, by decide, by decide +kernel⟩, (bw9 191 (by decide +kernel) rfl)⟩
theorem ml_X12_476 : Cond.methodLink RX12 476 yX12_whole ∈ BW := (bw9 190 (by decide +kernel) rfl)
theorem vk_X12_findCount : VOK yX12_findCount cX12_findCount 9 none 5 := ⟨⟨(bw9 185 (by decide +kernel) rfl), (bw1 13 (by decide +kernel) rfl), by decide, by decide, by decide +kernel⟩, (bw9 184 (by decide +kernel) rfl), (bw0 93 (by decide +kernel) rfl)⟩
theorem ml_X12_479 : Cond.methodLink RX12 479 yX12_findCount ∈ BW := (bw9 182 (by decide +kernel) rfl)
theorem ff_12_69 : FF 12 69 RX12 "rowMany" "I" 0 false := ⟨TX12, 90, tyX12, rfl, uw_12, rfl, by decide, rfl, rfl, tyX12_ok, nmX12⟩
theorem fl_X12_483 : Cond.fieldLink RX12 483 RX12 "rowMany" "I" ∈ BW := (bw7 184 (by decide +kernel) rfl)
theorem ff_12_66 : FF 12 66 RX12 "rowN" "[I" 3 true := ⟨TX12, 90, tyX12, rfl, uw_12, rfl, by decide, rfl, rfl, tyX12_ok, nmX12⟩
theorem fl_X12_152 : Cond.fieldLink RX12 152 RX12 "rowN" "[I" ∈ BW := (bw7 181 (by decide +kernel) rfl)
theorem sr_15530 : SR 15530 = some 155 := by decide +kernel
theorem kt_155 : KT 155 = (1, 12) := by decide +kernel
theorem ff_12_67 : FF 12 67 RX12 "rowMust" "[Z" 3 true := ⟨TX12, 90, tyX12, rfl, uw_12, rfl, by decide, rfl, rfl, tyX12_ok, nmX12⟩
theorem fl_X12_155 : Cond.fieldLink RX12 155 RX12 "rowMust" "[Z" ∈ BW := (bw7 182 (by decide +kernel) rfl)
theorem sr_15531 : SR 15531 = some 156 := by decide +kernel
theorem kt_156 : KT 156 = (4, 12) := by decide +kernel
theorem ff_12_68 : FF 12 68 RX12 "rowBy" "[I" 3 true := ⟨TX12, 90, tyX12, rfl, uw_12, rfl, by decide, rfl, rfl, tyX12_ok, nmX12⟩
theorem fl_X12_158 : Cond.fieldLink RX12 158 RX12 "rowBy" "[I" ∈ BW := (bw7 183 (by decide +kernel) rfl)
theorem sr_15532 : SR 15532 = some 157 := by decide +kernel
theorem kt_157 : KT 157 = (1, 12) := by decide +kernel
theorem ff_12_12 : FF 12 12 RX12 "changes" "[I" 3 true := ⟨TX12, 90, tyX12, rfl, uw_12, rfl, by decide, rfl, rfl, tyX12_ok, nmX12⟩
theorem fl_X12_32 : Cond.fieldLink RX12 32 RX12 "changes" "[I" ∈ BW := (bw7 127 (by decide +kernel) rfl)
theorem sr_15476 : SR 15476 = some 119 := by decide +kernel
theorem kt_119 : KT 119 = (1, 40) := by decide +kernel
theorem ff_12_14 : FF 12 14 RX12 "changeN" "[I" 3 true := ⟨TX12, 90, tyX12, rfl, uw_12, rfl, by decide, rfl, rfl, tyX12_ok, nmX12⟩
theorem fl_X12_38 : Cond.fieldLink RX12 38 RX12 "changeN" "[I" ∈ BW := (bw7 129 (by decide +kernel) rfl)
theorem sr_15478 : SR 15478 = some 121 := by decide +kernel
theorem kt_121 : KT 121 = (1, 240) := by decide +kernel
theorem vk_X12_inRow : VOK yX12_inRow cX12_inRow 3 (some .int) 1 := ⟨⟨(bw9 205 (by decide +kernel) rfl), (bw1 13 (by decide +kernel) rfl), by decide, by decide, by decide +kernel⟩, (bw9 204 (by decide +kernel) rfl), (bw0 96 (by decide +kernel) rfl)⟩
theorem ml_X12_486 : Cond.methodLink RX12 486 yX12_inRow ∈ BW := (bw9 202 (by decide +kernel) rfl)
theorem ff_12_13 : FF 12 13 RX12 "changeKind" "[I" 3 true := ⟨TX12, 90, tyX12, rfl, uw_12, rfl, by decide, rfl, rfl, tyX12_ok, nmX12⟩
theorem fl_X12_35 : Cond.fieldLink RX12 35 RX12 "changeKind" "[I" ∈ BW := (bw7 128 (by decide +kernel) rfl)
theorem sr_15477 : SR 15477 = some 120 := by decide +kernel
theorem kt_120 : KT 120 = (1, 240) := by decide +kernel
theorem sk_X12_size : SOK yX12_size cX12_size 1 (some .int) 1 := ⟨⟨(bw10 32 (by decide +kernel) rfl), (bw1 13 (by decide +kernel) rfl), by decide, by decide, by decide +kernel⟩, (bw10 31 (by decide +kernel) rfl)⟩
theorem ml_X12_489 : Cond.methodLink RX12 489 yX12_size ∈ BW := (bw10 30 (by decide +kernel) rfl)
theorem vk_X12_takesRow : VOK yX12_takesRow cX12_takesRow 3 none 1 := ⟨⟨(bw10 21 (by decide +kernel) rfl), (bw1 13 (by decide +kernel) rfl), by decide, by decide, by decide +kernel⟩, (bw10 20 (by decide +kernel) rfl), (bw0 107 (by decide +kernel) rfl)⟩
theorem ml_X12_492 : Cond.methodLink RX12 492 yX12_takesRow ∈ BW := (bw10 18 (by decide +kernel) rfl)
theorem vk_X12_against : VOK yX12_against cX12_against 4 (some .int) 1 := ⟨⟨(bw10 29 (by decide +kernel) rfl), (bw1 13 (by decide +kernel) rfl), by decide, by decide, by decide +kernel⟩, (bw10 28 (by decide +kernel) rfl), (bw0 109 (by decide +kernel) rfl)⟩
theorem ml_X12_498 : Cond.methodLink RX12 498 yX12_against ∈ BW := (bw10 26 (by decide +kernel) rfl)
theorem ff_12_11 : FF 12 11 RX12 "amendOn" "[I" 3 true := ⟨TX12, 90, tyX12, rfl, uw_12, rfl, by decide, rfl, rfl, tyX12_ok, nmX12⟩
theorem fl_X12_29 : Cond.fieldLink RX12 29 RX12 "amendOn" "[I" ∈ BW := (bw7 126 (by decide +kernel) rfl)
theorem sr_15475 : SR 15475 = some 118 := by decide +kernel
theorem kt_118 : KT 118 = (1, 40) := by decide +kernel
theorem vk_X12_does : VOK yX12_does cX12_does 5 none 1 := ⟨⟨(bw10 25 (by decide +kernel) rfl), (bw1 13 (by decide +kernel) rfl), by decide, by decide, by decide +kernel⟩, (bw10 24 (by decide +kernel) rfl), (bw0 108 (by decide +kernel) rfl)⟩
theorem ml_X12_495 : Cond.methodLink RX12 495 yX12_does ∈ BW := (bw10 22 (by decide +kernel) rfl)
theorem vk_X12_againstOf : VOK yX12_againstOf cX12_againstOf 3 (some .int) 2 := ⟨⟨(bw10 17 (by decide +kernel) rfl), (bw1 13 (by decide +kernel) rfl), by decide, by decide, by decide +kernel⟩, (bw10 16 (by decide +kernel) rfl), (bw0 106 (by decide +kernel) rfl)⟩
theorem ml_X12_501 : Cond.methodLink RX12 501 yX12_againstOf ∈ BW := (bw10 14 (by decide +kernel) rfl)
theorem st_X12_505 : (RX12, 505, "say", 24) ∈ STL := List.mem_of_getElem? (i := 55) rfl
theorem st_X12_507 : (RX12, 507, "must", 25) ∈ STL := List.mem_of_getElem? (i := 56) rfl
theorem vk_X12_readLine : VOK yX12_readLine cX12_readLine 4 none 2 := ⟨⟨(bw9 200 (by decide +kernel) rfl), (bw1 13 (by decide +kernel) rfl), by decide, by decide, by decide +kernel⟩, (bw9 199 (by decide +kernel) rfl), (bw0 95 (by decide +kernel) rfl)⟩
theorem ml_X12_509 : Cond.methodLink RX12 509 yX12_readLine ∈ BW := (bw9 197 (by decide +kernel) rfl)
theorem vk_X12_mayBeLate : VOK yX12_mayBeLate cX12_mayBeLate 3 (some .boolean) 1 := ⟨⟨(bw9 210 (by decide +kernel) rfl), (bw1 13 (by decide +kernel) rfl), by decide, by decide, by decide +kernel⟩, (bw9 209 (by decide +kernel) rfl), (bw0 97 (by decide +kernel) rfl)⟩
theorem ml_X12_513 : Cond.methodLink RX12 513 yX12_mayBeLate ∈ BW := (bw9 207 (by decide +kernel) rfl)
theorem vk_X12_comes : VOK yX12_comes cX12_comes 2 (some .int) 1 := ⟨⟨(bw9 214 (by decide +kernel) rfl), (bw1 13 (by decide +kernel) rfl), by decide, by decide, by decide +kernel⟩, (bw9 213 (by decide +kernel) rfl), (bw0 98 (by decide +kernel) rfl)⟩
theorem ml_X12_516 : Cond.methodLink RX12 516 yX12_comes ∈ BW := (bw9 211 (by decide +kernel) rfl)
theorem ff_12_9 : FF 12 9 RX12 "mover" "[I" 3 true := ⟨TX12, 90, tyX12, rfl, uw_12, rfl, by decide, rfl, rfl, tyX12_ok, nmX12⟩
theorem fl_X12_26 : Cond.fieldLink RX12 26 RX12 "mover" "[I" ∈ BW := (bw7 124 (by decide +kernel) rfl)
theorem sr_15473 : SR 15473 = some 117 := by decide +kernel
theorem kt_117 : KT 117 = (1, 24) := by decide +kernel
theorem vk_X12_laysRow : VOK yX12_laysRow cX12_laysRow 3 none 1 := ⟨⟨(bw9 218 (by decide +kernel) rfl), (bw1 13 (by decide +kernel) rfl), by decide, by decide, by decide +kernel⟩, (bw9 217 (by decide +kernel) rfl), (bw0 99 (by decide +kernel) rfl)⟩
theorem ml_X12_519 : Cond.methodLink RX12 519 yX12_laysRow ∈ BW := (bw9 215 (by decide +kernel) rfl)
theorem st_X12_522 : (RX12, 522, "strike", 26) ∈ STL := List.mem_of_getElem? (i := 57) rfl
theorem st_X12_524 : (RX12, 524, "add", 27) ∈ STL := List.mem_of_getElem? (i := 58) rfl
theorem st_X12_526 : (RX12, 526, "turn", 28) ∈ STL := List.mem_of_getElem? (i := 59) rfl
theorem vk_X12_isOpen : VOK yX12_isOpen cX12_isOpen 2 (some .boolean) 1 := ⟨⟨(bw9 226 (by decide +kernel) rfl), (bw1 13 (by decide +kernel) rfl), by decide, by decide, by decide +kernel⟩, (bw9 225 (by decide +kernel) rfl), (bw0 100 (by decide +kernel) rfl)⟩
theorem ml_X12_528 : Cond.methodLink RX12 528 yX12_isOpen ∈ BW := (bw9 223 (by decide +kernel) rfl)
theorem vk_X12_readChange : VOK yX12_readChange cX12_readChange 6 none 2 := ⟨⟨(bw9 230 (by decide +kernel) rfl), (bw1 13 (by decide +kernel) rfl), by decide, by decide, by decide +kernel⟩, (bw9 229 (by decide +kernel) rfl), (bw0 101 (by decide +kernel) rfl)⟩
theorem ml_X12_531 : Cond.methodLink RX12 531 yX12_readChange ∈ BW := (bw9 227 (by decide +kernel) rfl)
theorem vk_X12_settles : VOK yX12_settles cX12_settles 4 none 2 := ⟨⟨(bw10 40 (by decide +kernel) rfl), (bw1 13 (by decide +kernel) rfl), by decide, by decide, by decide +kernel⟩, (bw10 39 (by decide +kernel) rfl), (bw0 111 (by decide +kernel) rfl)⟩
theorem ml_X12_534 : Cond.methodLink RX12 534 yX12_settles ∈ BW := (bw10 37 (by decide +kernel) rfl)
theorem vk_X12_isContrary : VOK yX12_isContrary cX12_isContrary 4 (some .boolean) 2 := ⟨⟨(bw10 44 (by decide +kernel) rfl), (bw1 13 (by decide +kernel) rfl), by decide, by decide, by decide +kernel⟩, (bw10 43 (by decide +kernel) rfl), (bw0 112 (by decide +kernel) rfl)⟩
theorem ml_X12_537 : Cond.methodLink RX12 537 yX12_isContrary ∈ BW := (bw10 41 (by decide +kernel) rfl)
theorem vk_X12_passes : VOK yX12_passes cX12_passes 5 (some .boolean) 3 := ⟨⟨(bw10 13 (by decide +kernel) rfl), (bw1 13 (by decide +kernel) rfl), by decide, by decide, by decide +kernel⟩, (bw10 12 (by decide +kernel) rfl), (bw0 105 (by decide +kernel) rfl)⟩
theorem ml_X12_541 : Cond.methodLink RX12 541 yX12_passes ∈ BW := (bw10 10 (by decide +kernel) rfl)
theorem ff_12_71 : FF 12 71 RX12 "row" "[I" 3 true := ⟨TX12, 90, tyX12, rfl, uw_12, rfl, by decide, rfl, rfl, tyX12_ok, nmX12⟩
theorem fl_X12_161 : Cond.fieldLink RX12 161 RX12 "row" "[I" ∈ BW := (bw7 186 (by decide +kernel) rfl)
theorem sr_15535 : SR 15535 = some 158 := by decide +kernel
theorem kt_158 : KT 158 = (1, 700) := by decide +kernel
theorem vk_X12_passesMotion : VOK yX12_passesMotion cX12_passesMotion 5 none 1 := ⟨⟨(bw10 36 (by decide +kernel) rfl), (bw1 13 (by decide +kernel) rfl), by decide, by decide, by decide +kernel⟩, (bw10 35 (by decide +kernel) rfl), (bw0 110 (by decide +kernel) rfl)⟩
theorem ml_X12_545 : Cond.methodLink RX12 545 yX12_passesMotion ∈ BW := (bw10 33 (by decide +kernel) rfl)
theorem vk_X12_passesAmend : VOK yX12_passesAmend cX12_passesAmend 3 none 1 := ⟨⟨(bw10 48 (by decide +kernel) rfl), (bw1 13 (by decide +kernel) rfl), by decide, by decide, by decide +kernel⟩, (bw10 47 (by decide +kernel) rfl), (bw0 113 (by decide +kernel) rfl)⟩
theorem ml_X12_548 : Cond.methodLink RX12 548 yX12_passesAmend ∈ BW := (bw10 45 (by decide +kernel) rfl)
theorem ff_12_70 : FF 12 70 RX12 "rows" "I" 0 false := ⟨TX12, 90, tyX12, rfl, uw_12, rfl, by decide, rfl, rfl, tyX12_ok, nmX12⟩
theorem fl_X12_551 : Cond.fieldLink RX12 551 RX12 "rows" "I" ∈ BW := (bw7 185 (by decide +kernel) rfl)
theorem vk_X12_keeps : VOK yX12_keeps cX12_keeps 2 none 0 := ⟨⟨(bw10 1 (by decide +kernel) rfl), (bw1 13 (by decide +kernel) rfl), by decide, by decide, by decide +kernel⟩, (bw10 0 (by decide +kernel) rfl), (bw0 102 (by decide +kernel) rfl)⟩
theorem ml_X12_554 : Cond.methodLink RX12 554 yX12_keeps ∈ BW := (bw9 238 (by decide +kernel) rfl)
theorem vk_X12_decides : VOK yX12_decides cX12_decides 6 (some .int) 3 := ⟨⟨(bw10 9 (by decide +kernel) rfl), (bw1 13 (by decide +kernel) rfl), by decide, by decide, by decide +kernel⟩, (bw10 8 (by decide +kernel) rfl), (bw0 104 (by decide +kernel) rfl)⟩
theorem ml_X12_557 : Cond.methodLink RX12 557 yX12_decides ∈ BW := (bw10 6 (by decide +kernel) rfl)
theorem vk_X12_goesBack : VOK yX12_goesBack cX12_goesBack 2 none 0 := ⟨⟨(bw10 56 (by decide +kernel) rfl), (bw1 13 (by decide +kernel) rfl), by decide, by decide, by decide +kernel⟩, (bw10 55 (by decide +kernel) rfl), (bw0 114 (by decide +kernel) rfl)⟩
theorem ml_X12_560 : Cond.methodLink RX12 560 yX12_goesBack ∈ BW := (bw10 53 (by decide +kernel) rfl)
theorem sk_X12_bitsOf : SOK yX12_bitsOf cX12_bitsOf 3 (some .int) 1 := ⟨⟨(bw10 71 (by decide +kernel) rfl), (bw1 13 (by decide +kernel) rfl), by decide, by decide, by decide +kernel⟩, (bw10 70 (by decide +kernel) rfl)⟩
theorem ml_X12_563 : Cond.methodLink RX12 563 yX12_bitsOf ∈ BW := (bw10 69 (by decide +kernel) rfl)
theorem ff_12_73 : FF 12 73 RX12 "wayOf" "[I" 3 true := ⟨TX12, 90, tyX12, rfl, uw_12, rfl, by decide, rfl, rfl, tyX12_ok, nmX12⟩
theorem fl_X12_164 : Cond.fieldLink RX12 164 RX12 "wayOf" "[I" ∈ BW := (bw7 188 (by decide +kernel) rfl)
theorem sr_15537 : SR 15537 = some 159 := by decide +kernel
theorem kt_159 : KT 159 = (1, 61) := by decide +kernel
theorem ff_12_74 : FF 12 74 RX12 "mustOf" "[Z" 3 true := ⟨TX12, 90, tyX12, rfl, uw_12, rfl, by decide, rfl, rfl, tyX12_ok, nmX12⟩
theorem fl_X12_167 : Cond.fieldLink RX12 167 RX12 "mustOf" "[Z" ∈ BW := (bw7 189 (by decide +kernel) rfl)
theorem sr_15538 : SR 15538 = some 160 := by decide +kernel
theorem kt_160 : KT 160 = (4, 61) := by decide +kernel
theorem ff_12_75 : FF 12 75 RX12 "haveIt" "[I" 3 true := ⟨TX12, 90, tyX12, rfl, uw_12, rfl, by decide, rfl, rfl, tyX12_ok, nmX12⟩
theorem fl_X12_170 : Cond.fieldLink RX12 170 RX12 "haveIt" "[I" ∈ BW := (bw7 190 (by decide +kernel) rfl)
theorem sr_15539 : SR 15539 = some 161 := by decide +kernel
theorem kt_161 : KT 161 = (1, 61) := by decide +kernel
theorem ff_12_76 : FF 12 76 RX12 "isTaken" "[Z" 3 true := ⟨TX12, 90, tyX12, rfl, uw_12, rfl, by decide, rfl, rfl, tyX12_ok, nmX12⟩
theorem fl_X12_173 : Cond.fieldLink RX12 173 RX12 "isTaken" "[Z" ∈ BW := (bw7 191 (by decide +kernel) rfl)
theorem sr_15540 : SR 15540 = some 162 := by decide +kernel
theorem kt_162 : KT 162 = (4, 61) := by decide +kernel
theorem vk_X12_length : VOK yX12_length cX12_length 2 (some .int) 0 := ⟨⟨(bw10 79 (by decide +kernel) rfl), (bw1 13 (by decide +kernel) rfl), by decide, by decide, by decide +kernel⟩, (bw10 78 (by decide +kernel) rfl), (bw0 117 (by decide +kernel) rfl)⟩
theorem ml_X12_566 : Cond.methodLink RX12 566 yX12_length ∈ BW := (bw10 76 (by decide +kernel) rfl)
theorem ff_12_77 : FF 12 77 RX12 "lostLines" "I" 0 false := ⟨TX12, 90, tyX12, rfl, uw_12, rfl, by decide, rfl, rfl, tyX12_ok, nmX12⟩
theorem fl_X12_567 : Cond.fieldLink RX12 567 RX12 "lostLines" "I" ∈ BW := (bw7 192 (by decide +kernel) rfl)
theorem vk_X12_areOpen : VOK yX12_areOpen cX12_areOpen 5 (some .boolean) 3 := ⟨⟨(bw10 68 (by decide +kernel) rfl), (bw1 13 (by decide +kernel) rfl), by decide, by decide, by decide +kernel⟩, (bw10 67 (by decide +kernel) rfl), (bw0 115 (by decide +kernel) rfl)⟩
theorem ml_X12_570 : Cond.methodLink RX12 570 yX12_areOpen ∈ BW := (bw10 65 (by decide +kernel) rfl)
theorem vk_X12_composes : VOK yX12_composes cX12_composes 6 (some .boolean) 1 := ⟨⟨(bw10 75 (by decide +kernel) rfl), (bw1 13 (by decide +kernel) rfl), by decide, by decide, by decide +kernel⟩, (bw10 74 (by decide +kernel) rfl), (bw0 116 (by decide +kernel) rfl)⟩
theorem ml_X12_573 : Cond.methodLink RX12 573 yX12_composes ∈ BW := (bw10 72 (by decide +kernel) rfl)
theorem ff_12_81 : FF 12 81 RX12 "setMany" "I" 0 false := ⟨TX12, 90, tyX12, rfl, uw_12, rfl, by decide, rfl, rfl, tyX12_ok, nmX12⟩
theorem fl_X12_576 : Cond.fieldLink RX12 576 RX12 "setMany" "I" ∈ BW := (bw7 196 (by decide +kernel) rfl)
theorem ff_12_79 : FF 12 79 RX12 "groupOf" "[I" 3 true := ⟨TX12, 90, tyX12, rfl, uw_12, rfl, by decide, rfl, rfl, tyX12_ok, nmX12⟩
theorem fl_X12_179 : Cond.fieldLink RX12 179 RX12 "groupOf" "[I" ∈ BW := (bw7 194 (by decide +kernel) rfl)
theorem sr_15543 : SR 15543 = some 164 := by decide +kernel
theorem kt_164 : KT 164 = (1, 8) := by decide +kernel
theorem ff_12_78 : FF 12 78 RX12 "inSet" "[I" 3 true := ⟨TX12, 90, tyX12, rfl, uw_12, rfl, by decide, rfl, rfl, tyX12_ok, nmX12⟩
theorem fl_X12_176 : Cond.fieldLink RX12 176 RX12 "inSet" "[I" ∈ BW := (bw7 193 (by decide +kernel) rfl)
theorem sr_15542 : SR 15542 = some 163 := by decide +kernel
theorem kt_163 : KT 163 = (1, 8) := by decide +kernel
theorem vk_X12_groupsOf : VOK yX12_groupsOf cX12_groupsOf 3 (some .int) 0 := ⟨⟨(bw10 95 (by decide +kernel) rfl), (bw1 13 (by decide +kernel) rfl), by decide, by decide, by decide +kernel⟩, (bw10 94 (by decide +kernel) rfl), (bw0 119 (by decide +kernel) rfl)⟩
theorem ml_X12_579 : Cond.methodLink RX12 579 yX12_groupsOf ∈ BW := (bw10 92 (by decide +kernel) rfl)
theorem vk_X12_loses : VOK yX12_loses cX12_loses 6 (some .int) 1 := ⟨⟨(bw10 99 (by decide +kernel) rfl), (bw1 13 (by decide +kernel) rfl), by decide, by decide, by decide +kernel⟩, (bw10 98 (by decide +kernel) rfl), (bw0 120 (by decide +kernel) rfl)⟩
theorem ml_X12_582 : Cond.methodLink RX12 582 yX12_loses ∈ BW := (bw10 96 (by decide +kernel) rfl)
theorem vk_X12_countsUp : VOK yX12_countsUp cX12_countsUp 4 (some .boolean) 0 := ⟨⟨(bw10 103 (by decide +kernel) rfl), (bw1 13 (by decide +kernel) rfl), by decide, by decide, by decide +kernel⟩, (bw10 102 (by decide +kernel) rfl), (bw0 121 (by decide +kernel) rfl)⟩
theorem ml_X12_585 : Cond.methodLink RX12 585 yX12_countsUp ∈ BW := (bw10 100 (by decide +kernel) rfl)
theorem ff_12_80 : FF 12 80 RX12 "bestOf" "[I" 3 true := ⟨TX12, 90, tyX12, rfl, uw_12, rfl, by decide, rfl, rfl, tyX12_ok, nmX12⟩
theorem fl_X12_182 : Cond.fieldLink RX12 182 RX12 "bestOf" "[I" ∈ BW := (bw7 195 (by decide +kernel) rfl)
theorem sr_15544 : SR 15544 = some 165 := by decide +kernel
theorem kt_165 : KT 165 = (1, 8) := by decide +kernel
theorem vk_X12_groups : VOK yX12_groups cX12_groups 8 (some .int) 2 := ⟨⟨(bw10 91 (by decide +kernel) rfl), (bw1 13 (by decide +kernel) rfl), by decide, by decide, by decide +kernel⟩, (bw10 90 (by decide +kernel) rfl), (bw0 118 (by decide +kernel) rfl)⟩
theorem ml_X12_588 : Cond.methodLink RX12 588 yX12_groups ∈ BW := (bw10 88 (by decide +kernel) rfl)
theorem vk_X12_wouldPass : VOK yX12_wouldPass cX12_wouldPass 5 (some .boolean) 4 := ⟨⟨(bw10 115 (by decide +kernel) rfl), (bw1 13 (by decide +kernel) rfl), by decide, by decide, by decide +kernel⟩, (bw10 114 (by decide +kernel) rfl), (bw0 122 (by decide +kernel) rfl)⟩
theorem ml_X12_591 : Cond.methodLink RX12 591 yX12_wouldPass ∈ BW := (bw10 112 (by decide +kernel) rfl)
theorem ff_12_82 : FF 12 82 RX12 "worths" "[I" 3 true := ⟨TX12, 90, tyX12, rfl, uw_12, rfl, by decide, rfl, rfl, tyX12_ok, nmX12⟩
theorem fl_X12_185 : Cond.fieldLink RX12 185 RX12 "worths" "[I" ∈ BW := (bw7 197 (by decide +kernel) rfl)
theorem sr_15546 : SR 15546 = some 166 := by decide +kernel
theorem kt_166 : KT 166 = (1, 288) := by decide +kernel
theorem ff_12_85 : FF 12 85 RX12 "tried" "[I" 3 true := ⟨TX12, 90, tyX12, rfl, uw_12, rfl, by decide, rfl, rfl, tyX12_ok, nmX12⟩
theorem fl_X12_194 : Cond.fieldLink RX12 194 RX12 "tried" "[I" ∈ BW := (bw7 200 (by decide +kernel) rfl)
theorem sr_15549 : SR 15549 = some 169 := by decide +kernel
theorem kt_169 : KT 169 = (1, 61) := by decide +kernel
theorem ff_12_83 : FF 12 83 RX12 "order" "[I" 3 true := ⟨TX12, 90, tyX12, rfl, uw_12, rfl, by decide, rfl, rfl, tyX12_ok, nmX12⟩
theorem fl_X12_188 : Cond.fieldLink RX12 188 RX12 "order" "[I" ∈ BW := (bw7 198 (by decide +kernel) rfl)
theorem sr_15547 : SR 15547 = some 167 := by decide +kernel
theorem kt_167 : KT 167 = (1, 6) := by decide +kernel
theorem vk_X12_listsMotions : VOK yX12_listsMotions cX12_listsMotions 3 none 1 := ⟨⟨(bw10 127 (by decide +kernel) rfl), (bw1 13 (by decide +kernel) rfl), by decide, by decide, by decide +kernel⟩, (bw10 126 (by decide +kernel) rfl), (bw0 123 (by decide +kernel) rfl)⟩
theorem ml_X12_595 : Cond.methodLink RX12 595 yX12_listsMotions ∈ BW := (bw10 124 (by decide +kernel) rfl)
theorem vk_X12_worthOf : VOK yX12_worthOf cX12_worthOf 9 (some .int) 1 := ⟨⟨(bw10 131 (by decide +kernel) rfl), (bw1 13 (by decide +kernel) rfl), by decide, by decide, by decide +kernel⟩, (bw10 130 (by decide +kernel) rfl), (bw0 124 (by decide +kernel) rfl)⟩
theorem ml_X12_598 : Cond.methodLink RX12 598 yX12_worthOf ∈ BW := (bw10 128 (by decide +kernel) rfl)
theorem vk_X12_swaps : VOK yX12_swaps cX12_swaps 4 none 2 := ⟨⟨(bw10 143 (by decide +kernel) rfl), (bw1 13 (by decide +kernel) rfl), by decide, by decide, by decide +kernel⟩, (bw10 142 (by decide +kernel) rfl), (bw0 126 (by decide +kernel) rfl)⟩
theorem ml_X12_601 : Cond.methodLink RX12 601 yX12_swaps ∈ BW := (bw10 140 (by decide +kernel) rfl)
theorem ff_12_84 : FF 12 84 RX12 "bestOrder" "[I" 3 true := ⟨TX12, 90, tyX12, rfl, uw_12, rfl, by decide, rfl, rfl, tyX12_ok, nmX12⟩
theorem fl_X12_191 : Cond.fieldLink RX12 191 RX12 "bestOrder" "[I" ∈ BW := (bw7 199 (by decide +kernel) rfl)
theorem sr_15548 : SR 15548 = some 168 := by decide +kernel
theorem kt_168 : KT 168 = (1, 6) := by decide +kernel
theorem vk_X12_goesOn : VOK yX12_goesOn cX12_goesOn 5 (some .boolean) 0 := ⟨⟨(bw10 139 (by decide +kernel) rfl), (bw1 13 (by decide +kernel) rfl), by decide, by decide, by decide +kernel⟩, (bw10 138 (by decide +kernel) rfl), (bw0 125 (by decide +kernel) rfl)⟩
theorem ml_X12_604 : Cond.methodLink RX12 604 yX12_goesOn ∈ BW := (bw10 136 (by decide +kernel) rfl)
theorem ff_12_86 : FF 12 86 RX12 "isNow" "[Z" 3 true := ⟨TX12, 90, tyX12, rfl, uw_12, rfl, by decide, rfl, rfl, tyX12_ok, nmX12⟩
theorem fl_X12_197 : Cond.fieldLink RX12 197 RX12 "isNow" "[Z" ∈ BW := (bw7 201 (by decide +kernel) rfl)
theorem sr_15550 : SR 15550 = some 170 := by decide +kernel
theorem kt_170 : KT 170 = (4, 24) := by decide +kernel
theorem ff_12_88 : FF 12 88 RX12 "mayTurn" "[Z" 3 true := ⟨TX12, 90, tyX12, rfl, uw_12, rfl, by decide, rfl, rfl, tyX12_ok, nmX12⟩
theorem fl_X12_203 : Cond.fieldLink RX12 203 RX12 "mayTurn" "[Z" ∈ BW := (bw7 203 (by decide +kernel) rfl)
theorem sr_15552 : SR 15552 = some 172 := by decide +kernel
theorem kt_172 : KT 172 = (4, 288) := by decide +kernel
theorem ff_12_87 : FF 12 87 RX12 "isThen" "[Z" 3 true := ⟨TX12, 90, tyX12, rfl, uw_12, rfl, by decide, rfl, rfl, tyX12_ok, nmX12⟩
theorem fl_X12_200 : Cond.fieldLink RX12 200 RX12 "isThen" "[Z" ∈ BW := (bw7 202 (by decide +kernel) rfl)
theorem sr_15551 : SR 15551 = some 171 := by decide +kernel
theorem kt_171 : KT 171 = (4, 288) := by decide +kernel
theorem vk_X12_findTurns : VOK yX12_findTurns cX12_findTurns 3 none 0 := ⟨⟨(bw10 155 (by decide +kernel) rfl), (bw1 13 (by decide +kernel) rfl), by decide, by decide, by decide +kernel⟩, (bw10 154 (by decide +kernel) rfl), (bw0 128 (by decide +kernel) rfl)⟩
theorem ml_X12_607 : Cond.methodLink RX12 607 yX12_findTurns ∈ BW := (bw10 152 (by decide +kernel) rfl)
theorem vk_X12_gain : VOK yX12_gain cX12_gain 5 (some .int) 3 := ⟨⟨(bw10 159 (by decide +kernel) rfl), (bw1 13 (by decide +kernel) rfl), by decide, by decide, by decide +kernel⟩, (bw10 158 (by decide +kernel) rfl), (bw0 129 (by decide +kernel) rfl)⟩
theorem ml_X12_610 : Cond.methodLink RX12 610 yX12_gain ∈ BW := (bw10 156 (by decide +kernel) rfl)
theorem ff_12_89 : FF 12 89 RX12 "deal" "[I" 3 true := ⟨TX12, 90, tyX12, rfl, uw_12, rfl, by decide, rfl, rfl, tyX12_ok, nmX12⟩
theorem fl_X12_206 : Cond.fieldLink RX12 206 RX12 "deal" "[I" ∈ BW := (bw7 204 (by decide +kernel) rfl)
theorem sr_15553 : SR 15553 = some 173 := by decide +kernel
theorem kt_173 : KT 173 = (1, 6) := by decide +kernel
theorem vk_X12_findDeal : VOK yX12_findDeal cX12_findDeal 8 (some .boolean) 0 := ⟨⟨(bw10 151 (by decide +kernel) rfl), (bw1 13 (by decide +kernel) rfl), by decide, by decide, by decide +kernel⟩, (bw10 150 (by decide +kernel) rfl), (bw0 127 (by decide +kernel) rfl)⟩
theorem ml_X12_613 : Cond.methodLink RX12 613 yX12_findDeal ∈ BW := (bw10 148 (by decide +kernel) rfl)
theorem fl_X0_62 : Cond.fieldLink RX0 62 RX7 "today" "I" ∈ BW := (bw1 67 (by decide +kernel) rfl)
theorem vk_X0_decideOn : VOK yX0_decideOn cX0_decideOn 5 (some .int) 2 := ⟨⟨(bw5 149 (by decide +kernel) rfl), (bw1 10 (by decide +kernel) rfl), by decide, by decide, by decide +kernel⟩, (bw5 148 (by decide +kernel) rfl), (bw0 29 (by decide +kernel) rfl)⟩
theorem ml_X0_67 : Cond.methodLink RX0 67 yX0_decideOn ∈ BW := (bw5 146 (by decide +kernel) rfl)
theorem ff_0_4 : FF 0 4 RX0 "count" "LCardHall$Count;" 3 true := ⟨TX0, 9, tyX0, rfl, uw_0, rfl, by decide, rfl, rfl, tyX0_ok, nmX0⟩
theorem fl_X0_27 : Cond.fieldLink RX0 27 RX0 "count" "LCardHall$Count;" ∈ BW := (bw2 143 (by decide +kernel) rfl)
theorem sr_11628 : SR 11628 = some 73 := by decide +kernel
theorem ml_X0_78 : Cond.methodLink RX0 78 yX2_take ∈ BW := (bw5 151 (by decide +kernel) rfl)
theorem vk_X2_voiceTaken : VOK yX2_voiceTaken cX2_voiceTaken 2 (some .int) 1 := ⟨⟨(bw6 29 (by decide +kernel) rfl), (bw1 9 (by decide +kernel) rfl), by decide, by decide, by decide +kernel⟩, (bw6 27 (by decide +kernel) rfl), (bw6 28 (by decide +kernel) rfl)⟩
theorem ml_X0_84 : Cond.methodLink RX0 84 yX2_voiceTaken ∈ BW := (bw6 26 (by decide +kernel) rfl)
theorem ff_2_6 : FF 2 6 RX2 "voices" "[I" 3 true := ⟨TX2, 17, tyX2, rfl, uw_2, rfl, by decide, rfl, rfl, tyX2_ok, nmX2⟩
theorem fl_X2_27 : Cond.fieldLink RX2 27 RX2 "voices" "[I" ∈ BW := (bw2 77 (by decide +kernel) rfl)
theorem sr_10350 : SR 10350 = some 79 := by decide +kernel
theorem kt_79 : KT 79 = (1, 12) := by decide +kernel
theorem ml_X0_96 : Cond.methodLink RX0 96 yX2_weigh ∈ BW := (bw5 152 (by decide +kernel) rfl)
theorem vk_X2_leaveOut : VOK yX2_leaveOut cX2_leaveOut 3 none 1 := ⟨⟨(bw5 156 (by decide +kernel) rfl), (bw1 9 (by decide +kernel) rfl), by decide, by decide, by decide +kernel⟩, (bw5 154 (by decide +kernel) rfl), (bw5 155 (by decide +kernel) rfl)⟩
theorem ml_X0_100 : Cond.methodLink RX0 100 yX2_leaveOut ∈ BW := (bw5 153 (by decide +kernel) rfl)
theorem ml_X0_104 : Cond.methodLink RX0 104 yX2_sumUp ∈ BW := (bw5 157 (by decide +kernel) rfl)
theorem sk_X11_kindOf : SOK yX11_kindOf cX11_kindOf 1 (some .int) 1 := ⟨⟨(bw5 160 (by decide +kernel) rfl), (bw1 1 (by decide +kernel) rfl), by decide, by decide, by decide +kernel⟩, (bw5 159 (by decide +kernel) rfl)⟩
theorem nw_X0_107 : (RX0, 107, yX11_kindOf, "CardHall") ∈ NWL := List.mem_of_getElem? (i := 20) rfl
theorem vk_X3_against : VOK yX3_against cX3_against 4 (some .int) 1 := ⟨⟨(bw5 164 (by decide +kernel) rfl), (bw1 8 (by decide +kernel) rfl), by decide, by decide, by decide +kernel⟩, (bw5 162 (by decide +kernel) rfl), (bw5 163 (by decide +kernel) rfl)⟩
theorem ml_X0_110 : Cond.methodLink RX0 110 yX3_against ∈ BW := (bw5 161 (by decide +kernel) rfl)
theorem nw_X3_112 : (RX3, 112, yX11_kindOf, "CardHall") ∈ NWL := List.mem_of_getElem? (i := 21) rfl
theorem vk_X2_passes : VOK yX2_passes cX2_passes 5 (some .boolean) 4 := ⟨⟨(bw5 213 (by decide +kernel) rfl), (bw1 9 (by decide +kernel) rfl), by decide, by decide, by decide +kernel⟩, (bw5 211 (by decide +kernel) rfl), (bw5 212 (by decide +kernel) rfl)⟩
theorem ml_X0_113 : Cond.methodLink RX0 113 yX2_passes ∈ BW := (bw5 210 (by decide +kernel) rfl)
theorem vk_X8_says : VOK yX8_says cX8_says 2 (some .boolean) 1 := ⟨⟨(bw5 8 (by decide +kernel) rfl), (bw1 5 (by decide +kernel) rfl), by decide, by decide, by decide +kernel⟩, (bw5 6 (by decide +kernel) rfl), (bw5 7 (by decide +kernel) rfl)⟩
theorem ml_X2_114 : Cond.methodLink RX2 114 yX8_says ∈ BW := (bw5 5 (by decide +kernel) rfl)
theorem ff_8_2 : FF 8 2 RX8 "to" "[I" 3 true := ⟨TX8, 7, tyX8, rfl, uw_8, rfl, by decide, rfl, rfl, tyX8_ok, nmX8⟩
theorem fl_X8_18 : Cond.fieldLink RX8 18 RX8 "to" "[I" ∈ BW := (bw1 149 (by decide +kernel) rfl)
theorem nw_X8_43 : (RX8, 43, yX11_at, "CardHall") ∈ NWL := List.mem_of_getElem? (i := 15) rfl
theorem ff_8_1 : FF 8 1 RX8 "from" "[I" 3 true := ⟨TX8, 7, tyX8, rfl, uw_8, rfl, by decide, rfl, rfl, tyX8_ok, nmX8⟩
theorem fl_X8_15 : Cond.fieldLink RX8 15 RX8 "from" "[I" ∈ BW := (bw1 148 (by decide +kernel) rfl)
theorem fl_X2_161 : Cond.fieldLink RX2 161 RX2 "yes" "I" ∈ BW := (bw2 85 (by decide +kernel) rfl)
theorem nw_X2_74 : (RX2, 74, yX11_set, "CardHall") ∈ NWL := List.mem_of_getElem? (i := 8) rfl
theorem kt_81 : KT 81 = (1, 6) := by decide +kernel
theorem vk_X0_writeRow : VOK yX0_writeRow cX0_writeRow 5 none 3 := ⟨⟨(bw5 217 (by decide +kernel) rfl), (bw1 10 (by decide +kernel) rfl), by decide, by decide, by decide +kernel⟩, (bw5 216 (by decide +kernel) rfl), (bw0 35 (by decide +kernel) rfl)⟩
theorem ml_X0_117 : Cond.methodLink RX0 117 yX0_writeRow ∈ BW := (bw5 214 (by decide +kernel) rfl)
theorem vk_X0_carryOut : VOK yX0_carryOut cX0_carryOut 4 none 2 := ⟨⟨(bw5 228 (by decide +kernel) rfl), (bw1 10 (by decide +kernel) rfl), by decide, by decide, by decide +kernel⟩, (bw5 227 (by decide +kernel) rfl), (bw0 36 (by decide +kernel) rfl)⟩
theorem ml_X0_121 : Cond.methodLink RX0 121 yX0_carryOut ∈ BW := (bw5 225 (by decide +kernel) rfl)
theorem nw_X0_125 : (RX0, 125, yX11_set, "CardHall") ∈ NWL := List.mem_of_getElem? (i := 22) rfl
theorem fl_X0_129 : Cond.fieldLink RX0 129 RX2 "yes" "I" ∈ BW := (bw2 84 (by decide +kernel) rfl)
theorem fl_X0_132 : Cond.fieldLink RX0 132 RX2 "no" "I" ∈ BW := (bw2 87 (by decide +kernel) rfl)
theorem fl_X0_135 : Cond.fieldLink RX0 135 RX2 "all" "I" ∈ BW := (bw2 90 (by decide +kernel) rfl)
theorem sk_J6_bitCount_0f7a4 : SOK yJ6_bitCount_0f7a4 cJ6_bitCount_0f7a4 1 (some .int) 1 := ⟨⟨(bw5 221 (by decide +kernel) rfl), (bw1 19 (by decide +kernel) rfl), by decide, by decide, by decide +kernel⟩, (bw5 220 (by decide +kernel) rfl)⟩
theorem ml_X0_138 : Cond.methodLink RX0 138 yJ6_bitCount_0f7a4 ∈ BW := (bw5 219 (by decide +kernel) rfl)
theorem vk_X3_passMotion : VOK yX3_passMotion cX3_passMotion 7 none 1 := ⟨⟨(bw5 232 (by decide +kernel) rfl), (bw1 8 (by decide +kernel) rfl), by decide, by decide, by decide +kernel⟩, (bw5 230 (by decide +kernel) rfl), (bw5 231 (by decide +kernel) rfl)⟩
theorem ml_X0_143 : Cond.methodLink RX0 143 yX3_passMotion ∈ BW := (bw5 229 (by decide +kernel) rfl)
theorem vk_X3_closeMotion : VOK yX3_closeMotion cX3_closeMotion 4 none 2 := ⟨⟨(bw5 236 (by decide +kernel) rfl), (bw1 8 (by decide +kernel) rfl), by decide, by decide, by decide +kernel⟩, (bw5 234 (by decide +kernel) rfl), (bw5 235 (by decide +kernel) rfl)⟩
theorem ml_X0_146 : Cond.methodLink RX0 146 yX3_closeMotion ∈ BW := (bw6 2 (by decide +kernel) rfl)
theorem vk_X3_passAmendment : VOK yX3_passAmendment cX3_passAmendment 3 none 1 := ⟨⟨(bw6 7 (by decide +kernel) rfl), (bw1 8 (by decide +kernel) rfl), by decide, by decide, by decide +kernel⟩, (bw6 5 (by decide +kernel) rfl), (bw6 6 (by decide +kernel) rfl)⟩
theorem ml_X0_152 : Cond.methodLink RX0 152 yX3_passAmendment ∈ BW := (bw6 4 (by decide +kernel) rfl)
theorem vk_X3_passOrders : VOK yX3_passOrders cX3_passOrders 2 none 1 := ⟨⟨(bw6 11 (by decide +kernel) rfl), (bw1 8 (by decide +kernel) rfl), by decide, by decide, by decide +kernel⟩, (bw6 9 (by decide +kernel) rfl), (bw6 10 (by decide +kernel) rfl)⟩
theorem ml_X0_155 : Cond.methodLink RX0 155 yX3_passOrders ∈ BW := (bw6 8 (by decide +kernel) rfl)
theorem ml_X0_149 : Cond.methodLink RX0 149 yX3_put ∈ BW := (bw6 3 (by decide +kernel) rfl)
theorem vk_X2_sumUpBranches : VOK yX2_sumUpBranches cX2_sumUpBranches 2 none 0 := ⟨⟨(bw6 158 (by decide +kernel) rfl), (bw1 9 (by decide +kernel) rfl), by decide, by decide, by decide +kernel⟩, (bw6 156 (by decide +kernel) rfl), (bw6 157 (by decide +kernel) rfl)⟩
theorem ml_X0_158 : Cond.methodLink RX0 158 yX2_sumUpBranches ∈ BW := (bw6 155 (by decide +kernel) rfl)
theorem ff_1_1 : FF 1 1 RX1 "floor" "LCardHall$Floor;" 3 true := ⟨TX1, 18, tyX1, rfl, uw_1, rfl, by decide, rfl, rfl, tyX1_ok, nmX1⟩
theorem fl_X1_44 : Cond.fieldLink RX1 44 RX1 "floor" "LCardHall$Floor;" ∈ BW := (bw2 175 (by decide +kernel) rfl)
theorem sr_12649 : SR 12649 = some 67 := by decide +kernel
theorem ff_1_2 : FF 1 2 RX1 "motions" "[I" 3 true := ⟨TX1, 18, tyX1, rfl, uw_1, rfl, by decide, rfl, rfl, tyX1_ok, nmX1⟩
theorem fl_X1_9 : Cond.fieldLink RX1 9 RX1 "motions" "[I" ∈ BW := (bw2 176 (by decide +kernel) rfl)
theorem sr_12650 : SR 12650 = some 92 := by decide +kernel
theorem vk_X3_chosen : VOK yX3_chosen cX3_chosen 5 (some .int) 2 := ⟨⟨(bw6 61 (by decide +kernel) rfl), (bw1 8 (by decide +kernel) rfl), by decide, by decide, by decide +kernel⟩, (bw6 59 (by decide +kernel) rfl), (bw6 60 (by decide +kernel) rfl)⟩
theorem ml_X1_48 : Cond.methodLink RX1 48 yX3_chosen ∈ BW := (bw6 58 (by decide +kernel) rfl)
theorem kt_92 : KT 92 = (1, 8) := by decide +kernel
theorem ff_1_6 : FF 1 6 RX1 "many" "I" 0 false := ⟨TX1, 18, tyX1, rfl, uw_1, rfl, by decide, rfl, rfl, tyX1_ok, nmX1⟩
theorem fl_X1_54 : Cond.fieldLink RX1 54 RX1 "many" "I" ∈ BW := (bw2 180 (by decide +kernel) rfl)
theorem nw_X1_58 : (RX1, 58, yX11_at, "CardHall") ∈ NWL := List.mem_of_getElem? (i := 24) rfl
theorem ff_1_3 : FF 1 3 RX1 "saidBits" "[J" 3 true := ⟨TX1, 18, tyX1, rfl, uw_1, rfl, by decide, rfl, rfl, tyX1_ok, nmX1⟩
theorem fl_X1_15 : Cond.fieldLink RX1 15 RX1 "saidBits" "[J" ∈ BW := (bw2 177 (by decide +kernel) rfl)
theorem sr_12651 : SR 12651 = some 93 := by decide +kernel
theorem vk_X3_bitsOf : VOK yX3_bitsOf cX3_bitsOf 8 (some .long) 2 := ⟨⟨(bw5 209 (by decide +kernel) rfl), (bw1 8 (by decide +kernel) rfl), by decide, by decide, by decide +kernel⟩, (bw5 207 (by decide +kernel) rfl), (bw5 208 (by decide +kernel) rfl)⟩
theorem ml_X1_62 : Cond.methodLink RX1 62 yX3_bitsOf ∈ BW := (bw6 63 (by decide +kernel) rfl)
theorem nw_X1_66 : (RX1, 66, yX11_set_, "CardHall") ∈ NWL := List.mem_of_getElem? (i := 25) rfl
theorem kt_93 : KT 93 = (2, 8) := by decide +kernel
theorem ff_1_4 : FF 1 4 RX1 "deniedBits" "[J" 3 true := ⟨TX1, 18, tyX1, rfl, uw_1, rfl, by decide, rfl, rfl, tyX1_ok, nmX1⟩
theorem fl_X1_19 : Cond.fieldLink RX1 19 RX1 "deniedBits" "[J" ∈ BW := (bw2 178 (by decide +kernel) rfl)
theorem sr_12652 : SR 12652 = some 94 := by decide +kernel
theorem kt_94 : KT 94 = (2, 8) := by decide +kernel
theorem ff_1_5 : FF 1 5 RX1 "mustBits" "[J" 3 true := ⟨TX1, 18, tyX1, rfl, uw_1, rfl, by decide, rfl, rfl, tyX1_ok, nmX1⟩
theorem fl_X1_22 : Cond.fieldLink RX1 22 RX1 "mustBits" "[J" ∈ BW := (bw2 179 (by decide +kernel) rfl)
theorem sr_12653 : SR 12653 = some 95 := by decide +kernel
theorem vk_X3_mustBitsOf : VOK yX3_mustBitsOf cX3_mustBitsOf 6 (some .long) 1 := ⟨⟨(bw6 70 (by decide +kernel) rfl), (bw1 8 (by decide +kernel) rfl), by decide, by decide, by decide +kernel⟩, (bw6 68 (by decide +kernel) rfl), (bw6 69 (by decide +kernel) rfl)⟩
theorem ml_X1_70 : Cond.methodLink RX1 70 yX3_mustBitsOf ∈ BW := (bw6 67 (by decide +kernel) rfl)
theorem kt_95 : KT 95 = (2, 8) := by decide +kernel
theorem vk_X1_compose : VOK yX1_compose cX1_compose 7 (some .int) 1 := ⟨⟨(bw6 74 (by decide +kernel) rfl), (bw1 11 (by decide +kernel) rfl), by decide, by decide, by decide +kernel⟩, (bw6 73 (by decide +kernel) rfl), (bw0 38 (by decide +kernel) rfl)⟩
theorem ml_X1_78 : Cond.methodLink RX1 78 yX1_compose ∈ BW := (bw6 71 (by decide +kernel) rfl)
theorem vk_X1_gather : VOK yX1_gather cX1_gather 6 (some .boolean) 1 := ⟨⟨(bw6 78 (by decide +kernel) rfl), (bw1 11 (by decide +kernel) rfl), by decide, by decide, by decide +kernel⟩, (bw6 77 (by decide +kernel) rfl), (bw0 39 (by decide +kernel) rfl)⟩
theorem ml_X1_82 : Cond.methodLink RX1 82 yX1_gather ∈ BW := (bw6 75 (by decide +kernel) rfl)
theorem nw_X1_86 : (RX1, 86, yX11_at_, "CardHall") ∈ NWL := List.mem_of_getElem? (i := 26) rfl
theorem ml_X1_89 : Cond.methodLink RX1 89 yJ13_bitCount_95d88 ∈ BW := (bw6 87 (by decide +kernel) rfl)
theorem ff_1_7 : FF 1 7 RX1 "kept" "J" 2 false := ⟨TX1, 18, tyX1, rfl, uw_1, rfl, by decide, rfl, rfl, tyX1_ok, nmX1⟩
theorem fl_X1_95 : Cond.fieldLink RX1 95 RX1 "kept" "J" ∈ BW := (bw2 181 (by decide +kernel) rfl)
theorem ff_1_0 : FF 1 0 RX1 "papers" "LCardHall$Papers;" 3 true := ⟨TX1, 18, tyX1, rfl, uw_1, rfl, by decide, rfl, rfl, tyX1_ok, nmX1⟩
theorem fl_X1_40 : Cond.fieldLink RX1 40 RX1 "papers" "LCardHall$Papers;" ∈ BW := (bw2 174 (by decide +kernel) rfl)
theorem sr_12648 : SR 12648 = some 12 := by decide +kernel
theorem fl_X1_99 : Cond.fieldLink RX1 99 RX3 "force" "I" ∈ BW := (bw2 42 (by decide +kernel) rfl)
theorem ml_X1_102 : Cond.methodLink RX1 102 yX6_inForce ∈ BW := (bw6 79 (by decide +kernel) rfl)
theorem ff_8_5 : FF 8 5 RX8 "length" "I" 0 false := ⟨TX8, 7, tyX8, rfl, uw_8, rfl, by decide, rfl, rfl, tyX8_ok, nmX8⟩
theorem fl_X1_108 : Cond.fieldLink RX1 108 RX8 "length" "I" ∈ BW := (bw1 157 (by decide +kernel) rfl)
theorem ff_1_8 : FF 1 8 RX1 "said" "J" 2 false := ⟨TX1, 18, tyX1, rfl, uw_1, rfl, by decide, rfl, rfl, tyX1_ok, nmX1⟩
theorem fl_X1_113 : Cond.fieldLink RX1 113 RX1 "said" "J" ∈ BW := (bw2 182 (by decide +kernel) rfl)
theorem ff_1_9 : FF 1 9 RX1 "must" "J" 2 false := ⟨TX1, 18, tyX1, rfl, uw_1, rfl, by decide, rfl, rfl, tyX1_ok, nmX1⟩
theorem fl_X1_116 : Cond.fieldLink RX1 116 RX1 "must" "J" ∈ BW := (bw2 183 (by decide +kernel) rfl)
theorem ff_1_10 : FF 1 10 RX1 "sharedBy" "[J" 3 true := ⟨TX1, 18, tyX1, rfl, uw_1, rfl, by decide, rfl, rfl, tyX1_ok, nmX1⟩
theorem fl_X1_25 : Cond.fieldLink RX1 25 RX1 "sharedBy" "[J" ∈ BW := (bw2 184 (by decide +kernel) rfl)
theorem sr_12658 : SR 12658 = some 96 := by decide +kernel
theorem kt_96 : KT 96 = (2, 9) := by decide +kernel
theorem vk_X1_share : VOK yX1_share cX1_share 4 none 1 := ⟨⟨(bw6 86 (by decide +kernel) rfl), (bw1 11 (by decide +kernel) rfl), by decide, by decide, by decide +kernel⟩, (bw6 85 (by decide +kernel) rfl), (bw0 40 (by decide +kernel) rfl)⟩
theorem ml_X1_119 : Cond.methodLink RX1 119 yX1_share ∈ BW := (bw6 83 (by decide +kernel) rfl)
theorem vk_X1_keepUpTo : VOK yX1_keepUpTo cX1_keepUpTo 8 none 1 := ⟨⟨(bw6 96 (by decide +kernel) rfl), (bw1 11 (by decide +kernel) rfl), by decide, by decide, by decide +kernel⟩, (bw6 95 (by decide +kernel) rfl), (bw0 41 (by decide +kernel) rfl)⟩
theorem ml_X1_123 : Cond.methodLink RX1 123 yX1_keepUpTo ∈ BW := (bw6 93 (by decide +kernel) rfl)
theorem cl_X1_126 : Cond.constantLong RX1 126 (-1) ∈ BW := (bw6 97 (by decide +kernel) rfl)
theorem fl_X1_128 : Cond.fieldLink RX1 128 RX6 "mover" "[I" ∈ BW := (bw1 177 (by decide +kernel) rfl)
theorem ml_X1_131 : Cond.methodLink RX1 131 yX6_addMotion ∈ BW := (bw6 106 (by decide +kernel) rfl)
theorem ml_X1_134 : Cond.methodLink RX1 134 yX3_bring ∈ BW := (bw6 107 (by decide +kernel) rfl)
theorem ml_X1_137 : Cond.methodLink RX1 137 yX3_addLine ∈ BW := (bw6 108 (by decide +kernel) rfl)
theorem ml_X1_141 : Cond.methodLink RX1 141 yX3_closeMotion ∈ BW := (bw6 109 (by decide +kernel) rfl)
theorem ff_1_11 : FF 1 11 RX1 "lostBy" "[I" 3 true := ⟨TX1, 18, tyX1, rfl, uw_1, rfl, by decide, rfl, rfl, tyX1_ok, nmX1⟩
theorem fl_X1_28 : Cond.fieldLink RX1 28 RX1 "lostBy" "[I" ∈ BW := (bw2 185 (by decide +kernel) rfl)
theorem sr_12659 : SR 12659 = some 97 := by decide +kernel
theorem ml_X1_145 : Cond.methodLink RX1 145 yJ6_bitCount_0f7a4 ∈ BW := (bw6 118 (by decide +kernel) rfl)
theorem nw_X1_149 : (RX1, 149, yX11_set, "CardHall") ∈ NWL := List.mem_of_getElem? (i := 27) rfl
theorem kt_97 : KT 97 = (1, 256) := by decide +kernel
theorem ff_1_15 : FF 1 15 RX1 "mostGroups" "I" 0 false := ⟨TX1, 18, tyX1, rfl, uw_1, rfl, by decide, rfl, rfl, tyX1_ok, nmX1⟩
theorem fl_X1_152 : Cond.fieldLink RX1 152 RX1 "mostGroups" "I" ∈ BW := (bw2 189 (by decide +kernel) rfl)
theorem ff_1_16 : FF 1 16 RX1 "bestLost" "I" 0 false := ⟨TX1, 18, tyX1, rfl, uw_1, rfl, by decide, rfl, rfl, tyX1_ok, nmX1⟩
theorem fl_X1_155 : Cond.fieldLink RX1 155 RX1 "bestLost" "I" ∈ BW := (bw2 190 (by decide +kernel) rfl)
theorem ff_1_13 : FF 1 13 RX1 "inGroup" "[I" 3 true := ⟨TX1, 18, tyX1, rfl, uw_1, rfl, by decide, rfl, rfl, tyX1_ok, nmX1⟩
theorem fl_X1_34 : Cond.fieldLink RX1 34 RX1 "inGroup" "[I" ∈ BW := (bw2 187 (by decide +kernel) rfl)
theorem sr_12661 : SR 12661 = some 99 := by decide +kernel
theorem sk_X11_fill : SOK yX11_fill cX11_fill 3 none 2 := ⟨⟨(bw2 28 (by decide +kernel) rfl), (bw1 1 (by decide +kernel) rfl), by decide, by decide, by decide +kernel⟩, (bw2 27 (by decide +kernel) rfl)⟩
theorem nw_X1_158 : (RX1, 158, yX11_fill, "CardHall") ∈ NWL := List.mem_of_getElem? (i := 28) rfl
theorem kt_99 : KT 99 = (1, 8) := by decide +kernel
theorem vk_X1_keepIfBetter : VOK yX1_keepIfBetter cX1_keepIfBetter 3 none 0 := ⟨⟨(bw6 124 (by decide +kernel) rfl), (bw1 11 (by decide +kernel) rfl), by decide, by decide, by decide +kernel⟩, (bw6 123 (by decide +kernel) rfl), (bw0 42 (by decide +kernel) rfl)⟩
theorem ml_X1_162 : Cond.methodLink RX1 162 yX1_keepIfBetter ∈ BW := (bw6 121 (by decide +kernel) rfl)
theorem vk_X1_nextGrouping : VOK yX1_nextGrouping cX1_nextGrouping 4 (some .boolean) 0 := ⟨⟨(bw6 138 (by decide +kernel) rfl), (bw1 11 (by decide +kernel) rfl), by decide, by decide, by decide +kernel⟩, (bw6 137 (by decide +kernel) rfl), (bw0 45 (by decide +kernel) rfl)⟩
theorem ml_X1_165 : Cond.methodLink RX1 165 yX1_nextGrouping ∈ BW := (bw6 135 (by decide +kernel) rfl)
theorem vk_X1_groupsAhead : VOK yX1_groupsAhead cX1_groupsAhead 4 (some .int) 1 := ⟨⟨(bw6 128 (by decide +kernel) rfl), (bw1 11 (by decide +kernel) rfl), by decide, by decide, by decide +kernel⟩, (bw6 127 (by decide +kernel) rfl), (bw0 43 (by decide +kernel) rfl)⟩
theorem ml_X1_169 : Cond.methodLink RX1 169 yX1_groupsAhead ∈ BW := (bw6 125 (by decide +kernel) rfl)
theorem mm_X1_172 : Cond.methodLink RX1 172 Lib.Math.max.name ∈ BW := (bw6 129 (by decide +kernel) rfl)
theorem ms_max : Cond.static Lib.Math.max.name ∈ BW := (bw5 89 (by decide +kernel) rfl)
theorem mi_math : Cond.initialized "java/lang/Math" ∈ BW := (bw1 18 (by decide +kernel) rfl)
theorem mc_max : Cond.code Lib.Math.max.name Lib.Math.max.code 2 (some .int) ∈ BW := (bw5 90 (by decide +kernel) rfl)
theorem vk_X1_lostByGroups : VOK yX1_lostByGroups cX1_lostByGroups 4 (some .int) 0 := ⟨⟨(bw6 133 (by decide +kernel) rfl), (bw1 11 (by decide +kernel) rfl), by decide, by decide, by decide +kernel⟩, (bw6 132 (by decide +kernel) rfl), (bw0 44 (by decide +kernel) rfl)⟩
theorem ml_X1_178 : Cond.methodLink RX1 178 yX1_lostByGroups ∈ BW := (bw6 130 (by decide +kernel) rfl)
theorem ff_1_17 : FF 1 17 RX1 "bestGroups" "I" 0 false := ⟨TX1, 18, tyX1, rfl, uw_1, rfl, by decide, rfl, rfl, tyX1_ok, nmX1⟩
theorem fl_X1_182 : Cond.fieldLink RX1 182 RX1 "bestGroups" "I" ∈ BW := (bw2 191 (by decide +kernel) rfl)
theorem ff_1_14 : FF 1 14 RX1 "bestInGroup" "[I" 3 true := ⟨TX1, 18, tyX1, rfl, uw_1, rfl, by decide, rfl, rfl, tyX1_ok, nmX1⟩
theorem fl_X1_37 : Cond.fieldLink RX1 37 RX1 "bestInGroup" "[I" ∈ BW := (bw2 188 (by decide +kernel) rfl)
theorem sr_12662 : SR 12662 = some 100 := by decide +kernel
theorem sk_X11_copy : SOK yX11_copy cX11_copy 3 none 2 := ⟨⟨(bw5 145 (by decide +kernel) rfl), (bw1 1 (by decide +kernel) rfl), by decide, by decide, by decide +kernel⟩, (bw5 144 (by decide +kernel) rfl)⟩
theorem nw_X1_185 : (RX1, 185, yX11_copy, "CardHall") ∈ NWL := List.mem_of_getElem? (i := 29) rfl
theorem kt_100 : KT 100 = (1, 8) := by decide +kernel
theorem ff_1_12 : FF 1 12 RX1 "members" "[I" 3 true := ⟨TX1, 18, tyX1, rfl, uw_1, rfl, by decide, rfl, rfl, tyX1_ok, nmX1⟩
theorem fl_X1_31 : Cond.fieldLink RX1 31 RX1 "members" "[I" ∈ BW := (bw2 186 (by decide +kernel) rfl)
theorem sr_12660 : SR 12660 = some 98 := by decide +kernel
theorem kt_98 : KT 98 = (1, 8) := by decide +kernel
theorem ff_2_1 : FF 2 1 RX2 "heads" "[I" 3 true := ⟨TX2, 17, tyX2, rfl, uw_2, rfl, by decide, rfl, rfl, tyX2_ok, nmX2⟩
theorem fl_X2_9 : Cond.fieldLink RX2 9 RX2 "heads" "[I" ∈ BW := (bw2 72 (by decide +kernel) rfl)
theorem sr_10345 : SR 10345 = some 74 := by decide +kernel
theorem nw_X2_46 : (RX2, 46, yX11_fill, "CardHall") ∈ NWL := List.mem_of_getElem? (i := 6) rfl
theorem kt_74 : KT 74 = (1, 12) := by decide +kernel
theorem ff_2_2 : FF 2 2 RX2 "dues" "[I" 3 true := ⟨TX2, 17, tyX2, rfl, uw_2, rfl, by decide, rfl, rfl, tyX2_ok, nmX2⟩
theorem fl_X2_15 : Cond.fieldLink RX2 15 RX2 "dues" "[I" ∈ BW := (bw2 73 (by decide +kernel) rfl)
theorem sr_10346 : SR 10346 = some 75 := by decide +kernel
theorem kt_75 : KT 75 = (1, 12) := by decide +kernel
theorem ff_2_4 : FF 2 4 RX2 "mandates" "[I" 3 true := ⟨TX2, 17, tyX2, rfl, uw_2, rfl, by decide, rfl, rfl, tyX2_ok, nmX2⟩
theorem fl_X2_21 : Cond.fieldLink RX2 21 RX2 "mandates" "[I" ∈ BW := (bw2 75 (by decide +kernel) rfl)
theorem sr_10348 : SR 10348 = some 77 := by decide +kernel
theorem kt_77 : KT 77 = (1, 48) := by decide +kernel
theorem ff_2_0 : FF 2 0 RX2 "register" "LCardHall$Register;" 3 true := ⟨TX2, 17, tyX2, rfl, uw_2, rfl, by decide, rfl, rfl, tyX2_ok, nmX2⟩
theorem fl_X2_42 : Cond.fieldLink RX2 42 RX2 "register" "LCardHall$Register;" ∈ BW := (bw2 71 (by decide +kernel) rfl)
theorem sr_10344 : SR 10344 = some 1 := by decide +kernel
theorem fl_X2_50 : Cond.fieldLink RX2 50 RX7 "tellings" "I" ∈ BW := (bw1 62 (by decide +kernel) rfl)
theorem ff_7_6 : FF 7 6 RX7 "told" "[I" 3 true := ⟨TX7, 13, tyX7, rfl, uw_7, rfl, by decide, rfl, rfl, tyX7_ok, nmX7⟩
theorem fl_X2_56 : Cond.fieldLink RX2 56 RX7 "told" "[I" ∈ BW := (bw1 52 (by decide +kernel) rfl)
theorem sr_1134 : SR 1134 = some 8 := by decide +kernel
theorem kt_8 : KT 8 = (1, 600) := by decide +kernel
theorem vk_X2_takeTelling : VOK yX2_takeTelling cX2_takeTelling 5 none 2 := ⟨⟨(bw3 154 (by decide +kernel) rfl), (bw1 9 (by decide +kernel) rfl), by decide, by decide, by decide +kernel⟩, (bw3 153 (by decide +kernel) rfl), (bw0 1 (by decide +kernel) rfl)⟩
theorem ml_X2_63 : Cond.methodLink RX2 63 yX2_takeTelling ∈ BW := (bw3 151 (by decide +kernel) rfl)
theorem fl_X2_67 : Cond.fieldLink RX2 67 RX7 "affiliates" "I" ∈ BW := (bw1 56 (by decide +kernel) rfl)
theorem ml_X2_70 : Cond.methodLink RX2 70 yX2_voiceOf ∈ BW := (bw3 156 (by decide +kernel) rfl)
theorem ff_7_4 : FF 7 4 RX7 "who" "[I" 3 true := ⟨TX7, 13, tyX7, rfl, uw_7, rfl, by decide, rfl, rfl, tyX7_ok, nmX7⟩
theorem fl_X2_78 : Cond.fieldLink RX2 78 RX7 "who" "[I" ∈ BW := (bw1 48 (by decide +kernel) rfl)
theorem sr_1132 : SR 1132 = some 6 := by decide +kernel
theorem kt_6 : KT 6 = (1, 600) := by decide +kernel
theorem ff_7_7 : FF 7 7 RX7 "value" "[I" 3 true := ⟨TX7, 13, tyX7, rfl, uw_7, rfl, by decide, rfl, rfl, tyX7_ok, nmX7⟩
theorem fl_X2_81 : Cond.fieldLink RX2 81 RX7 "value" "[I" ∈ BW := (bw1 54 (by decide +kernel) rfl)
theorem sr_1135 : SR 1135 = some 9 := by decide +kernel
theorem kt_9 : KT 9 = (1, 600) := by decide +kernel
theorem fl_X2_84 : Cond.fieldLink RX2 84 RX7 "kind" "[I" ∈ BW := (bw1 46 (by decide +kernel) rfl)
theorem ff_7_5 : FF 7 5 RX7 "matter" "[I" 3 true := ⟨TX7, 13, tyX7, rfl, uw_7, rfl, by decide, rfl, rfl, tyX7_ok, nmX7⟩
theorem fl_X2_87 : Cond.fieldLink RX2 87 RX7 "matter" "[I" ∈ BW := (bw1 50 (by decide +kernel) rfl)
theorem sr_1133 : SR 1133 = some 7 := by decide +kernel
theorem kt_7 : KT 7 = (1, 600) := by decide +kernel
theorem fl_X2_90 : Cond.fieldLink RX2 90 RX7 "branches" "I" ∈ BW := (bw1 60 (by decide +kernel) rfl)
theorem fl_X2_93 : Cond.fieldLink RX2 93 RX7 "owner" "[I" ∈ BW := (bw1 42 (by decide +kernel) rfl)
theorem ff_7_2 : FF 7 2 RX7 "souls" "[I" 3 true := ⟨TX7, 13, tyX7, rfl, uw_7, rfl, by decide, rfl, rfl, tyX7_ok, nmX7⟩
theorem fl_X2_96 : Cond.fieldLink RX2 96 RX7 "souls" "[I" ∈ BW := (bw1 44 (by decide +kernel) rfl)
theorem sr_1130 : SR 1130 = some 4 := by decide +kernel
theorem kt_4 : KT 4 = (1, 48) := by decide +kernel
theorem ml_X2_99 : Cond.methodLink RX2 99 yX2_mandateOf ∈ BW := (bw3 160 (by decide +kernel) rfl)
theorem mm_X2_102 : Cond.methodLink RX2 102 Lib.Math.min.name ∈ BW := (bw5 2 (by decide +kernel) rfl)
theorem ms_min : Cond.static Lib.Math.min.name ∈ BW := (bw5 3 (by decide +kernel) rfl)
theorem mc_min : Cond.code Lib.Math.min.name Lib.Math.min.code 2 (some .int) ∈ BW := (bw5 4 (by decide +kernel) rfl)
theorem vk_X7_branchesOf : VOK yX7_branchesOf cX7_branchesOf 4 (some .int) 1 := ⟨⟨(bw5 82 (by decide +kernel) rfl), (bw1 2 (by decide +kernel) rfl), by decide, by decide, by decide +kernel⟩, (bw5 80 (by decide +kernel) rfl), (bw5 81 (by decide +kernel) rfl)⟩
theorem ml_X2_118 : Cond.methodLink RX2 118 yX7_branchesOf ∈ BW := (bw5 79 (by decide +kernel) rfl)
theorem vk_X7_soulsOf : VOK yX7_soulsOf cX7_soulsOf 4 (some .int) 1 := ⟨⟨(bw5 87 (by decide +kernel) rfl), (bw1 2 (by decide +kernel) rfl), by decide, by decide, by decide +kernel⟩, (bw5 85 (by decide +kernel) rfl), (bw5 86 (by decide +kernel) rfl)⟩
theorem ml_X2_121 : Cond.methodLink RX2 121 yX7_soulsOf ∈ BW := (bw5 84 (by decide +kernel) rfl)
theorem fl_X2_124 : Cond.fieldLink RX2 124 RX7 "section" "[I" ∈ BW := (bw1 40 (by decide +kernel) rfl)
theorem ff_2_9 : FF 2 9 RX2 "stack" "[I" 3 true := ⟨TX2, 17, tyX2, rfl, uw_2, rfl, by decide, rfl, rfl, tyX2_ok, nmX2⟩
theorem fl_X2_39 : Cond.fieldLink RX2 39 RX2 "stack" "[I" ∈ BW := (bw2 80 (by decide +kernel) rfl)
theorem sr_10353 : SR 10353 = some 82 := by decide +kernel
theorem vk_X8_value : VOK yX8_value cX8_value 9 (some .int) 3 := ⟨⟨(bw5 13 (by decide +kernel) rfl), (bw1 5 (by decide +kernel) rfl), by decide, by decide, by decide +kernel⟩, (bw5 11 (by decide +kernel) rfl), (bw5 12 (by decide +kernel) rfl)⟩
theorem ml_X2_127 : Cond.methodLink RX2 127 yX8_value ∈ BW := (bw5 10 (by decide +kernel) rfl)
theorem mm_X2_130 : Cond.methodLink RX2 130 Lib.Math.max.name ∈ BW := (bw5 88 (by decide +kernel) rfl)
theorem ff_2_5 : FF 2 5 RX2 "weights" "[I" 3 true := ⟨TX2, 17, tyX2, rfl, uw_2, rfl, by decide, rfl, rfl, tyX2_ok, nmX2⟩
theorem fl_X2_24 : Cond.fieldLink RX2 24 RX2 "weights" "[I" ∈ BW := (bw2 76 (by decide +kernel) rfl)
theorem sr_10349 : SR 10349 = some 78 := by decide +kernel
theorem kt_78 : KT 78 = (1, 12) := by decide +kernel
theorem ml_X2_133 : Cond.methodLink RX2 133 yX2_cardsOf ∈ BW := (bw5 104 (by decide +kernel) rfl)
theorem vk_X2_beginSum : VOK yX2_beginSum cX2_beginSum 2 none 0 := ⟨⟨(bw5 112 (by decide +kernel) rfl), (bw1 9 (by decide +kernel) rfl), by decide, by decide, by decide +kernel⟩, (bw5 111 (by decide +kernel) rfl), (bw0 26 (by decide +kernel) rfl)⟩
theorem ml_X2_137 : Cond.methodLink RX2 137 yX2_beginSum ∈ BW := (bw5 109 (by decide +kernel) rfl)
theorem vk_X2_add : VOK yX2_add cX2_add 4 none 3 := ⟨⟨(bw5 116 (by decide +kernel) rfl), (bw1 9 (by decide +kernel) rfl), by decide, by decide, by decide +kernel⟩, (bw5 115 (by decide +kernel) rfl), (bw0 27 (by decide +kernel) rfl)⟩
theorem ml_X2_140 : Cond.methodLink RX2 140 yX2_add ∈ BW := (bw5 113 (by decide +kernel) rfl)
theorem vk_X2_endSum : VOK yX2_endSum cX2_endSum 2 none 0 := ⟨⟨(bw5 120 (by decide +kernel) rfl), (bw1 9 (by decide +kernel) rfl), by decide, by decide, by decide +kernel⟩, (bw5 119 (by decide +kernel) rfl), (bw0 28 (by decide +kernel) rfl)⟩
theorem ml_X2_144 : Cond.methodLink RX2 144 yX2_endSum ∈ BW := (bw5 117 (by decide +kernel) rfl)
theorem ff_2_10 : FF 2 10 RX2 "yesSum" "J" 2 false := ⟨TX2, 17, tyX2, rfl, uw_2, rfl, by decide, rfl, rfl, tyX2_ok, nmX2⟩
theorem fl_X2_147 : Cond.fieldLink RX2 147 RX2 "yesSum" "J" ∈ BW := (bw2 81 (by decide +kernel) rfl)
theorem ff_2_11 : FF 2 11 RX2 "noSum" "J" 2 false := ⟨TX2, 17, tyX2, rfl, uw_2, rfl, by decide, rfl, rfl, tyX2_ok, nmX2⟩
theorem fl_X2_151 : Cond.fieldLink RX2 151 RX2 "noSum" "J" ∈ BW := (bw2 82 (by decide +kernel) rfl)
theorem ff_2_12 : FF 2 12 RX2 "allSum" "J" 2 false := ⟨TX2, 17, tyX2, rfl, uw_2, rfl, by decide, rfl, rfl, tyX2_ok, nmX2⟩
theorem fl_X2_154 : Cond.fieldLink RX2 154 RX2 "allSum" "J" ∈ BW := (bw2 83 (by decide +kernel) rfl)
theorem ff_2_7 : FF 2 7 RX2 "lead" "[J" 3 true := ⟨TX2, 17, tyX2, rfl, uw_2, rfl, by decide, rfl, rfl, tyX2_ok, nmX2⟩
theorem fl_X2_30 : Cond.fieldLink RX2 30 RX2 "lead" "[J" ∈ BW := (bw2 78 (by decide +kernel) rfl)
theorem sr_10351 : SR 10351 = some 80 := by decide +kernel
theorem kt_80 : KT 80 = (2, 6) := by decide +kernel
theorem sk_X8_bounded : SOK yX8_bounded cX8_bounded 2 (some .int) 1 := ⟨⟨(bw5 19 (by decide +kernel) rfl), (bw1 5 (by decide +kernel) rfl), by decide, by decide, by decide +kernel⟩, (bw5 18 (by decide +kernel) rfl)⟩
theorem ml_X2_157 : Cond.methodLink RX2 157 yX8_bounded ∈ BW := (bw5 121 (by decide +kernel) rfl)
theorem cl_X8_55 : Cond.constantLong RX8 55 (1000000000) ∈ BW := (bw5 20 (by decide +kernel) rfl)
theorem cs_X8_57 : Cond.constant RX8 57 (Int32.ofInt (1000000000)) ∈ BW := (bw5 21 (by decide +kernel) rfl)
theorem cl_X8_58 : Cond.constantLong RX8 58 (-1000000000) ∈ BW := (bw5 22 (by decide +kernel) rfl)
theorem cs_X8_60 : Cond.constant RX8 60 (Int32.ofInt (-1000000000)) ∈ BW := (bw5 23 (by decide +kernel) rfl)
theorem fl_X2_164 : Cond.fieldLink RX2 164 RX2 "no" "I" ∈ BW := (bw2 88 (by decide +kernel) rfl)
theorem fl_X2_167 : Cond.fieldLink RX2 167 RX2 "all" "I" ∈ BW := (bw2 91 (by decide +kernel) rfl)
theorem fl_X2_170 : Cond.fieldLink RX2 170 RX2 "sections" "I" ∈ BW := (bw2 93 (by decide +kernel) rfl)
theorem sr_11881 : SR 11881 = some 86 := by decide +kernel
theorem nw_X3_39 : (RX3, 39, yX11_copy, "CardHall") ∈ NWL := List.mem_of_getElem? (i := 19) rfl
theorem kt_86 : KT 86 = (1, 210) := by decide +kernel
theorem sr_11882 : SR 11882 = some 87 := by decide +kernel
theorem kt_87 : KT 87 = (1, 25) := by decide +kernel
theorem sr_11883 : SR 11883 = some 88 := by decide +kernel
theorem kt_88 : KT 88 = (1, 300) := by decide +kernel
theorem sr_11884 : SR 11884 = some 89 := by decide +kernel
theorem kt_89 : KT 89 = (1, 300) := by decide +kernel
theorem sr_11885 : SR 11885 = some 90 := by decide +kernel
theorem kt_90 : KT 90 = (1, 300) := by decide +kernel
theorem fl_X3_43 : Cond.fieldLink RX3 43 RX3 "said" "J" ∈ BW := (bw2 35 (by decide +kernel) rfl)
theorem fl_X3_47 : Cond.fieldLink RX3 47 RX3 "denied" "J" ∈ BW := (bw2 38 (by decide +kernel) rfl)
theorem fl_X3_27 : Cond.fieldLink RX3 27 RX3 "force" "I" ∈ BW := (bw2 41 (by decide +kernel) rfl)
theorem nw_X3_58 : (RX3, 58, yX11_set, "CardHall") ∈ NWL := List.mem_of_getElem? (i := 13) rfl
theorem ml_X3_62 : Cond.methodLink RX3 62 yX3_put ∈ BW := (bw4 184 (by decide +kernel) rfl)
theorem ff_3_0 : FF 3 0 RX3 "papers" "LCardHall$Papers;" 3 true := ⟨TX3, 9, tyX3, rfl, uw_3, rfl, by decide, rfl, rfl, tyX3_ok, nmX3⟩
theorem fl_X3_31 : Cond.fieldLink RX3 31 RX3 "papers" "LCardHall$Papers;" ∈ BW := (bw2 29 (by decide +kernel) rfl)
theorem sr_9576 : SR 9576 = some 12 := by decide +kernel
theorem fl_X3_66 : Cond.fieldLink RX3 66 RX6 "motions" "I" ∈ BW := (bw1 190 (by decide +kernel) rfl)
theorem mm_X3_71 : Cond.methodLink RX3 71 Lib.Math.abs.name ∈ BW := (bw5 191 (by decide +kernel) rfl)
theorem ms_abs : Cond.static Lib.Math.abs.name ∈ BW := (bw5 192 (by decide +kernel) rfl)
theorem mc_abs : Cond.code Lib.Math.abs.name Lib.Math.abs.code 1 (some .int) ∈ BW := (bw5 193 (by decide +kernel) rfl)
theorem ff_6_2 : FF 6 2 RX6 "changes" "[I" 3 true := ⟨TX6, 10, tyX6, rfl, uw_6, rfl, by decide, rfl, rfl, tyX6_ok, nmX6⟩
theorem fl_X3_76 : Cond.fieldLink RX3 76 RX6 "changes" "[I" ∈ BW := (bw1 181 (by decide +kernel) rfl)
theorem sr_2538 : SR 2538 = some 15 := by decide +kernel
theorem kt_15 : KT 15 = (1, 40) := by decide +kernel
theorem ff_6_3 : FF 6 3 RX6 "changeSort" "[I" 3 true := ⟨TX6, 10, tyX6, rfl, uw_6, rfl, by decide, rfl, rfl, tyX6_ok, nmX6⟩
theorem fl_X3_79 : Cond.fieldLink RX3 79 RX6 "changeSort" "[I" ∈ BW := (bw1 183 (by decide +kernel) rfl)
theorem sr_2539 : SR 2539 = some 16 := by decide +kernel
theorem kt_16 : KT 16 = (1, 240) := by decide +kernel
theorem ff_6_4 : FF 6 4 RX6 "changeNumber" "[I" 3 true := ⟨TX6, 10, tyX6, rfl, uw_6, rfl, by decide, rfl, rfl, tyX6_ok, nmX6⟩
theorem fl_X3_82 : Cond.fieldLink RX3 82 RX6 "changeNumber" "[I" ∈ BW := (bw1 185 (by decide +kernel) rfl)
theorem sr_2540 : SR 2540 = some 17 := by decide +kernel
theorem kt_17 : KT 17 = (1, 240) := by decide +kernel
theorem vk_X3_find : VOK yX3_find cX3_find 4 (some .int) 2 := ⟨⟨(bw5 197 (by decide +kernel) rfl), (bw1 8 (by decide +kernel) rfl), by decide, by decide, by decide +kernel⟩, (bw5 196 (by decide +kernel) rfl), (bw0 32 (by decide +kernel) rfl)⟩
theorem ml_X3_85 : Cond.methodLink RX3 85 yX3_find ∈ BW := (bw5 194 (by decide +kernel) rfl)
theorem ml_X3_89 : Cond.methodLink RX3 89 yX3_addLine ∈ BW := (bw5 186 (by decide +kernel) rfl)
theorem vk_X3_turnLine : VOK yX3_turnLine cX3_turnLine 5 none 3 := ⟨⟨(bw5 205 (by decide +kernel) rfl), (bw1 8 (by decide +kernel) rfl), by decide, by decide, by decide +kernel⟩, (bw5 204 (by decide +kernel) rfl), (bw0 34 (by decide +kernel) rfl)⟩
theorem ml_X3_96 : Cond.methodLink RX3 96 yX3_turnLine ∈ BW := (bw5 202 (by decide +kernel) rfl)
theorem vk_X3_strikeLine : VOK yX3_strikeLine cX3_strikeLine 5 none 2 := ⟨⟨(bw5 201 (by decide +kernel) rfl), (bw1 8 (by decide +kernel) rfl), by decide, by decide, by decide +kernel⟩, (bw5 200 (by decide +kernel) rfl), (bw0 33 (by decide +kernel) rfl)⟩
theorem ml_X3_93 : Cond.methodLink RX3 93 yX3_strikeLine ∈ BW := (bw5 198 (by decide +kernel) rfl)
theorem ml_X3_100 : Cond.methodLink RX3 100 yX3_sizeOf ∈ BW := (bw5 170 (by decide +kernel) rfl)
theorem ml_X3_103 : Cond.methodLink RX3 103 yX3_lineOf ∈ BW := (bw5 174 (by decide +kernel) rfl)
theorem ml_X3_106 : Cond.methodLink RX3 106 yX3_mustOf ∈ BW := (bw5 178 (by decide +kernel) rfl)
theorem ml_X3_109 : Cond.methodLink RX3 109 yX3_byOf ∈ BW := (bw5 182 (by decide +kernel) rfl)
theorem ff_6_1 : FF 6 1 RX6 "hangsOn" "[I" 3 true := ⟨TX6, 10, tyX6, rfl, uw_6, rfl, by decide, rfl, rfl, tyX6_ok, nmX6⟩
theorem fl_X3_115 : Cond.fieldLink RX3 115 RX6 "hangsOn" "[I" ∈ BW := (bw1 179 (by decide +kernel) rfl)
theorem sr_2537 : SR 2537 = some 14 := by decide +kernel
theorem kt_14 : KT 14 = (1, 40) := by decide +kernel
theorem vk_X3_copyToTrial : VOK yX3_copyToTrial cX3_copyToTrial 3 none 1 := ⟨⟨(bw5 169 (by decide +kernel) rfl), (bw1 8 (by decide +kernel) rfl), by decide, by decide, by decide +kernel⟩, (bw5 168 (by decide +kernel) rfl), (bw0 30 (by decide +kernel) rfl)⟩
theorem ml_X3_118 : Cond.methodLink RX3 118 yX3_copyToTrial ∈ BW := (bw5 166 (by decide +kernel) rfl)
theorem vk_X3_amendRow : VOK yX3_amendRow cX3_amendRow 8 none 2 := ⟨⟨(bw5 190 (by decide +kernel) rfl), (bw1 8 (by decide +kernel) rfl), by decide, by decide, by decide +kernel⟩, (bw5 189 (by decide +kernel) rfl), (bw0 31 (by decide +kernel) rfl)⟩
theorem ml_X3_122 : Cond.methodLink RX3 122 yX3_amendRow ∈ BW := (bw5 187 (by decide +kernel) rfl)
theorem ml_X3_125 : Cond.methodLink RX3 125 yX3_bitsOf ∈ BW := (bw5 206 (by decide +kernel) rfl)
theorem fl_X3_129 : Cond.fieldLink RX3 129 RX6 "amendments" "I" ∈ BW := (bw1 195 (by decide +kernel) rfl)
theorem ml_X3_132 : Cond.methodLink RX3 132 yX3_closeMotion ∈ BW := (bw5 233 (by decide +kernel) rfl)
theorem cl_X3_135 : Cond.constantLong RX3 135 (-1) ∈ BW := (bw5 237 (by decide +kernel) rfl)
theorem vk_X3_areContrary : VOK yX3_areContrary cX3_areContrary 3 (some .boolean) 2 := ⟨⟨(bw6 1 (by decide +kernel) rfl), (bw1 8 (by decide +kernel) rfl), by decide, by decide, by decide +kernel⟩, (bw5 239 (by decide +kernel) rfl), (bw6 0 (by decide +kernel) rfl)⟩
theorem ml_X3_137 : Cond.methodLink RX3 137 yX3_areContrary ∈ BW := (bw5 238 (by decide +kernel) rfl)
theorem fl_X4_22 : Cond.fieldLink RX4 22 RX4 "size" "I" ∈ BW := (bw2 8 (by decide +kernel) rfl)
theorem ff_4_0 : FF 4 0 RX4 "tape" "LCardHall$Tape;" 3 true := ⟨TX4, 4, tyX4, rfl, uw_4, rfl, by decide, rfl, rfl, tyX4_ok, nmX4⟩
theorem fl_X4_18 : Cond.fieldLink RX4 18 RX4 "tape" "LCardHall$Tape;" ∈ BW := (bw2 1 (by decide +kernel) rfl)
theorem sr_9192 : SR 9192 = some 10 := by decide +kernel
theorem vk_X9_begin : VOK yX9_begin cX9_begin 1 none 0 := ⟨⟨(bw3 208 (by decide +kernel) rfl), (bw1 3 (by decide +kernel) rfl), by decide, by decide, by decide +kernel⟩, (bw3 206 (by decide +kernel) rfl), (bw3 207 (by decide +kernel) rfl)⟩
theorem ml_X4_26 : Cond.methodLink RX4 26 yX9_begin ∈ BW := (bw4 203 (by decide +kernel) rfl)
theorem vk_X9_isEnd : VOK yX9_isEnd cX9_isEnd 1 (some .boolean) 0 := ⟨⟨(bw3 226 (by decide +kernel) rfl), (bw1 3 (by decide +kernel) rfl), by decide, by decide, by decide +kernel⟩, (bw3 224 (by decide +kernel) rfl), (bw3 225 (by decide +kernel) rfl)⟩
theorem ml_X4_31 : Cond.methodLink RX4 31 yX9_isEnd ∈ BW := (bw4 204 (by decide +kernel) rfl)
theorem ff_9_2 : FF 9 2 RX9 "kind" "I" 0 false := ⟨TX9, 8, tyX9, rfl, uw_9, rfl, by decide, rfl, rfl, tyX9_ok, nmX9⟩
theorem fl_X9_46 : Cond.fieldLink RX9 46 RX9 "kind" "I" ∈ BW := (bw1 108 (by decide +kernel) rfl)
theorem st_X4_35 : (RX4, 35, "say", 24) ∈ STL := List.mem_of_getElem? (i := 24) rfl
theorem vk_X9_isWord : VOK yX9_isWord cX9_isWord 4 (some .boolean) 1 := ⟨⟨(bw3 239 (by decide +kernel) rfl), (bw1 3 (by decide +kernel) rfl), by decide, by decide, by decide +kernel⟩, (bw3 237 (by decide +kernel) rfl), (bw3 238 (by decide +kernel) rfl)⟩
theorem ml_X4_37 : Cond.methodLink RX4 37 yX9_isWord ∈ BW := (bw4 206 (by decide +kernel) rfl)
theorem vk_X4_readLine : VOK yX4_readLine cX4_readLine 6 (some .int) 1 := ⟨⟨(bw4 211 (by decide +kernel) rfl), (bw1 7 (by decide +kernel) rfl), by decide, by decide, by decide +kernel⟩, (bw4 210 (by decide +kernel) rfl), (bw0 20 (by decide +kernel) rfl)⟩
theorem ml_X4_45 : Cond.methodLink RX4 45 yX4_readLine ∈ BW := (bw4 208 (by decide +kernel) rfl)
theorem vk_X9_next : VOK yX9_next cX9_next 1 none 0 := ⟨⟨(bw3 212 (by decide +kernel) rfl), (bw1 3 (by decide +kernel) rfl), by decide, by decide, by decide +kernel⟩, (bw3 210 (by decide +kernel) rfl), (bw3 211 (by decide +kernel) rfl)⟩
theorem ml_X4_49 : Cond.methodLink RX4 49 yX9_next ∈ BW := (bw4 212 (by decide +kernel) rfl)
theorem vk_X9_fail : VOK yX9_fail cX9_fail 2 (some .boolean) 1 := ⟨⟨(bw4 56 (by decide +kernel) rfl), (bw1 3 (by decide +kernel) rfl), by decide, by decide, by decide +kernel⟩, (bw4 54 (by decide +kernel) rfl), (bw4 55 (by decide +kernel) rfl)⟩
theorem ml_X4_41 : Cond.methodLink RX4 41 yX9_fail ∈ BW := (bw4 207 (by decide +kernel) rfl)
theorem st_X4_52 : (RX4, 52, "not", 10) ∈ STL := List.mem_of_getElem? (i := 25) rfl
theorem vk_X4_takeWord : VOK yX4_takeWord cX4_takeWord 3 (some .boolean) 1 := ⟨⟨(bw4 217 (by decide +kernel) rfl), (bw1 7 (by decide +kernel) rfl), by decide, by decide, by decide +kernel⟩, (bw4 216 (by decide +kernel) rfl), (bw0 21 (by decide +kernel) rfl)⟩
theorem ml_X4_54 : Cond.methodLink RX4 54 yX4_takeWord ∈ BW := (bw4 214 (by decide +kernel) rfl)
theorem vk_X9_takeN : VOK yX9_takeN cX9_takeN 5 (some .int) 2 := ⟨⟨(bw4 179 (by decide +kernel) rfl), (bw1 3 (by decide +kernel) rfl), by decide, by decide, by decide +kernel⟩, (bw4 177 (by decide +kernel) rfl), (bw4 178 (by decide +kernel) rfl)⟩
theorem ml_X4_57 : Cond.methodLink RX4 57 yX9_takeN ∈ BW := (bw4 218 (by decide +kernel) rfl)
theorem ff_9_5 : FF 9 5 RX9 "value" "I" 0 false := ⟨TX9, 8, tyX9, rfl, uw_9, rfl, by decide, rfl, rfl, tyX9_ok, nmX9⟩
theorem fl_X9_49 : Cond.fieldLink RX9 49 RX9 "value" "I" ∈ BW := (bw1 111 (by decide +kernel) rfl)
theorem ml_X9_72 : Cond.methodLink RX9 72 yX9_fail ∈ BW := (bw4 84 (by decide +kernel) rfl)
theorem st_X4_61 : (RX4, 61, "must", 25) ∈ STL := List.mem_of_getElem? (i := 26) rfl
theorem vk_X4_keep : VOK yX4_keep cX4_keep 3 none 2 := ⟨⟨(bw4 223 (by decide +kernel) rfl), (bw1 7 (by decide +kernel) rfl), by decide, by decide, by decide +kernel⟩, (bw4 222 (by decide +kernel) rfl), (bw0 22 (by decide +kernel) rfl)⟩
theorem ml_X4_63 : Cond.methodLink RX4 63 yX4_keep ∈ BW := (bw4 220 (by decide +kernel) rfl)
theorem vk_X9_skipSign : VOK yX9_skipSign cX9_skipSign 2 (some .boolean) 1 := ⟨⟨(bw4 113 (by decide +kernel) rfl), (bw1 3 (by decide +kernel) rfl), by decide, by decide, by decide +kernel⟩, (bw4 111 (by decide +kernel) rfl), (bw4 112 (by decide +kernel) rfl)⟩
theorem ml_X4_67 : Cond.methodLink RX4 67 yX9_skipSign ∈ BW := (bw4 225 (by decide +kernel) rfl)
theorem vk_X9_isSign : VOK yX9_isSign cX9_isSign 2 (some .boolean) 1 := ⟨⟨(bw4 105 (by decide +kernel) rfl), (bw1 3 (by decide +kernel) rfl), by decide, by decide, by decide +kernel⟩, (bw4 103 (by decide +kernel) rfl), (bw4 104 (by decide +kernel) rfl)⟩
theorem ml_X9_68 : Cond.methodLink RX9 68 yX9_isSign ∈ BW := (bw4 114 (by decide +kernel) rfl)
theorem ml_X9_32 : Cond.methodLink RX9 32 yX9_next ∈ BW := (bw3 209 (by decide +kernel) rfl)
theorem st_X4_71 : (RX4, 71, "strike", 26) ∈ STL := List.mem_of_getElem? (i := 27) rfl
theorem st_X4_73 : (RX4, 73, "add", 27) ∈ STL := List.mem_of_getElem? (i := 28) rfl
theorem vk_X4_readChange : VOK yX4_readChange cX4_readChange 4 (some .boolean) 1 := ⟨⟨(bw5 52 (by decide +kernel) rfl), (bw1 7 (by decide +kernel) rfl), by decide, by decide, by decide +kernel⟩, (bw5 51 (by decide +kernel) rfl), (bw0 25 (by decide +kernel) rfl)⟩
theorem ml_X4_77 : Cond.methodLink RX4 77 yX4_readChange ∈ BW := (bw5 49 (by decide +kernel) rfl)
theorem st_X4_75 : (RX4, 75, "turn", 28) ∈ STL := List.mem_of_getElem? (i := 29) rfl
theorem fl_X4_9 : Cond.fieldLink RX4 9 RX4 "number" "[I" ∈ BW := (bw2 2 (by decide +kernel) rfl)
theorem nw_X4_80 : (RX4, 80, yX11_set, "CardHall") ∈ NWL := List.mem_of_getElem? (i := 14) rfl
theorem fl_X4_15 : Cond.fieldLink RX4 15 RX4 "sort" "[I" ∈ BW := (bw2 5 (by decide +kernel) rfl)
theorem ff_5_1 : FF 5 1 RX5 "rules" "LCardHall$Rules;" 3 false := ⟨TX5, 3, tyX5, rfl, uw_5, rfl, by decide, rfl, rfl, tyX5_ok, nmX5⟩
theorem fl_X5_15 : Cond.fieldLink RX5 15 RX5 "rules" "LCardHall$Rules;" ∈ BW := (bw1 226 (by decide +kernel) rfl)
theorem vk_X8_clear : VOK yX8_clear cX8_clear 1 none 0 := ⟨⟨(bw3 203 (by decide +kernel) rfl), (bw1 5 (by decide +kernel) rfl), by decide, by decide, by decide +kernel⟩, (bw3 201 (by decide +kernel) rfl), (bw3 202 (by decide +kernel) rfl)⟩
theorem ml_X5_19 : Cond.methodLink RX5 19 yX8_clear ∈ BW := (bw3 200 (by decide +kernel) rfl)
theorem ff_5_0 : FF 5 0 RX5 "tape" "LCardHall$Tape;" 3 true := ⟨TX5, 3, tyX5, rfl, uw_5, rfl, by decide, rfl, rfl, tyX5_ok, nmX5⟩
theorem fl_X5_9 : Cond.fieldLink RX5 9 RX5 "tape" "LCardHall$Tape;" ∈ BW := (bw1 225 (by decide +kernel) rfl)
theorem sr_9064 : SR 9064 = some 10 := by decide +kernel
theorem ml_X5_24 : Cond.methodLink RX5 24 yX9_begin ∈ BW := (bw3 205 (by decide +kernel) rfl)
theorem vk_X5_clauseAtHand : VOK yX5_clauseAtHand cX5_clauseAtHand 1 (some .int) 0 := ⟨⟨(bw3 234 (by decide +kernel) rfl), (bw1 6 (by decide +kernel) rfl), by decide, by decide, by decide +kernel⟩, (bw3 233 (by decide +kernel) rfl), (bw0 3 (by decide +kernel) rfl)⟩
theorem ml_X5_37 : Cond.methodLink RX5 37 yX5_clauseAtHand ∈ BW := (bw3 231 (by decide +kernel) rfl)
theorem st_X5_85 : (RX5, 85, "pass", 0) ∈ STL := List.mem_of_getElem? (i := 0) rfl
theorem ml_X5_87 : Cond.methodLink RX5 87 yX9_isWord ∈ BW := (bw3 236 (by decide +kernel) rfl)
theorem ml_X5_29 : Cond.methodLink RX5 29 yX9_isEnd ∈ BW := (bw3 223 (by decide +kernel) rfl)
theorem vk_X5_readClause : VOK yX5_readClause cX5_readClause 4 (some .boolean) 1 := ⟨⟨(bw3 230 (by decide +kernel) rfl), (bw1 6 (by decide +kernel) rfl), by decide, by decide, by decide +kernel⟩, (bw3 229 (by decide +kernel) rfl), (bw0 2 (by decide +kernel) rfl)⟩
theorem ml_X5_33 : Cond.methodLink RX5 33 yX5_readClause ∈ BW := (bw3 227 (by decide +kernel) rfl)
theorem ml_X5_41 : Cond.methodLink RX5 41 yX9_fail ∈ BW := (bw4 53 (by decide +kernel) rfl)
theorem ml_X5_44 : Cond.methodLink RX5 44 yX9_next ∈ BW := (bw4 57 (by decide +kernel) rfl)
theorem vk_X5_beginCondition : VOK yX5_beginCondition cX5_beginCondition 3 (some .boolean) 1 := ⟨⟨(bw4 61 (by decide +kernel) rfl), (bw1 6 (by decide +kernel) rfl), by decide, by decide, by decide +kernel⟩, (bw4 60 (by decide +kernel) rfl), (bw0 4 (by decide +kernel) rfl)⟩
theorem ml_X5_47 : Cond.methodLink RX5 47 yX5_beginCondition ∈ BW := (bw4 58 (by decide +kernel) rfl)
theorem vk_X5_either : VOK yX5_either cX5_either 4 (some .boolean) 1 := ⟨⟨(bw4 88 (by decide +kernel) rfl), (bw1 6 (by decide +kernel) rfl), by decide, by decide, by decide +kernel⟩, (bw4 87 (by decide +kernel) rfl), (bw0 7 (by decide +kernel) rfl)⟩
theorem ml_X5_50 : Cond.methodLink RX5 50 yX5_either ∈ BW := (bw4 85 (by decide +kernel) rfl)
theorem ff_5_2 : FF 5 2 RX5 "part" "I" 0 false := ⟨TX5, 3, tyX5, rfl, uw_5, rfl, by decide, rfl, rfl, tyX5_ok, nmX5⟩
theorem fl_X5_53 : Cond.fieldLink RX5 53 RX5 "part" "I" ∈ BW := (bw1 227 (by decide +kernel) rfl)
theorem vk_X8_endPart : VOK yX8_endPart cX8_endPart 2 none 1 := ⟨⟨(bw4 175 (by decide +kernel) rfl), (bw1 5 (by decide +kernel) rfl), by decide, by decide, by decide +kernel⟩, (bw4 173 (by decide +kernel) rfl), (bw4 174 (by decide +kernel) rfl)⟩
theorem ml_X5_57 : Cond.methodLink RX5 57 yX8_endPart ∈ BW := (bw4 172 (by decide +kernel) rfl)
theorem ml_X5_81 : Cond.methodLink RX5 81 yX9_skipSign ∈ BW := (bw4 110 (by decide +kernel) rfl)
theorem vk_X5_beginPart : VOK yX5_beginPart cX5_beginPart 2 none 1 := ⟨⟨(bw4 72 (by decide +kernel) rfl), (bw1 6 (by decide +kernel) rfl), by decide, by decide, by decide +kernel⟩, (bw4 71 (by decide +kernel) rfl), (bw0 6 (by decide +kernel) rfl)⟩
theorem ml_X5_61 : Cond.methodLink RX5 61 yX5_beginPart ∈ BW := (bw4 69 (by decide +kernel) rfl)
theorem vk_X5_sum : VOK yX5_sum cX5_sum 5 (some .boolean) 1 := ⟨⟨(bw4 118 (by decide +kernel) rfl), (bw1 6 (by decide +kernel) rfl), by decide, by decide, by decide +kernel⟩, (bw4 117 (by decide +kernel) rfl), (bw0 12 (by decide +kernel) rfl)⟩
theorem ml_X5_64 : Cond.methodLink RX5 64 yX5_sum ∈ BW := (bw4 115 (by decide +kernel) rfl)
theorem ml_X5_67 : Cond.methodLink RX5 67 yX9_takeN ∈ BW := (bw4 176 (by decide +kernel) rfl)
theorem fl_X5_71 : Cond.fieldLink RX5 71 RX8 "rate" "I" ∈ BW := (bw1 152 (by decide +kernel) rfl)
theorem fl_X5_74 : Cond.fieldLink RX5 74 RX8 "length" "I" ∈ BW := (bw1 156 (by decide +kernel) rfl)
theorem fl_X5_77 : Cond.fieldLink RX5 77 RX8 "binds" "Z" ∈ BW := (bw1 159 (by decide +kernel) rfl)
theorem st_X5_91 : (RX5, 91, "cards", 1) ∈ STL := List.mem_of_getElem? (i := 1) rfl
theorem st_X5_93 : (RX5, 93, "rate", 2) ∈ STL := List.mem_of_getElem? (i := 2) rfl
theorem st_X5_94 : (RX5, 94, "length", 3) ∈ STL := List.mem_of_getElem? (i := 3) rfl
theorem st_X5_95 : (RX5, 95, "bind", 4) ∈ STL := List.mem_of_getElem? (i := 4) rfl
theorem st_X5_97 : (RX5, 97, "late", 5) ∈ STL := List.mem_of_getElem? (i := 5) rfl
theorem st_X5_99 : (RX5, 99, "motion", 6) ∈ STL := List.mem_of_getElem? (i := 6) rfl
theorem st_X5_101 : (RX5, 101, "amend", 7) ∈ STL := List.mem_of_getElem? (i := 7) rfl
theorem st_X5_103 : (RX5, 103, "order", 8) ∈ STL := List.mem_of_getElem? (i := 8) rfl
theorem vk_X5_kindAtHand : VOK yX5_kindAtHand cX5_kindAtHand 1 (some .int) 0 := ⟨⟨(bw4 65 (by decide +kernel) rfl), (bw1 6 (by decide +kernel) rfl), by decide, by decide, by decide +kernel⟩, (bw4 64 (by decide +kernel) rfl), (bw0 5 (by decide +kernel) rfl)⟩
theorem ml_X5_105 : Cond.methodLink RX5 105 yX5_kindAtHand ∈ BW := (bw4 62 (by decide +kernel) rfl)
theorem st_X5_108 : (RX5, 108, "if", 9) ∈ STL := List.mem_of_getElem? (i := 9) rfl
theorem vk_X9_skipWord : VOK yX9_skipWord cX9_skipWord 2 (some .boolean) 1 := ⟨⟨(bw4 82 (by decide +kernel) rfl), (bw1 3 (by decide +kernel) rfl), by decide, by decide, by decide +kernel⟩, (bw4 80 (by decide +kernel) rfl), (bw4 81 (by decide +kernel) rfl)⟩
theorem ml_X5_110 : Cond.methodLink RX5 110 yX9_skipWord ∈ BW := (bw4 79 (by decide +kernel) rfl)
theorem ml_X9_75 : Cond.methodLink RX9 75 yX9_isWord ∈ BW := (bw4 83 (by decide +kernel) rfl)
theorem vk_X8_beginPart : VOK yX8_beginPart cX8_beginPart 2 none 1 := ⟨⟨(bw4 76 (by decide +kernel) rfl), (bw1 5 (by decide +kernel) rfl), by decide, by decide, by decide +kernel⟩, (bw4 74 (by decide +kernel) rfl), (bw4 75 (by decide +kernel) rfl)⟩
theorem ml_X5_113 : Cond.methodLink RX5 113 yX8_beginPart ∈ BW := (bw4 73 (by decide +kernel) rfl)
theorem vk_X5_both : VOK yX5_both cX5_both 4 (some .boolean) 1 := ⟨⟨(bw4 92 (by decide +kernel) rfl), (bw1 6 (by decide +kernel) rfl), by decide, by decide, by decide +kernel⟩, (bw4 91 (by decide +kernel) rfl), (bw0 8 (by decide +kernel) rfl)⟩
theorem ml_X5_114 : Cond.methodLink RX5 114 yX5_both ∈ BW := (bw4 89 (by decide +kernel) rfl)
theorem st_X5_117 : (RX5, 117, "or", 23) ∈ STL := List.mem_of_getElem? (i := 23) rfl
theorem vk_X8_addStep : VOK yX8_addStep cX8_addStep 3 none 2 := ⟨⟨(bw4 134 (by decide +kernel) rfl), (bw1 5 (by decide +kernel) rfl), by decide, by decide, by decide +kernel⟩, (bw4 132 (by decide +kernel) rfl), (bw4 133 (by decide +kernel) rfl)⟩
theorem ml_X5_119 : Cond.methodLink RX5 119 yX8_addStep ∈ BW := (bw4 131 (by decide +kernel) rfl)
theorem vk_X5_piece : VOK yX5_piece cX5_piece 5 (some .boolean) 1 := ⟨⟨(bw4 96 (by decide +kernel) rfl), (bw1 6 (by decide +kernel) rfl), by decide, by decide, by decide +kernel⟩, (bw4 95 (by decide +kernel) rfl), (bw0 9 (by decide +kernel) rfl)⟩
theorem ml_X5_123 : Cond.methodLink RX5 123 yX5_piece ∈ BW := (bw4 93 (by decide +kernel) rfl)
theorem st_X5_126 : (RX5, 126, "and", 22) ∈ STL := List.mem_of_getElem? (i := 22) rfl
theorem vk_X5_skipNots : VOK yX5_skipNots cX5_skipNots 3 (some .boolean) 0 := ⟨⟨(bw4 100 (by decide +kernel) rfl), (bw1 6 (by decide +kernel) rfl), by decide, by decide, by decide +kernel⟩, (bw4 99 (by decide +kernel) rfl), (bw0 10 (by decide +kernel) rfl)⟩
theorem ml_X5_128 : Cond.methodLink RX5 128 yX5_skipNots ∈ BW := (bw4 97 (by decide +kernel) rfl)
theorem ml_X5_131 : Cond.methodLink RX5 131 yX9_isSign ∈ BW := (bw4 102 (by decide +kernel) rfl)
theorem vk_X5_square : VOK yX5_square cX5_square 2 (some .boolean) 1 := ⟨⟨(bw4 109 (by decide +kernel) rfl), (bw1 6 (by decide +kernel) rfl), by decide, by decide, by decide +kernel⟩, (bw4 108 (by decide +kernel) rfl), (bw0 11 (by decide +kernel) rfl)⟩
theorem ml_X5_134 : Cond.methodLink RX5 134 yX5_square ∈ BW := (bw4 106 (by decide +kernel) rfl)
theorem vk_X5_takeComparison : VOK yX5_takeComparison cX5_takeComparison 2 (some .int) 0 := ⟨⟨(bw4 169 (by decide +kernel) rfl), (bw1 6 (by decide +kernel) rfl), by decide, by decide, by decide +kernel⟩, (bw4 168 (by decide +kernel) rfl), (bw0 19 (by decide +kernel) rfl)⟩
theorem ml_X5_137 : Cond.methodLink RX5 137 yX5_takeComparison ∈ BW := (bw4 166 (by decide +kernel) rfl)
theorem st_X5_140 : (RX5, 140, "not", 10) ∈ STL := List.mem_of_getElem? (i := 10) rfl
theorem vk_X5_product : VOK yX5_product cX5_product 5 (some .boolean) 1 := ⟨⟨(bw4 122 (by decide +kernel) rfl), (bw1 6 (by decide +kernel) rfl), by decide, by decide, by decide +kernel⟩, (bw4 121 (by decide +kernel) rfl), (bw0 13 (by decide +kernel) rfl)⟩
theorem ml_X5_142 : Cond.methodLink RX5 142 yX5_product ∈ BW := (bw4 119 (by decide +kernel) rfl)
theorem vk_X5_factor : VOK yX5_factor cX5_factor 2 (some .boolean) 1 := ⟨⟨(bw4 126 (by decide +kernel) rfl), (bw1 6 (by decide +kernel) rfl), by decide, by decide, by decide +kernel⟩, (bw4 125 (by decide +kernel) rfl), (bw0 14 (by decide +kernel) rfl)⟩
theorem ml_X5_145 : Cond.methodLink RX5 145 yX5_factor ∈ BW := (bw4 123 (by decide +kernel) rfl)
theorem vk_X9_isNumber : VOK yX9_isNumber cX9_isNumber 1 (some .boolean) 0 := ⟨⟨(bw4 130 (by decide +kernel) rfl), (bw1 3 (by decide +kernel) rfl), by decide, by decide, by decide +kernel⟩, (bw4 128 (by decide +kernel) rfl), (bw4 129 (by decide +kernel) rfl)⟩
theorem ml_X5_148 : Cond.methodLink RX5 148 yX9_isNumber ∈ BW := (bw4 127 (by decide +kernel) rfl)
theorem fl_X5_151 : Cond.fieldLink RX5 151 RX9 "value" "I" ∈ BW := (bw1 112 (by decide +kernel) rfl)
theorem vk_X9_isAnyWord : VOK yX9_isAnyWord cX9_isAnyWord 1 (some .boolean) 0 := ⟨⟨(bw4 138 (by decide +kernel) rfl), (bw1 3 (by decide +kernel) rfl), by decide, by decide, by decide +kernel⟩, (bw4 136 (by decide +kernel) rfl), (bw4 137 (by decide +kernel) rfl)⟩
theorem ml_X5_154 : Cond.methodLink RX5 154 yX9_isAnyWord ∈ BW := (bw4 135 (by decide +kernel) rfl)
theorem vk_X5_name : VOK yX5_name cX5_name 2 (some .boolean) 0 := ⟨⟨(bw4 142 (by decide +kernel) rfl), (bw1 6 (by decide +kernel) rfl), by decide, by decide, by decide +kernel⟩, (bw4 141 (by decide +kernel) rfl), (bw0 15 (by decide +kernel) rfl)⟩
theorem ml_X5_157 : Cond.methodLink RX5 157 yX5_name ∈ BW := (bw4 139 (by decide +kernel) rfl)
theorem vk_X5_factOfCards : VOK yX5_factOfCards cX5_factOfCards 1 (some .int) 0 := ⟨⟨(bw4 146 (by decide +kernel) rfl), (bw1 6 (by decide +kernel) rfl), by decide, by decide, by decide +kernel⟩, (bw4 145 (by decide +kernel) rfl), (bw0 16 (by decide +kernel) rfl)⟩
theorem ml_X5_160 : Cond.methodLink RX5 160 yX5_factOfCards ∈ BW := (bw4 143 (by decide +kernel) rfl)
theorem st_X5_181 : (RX5, 181, "heads", 11) ∈ STL := List.mem_of_getElem? (i := 11) rfl
theorem vk_X5_factOfLate : VOK yX5_factOfLate cX5_factOfLate 1 (some .int) 0 := ⟨⟨(bw4 154 (by decide +kernel) rfl), (bw1 6 (by decide +kernel) rfl), by decide, by decide, by decide +kernel⟩, (bw4 153 (by decide +kernel) rfl), (bw0 17 (by decide +kernel) rfl)⟩
theorem ml_X5_163 : Cond.methodLink RX5 163 yX5_factOfLate ∈ BW := (bw4 151 (by decide +kernel) rfl)
theorem vk_X5_factOfPass : VOK yX5_factOfPass cX5_factOfPass 1 (some .int) 0 := ⟨⟨(bw4 160 (by decide +kernel) rfl), (bw1 6 (by decide +kernel) rfl), by decide, by decide, by decide +kernel⟩, (bw4 159 (by decide +kernel) rfl), (bw0 18 (by decide +kernel) rfl)⟩
theorem ml_X5_166 : Cond.methodLink RX5 166 yX5_factOfPass ∈ BW := (bw4 157 (by decide +kernel) rfl)
theorem st_X5_169 : (RX5, 169, "yes", 17) ∈ STL := List.mem_of_getElem? (i := 17) rfl
theorem st_X5_171 : (RX5, 171, "no", 18) ∈ STL := List.mem_of_getElem? (i := 18) rfl
theorem st_X5_173 : (RX5, 173, "all", 19) ∈ STL := List.mem_of_getElem? (i := 19) rfl
theorem st_X5_175 : (RX5, 175, "sections", 20) ∈ STL := List.mem_of_getElem? (i := 20) rfl
theorem st_X5_177 : (RX5, 177, "against", 21) ∈ STL := List.mem_of_getElem? (i := 21) rfl
theorem st_X5_179 : (RX5, 179, "day", 16) ∈ STL := List.mem_of_getElem? (i := 16) rfl
theorem st_X5_183 : (RX5, 183, "branches", 12) ∈ STL := List.mem_of_getElem? (i := 12) rfl
theorem st_X5_185 : (RX5, 185, "souls", 13) ∈ STL := List.mem_of_getElem? (i := 13) rfl
theorem st_X5_187 : (RX5, 187, "section", 14) ∈ STL := List.mem_of_getElem? (i := 14) rfl
theorem st_X5_189 : (RX5, 189, "lines", 15) ∈ STL := List.mem_of_getElem? (i := 15) rfl
theorem fl_X6_42 : Cond.fieldLink RX6 42 RX6 "orders" "I" ∈ BW := (bw1 196 (by decide +kernel) rfl)
theorem ml_X6_45 : Cond.methodLink RX6 45 yX6_inForce ∈ BW := (bw3 195 (by decide +kernel) rfl)
theorem fl_X6_15 : Cond.fieldLink RX6 15 RX6 "hangsOn" "[I" ∈ BW := (bw1 178 (by decide +kernel) rfl)
theorem fl_X6_53 : Cond.fieldLink RX6 53 RX6 "amendments" "I" ∈ BW := (bw1 193 (by decide +kernel) rfl)
theorem fl_X6_18 : Cond.fieldLink RX6 18 RX6 "changes" "[I" ∈ BW := (bw1 180 (by decide +kernel) rfl)
theorem fl_X6_56 : Cond.fieldLink RX6 56 RX4 "size" "I" ∈ BW := (bw2 9 (by decide +kernel) rfl)
theorem fl_X6_21 : Cond.fieldLink RX6 21 RX6 "changeSort" "[I" ∈ BW := (bw1 182 (by decide +kernel) rfl)
theorem fl_X6_61 : Cond.fieldLink RX6 61 RX4 "sort" "[I" ∈ BW := (bw2 6 (by decide +kernel) rfl)
theorem nw_X6_64 : (RX6, 64, yX11_at, "CardHall") ∈ NWL := List.mem_of_getElem? (i := 17) rfl
theorem fl_X6_24 : Cond.fieldLink RX6 24 RX6 "changeNumber" "[I" ∈ BW := (bw1 184 (by decide +kernel) rfl)
theorem fl_X6_68 : Cond.fieldLink RX6 68 RX4 "number" "[I" ∈ BW := (bw2 3 (by decide +kernel) rfl)
theorem fl_X7_18 : Cond.fieldLink RX7 18 RX7 "souls" "[I" ∈ BW := (bw1 43 (by decide +kernel) rfl)
theorem nw_X7_57 : (RX7, 57, yX11_at, "CardHall") ∈ NWL := List.mem_of_getElem? (i := 18) rfl
theorem fl_X7_24 : Cond.fieldLink RX7 24 RX7 "who" "[I" ∈ BW := (bw1 47 (by decide +kernel) rfl)
theorem fl_X7_27 : Cond.fieldLink RX7 27 RX7 "matter" "[I" ∈ BW := (bw1 49 (by decide +kernel) rfl)
theorem fl_X7_30 : Cond.fieldLink RX7 30 RX7 "told" "[I" ∈ BW := (bw1 51 (by decide +kernel) rfl)
theorem fl_X7_33 : Cond.fieldLink RX7 33 RX7 "value" "[I" ∈ BW := (bw1 53 (by decide +kernel) rfl)
theorem ff_8_3 : FF 8 3 RX8 "size" "I" 0 false := ⟨TX8, 7, tyX8, rfl, uw_8, rfl, by decide, rfl, rfl, tyX8_ok, nmX8⟩
theorem fl_X8_28 : Cond.fieldLink RX8 28 RX8 "size" "I" ∈ BW := (bw1 150 (by decide +kernel) rfl)
theorem nw_X8_31 : (RX8, 31, yX11_fill, "CardHall") ∈ NWL := List.mem_of_getElem? (i := 10) rfl
theorem fl_X8_21 : Cond.fieldLink RX8 21 RX8 "rate" "I" ∈ BW := (bw1 151 (by decide +kernel) rfl)
theorem fl_X8_25 : Cond.fieldLink RX8 25 RX8 "length" "I" ∈ BW := (bw1 155 (by decide +kernel) rfl)
theorem fl_X8_35 : Cond.fieldLink RX8 35 RX8 "binds" "Z" ∈ BW := (bw1 158 (by decide +kernel) rfl)
theorem nw_X8_39 : (RX8, 39, yX11_set, "CardHall") ∈ NWL := List.mem_of_getElem? (i := 12) rfl
theorem ff_8_0 : FF 8 0 RX8 "steps" "[I" 3 true := ⟨TX8, 7, tyX8, rfl, uw_8, rfl, by decide, rfl, rfl, tyX8_ok, nmX8⟩
theorem fl_X8_9 : Cond.fieldLink RX8 9 RX8 "steps" "[I" ∈ BW := (bw1 147 (by decide +kernel) rfl)
theorem kt_82 : KT 82 = (1, 32) := by decide +kernel
theorem sk_X8_joined : SOK yX8_joined cX8_joined 5 (some .long) 3 := ⟨⟨(bw5 16 (by decide +kernel) rfl), (bw1 5 (by decide +kernel) rfl), by decide, by decide, by decide +kernel⟩, (bw5 15 (by decide +kernel) rfl)⟩
theorem ml_X8_47 : Cond.methodLink RX8 47 yX8_joined ∈ BW := (bw5 14 (by decide +kernel) rfl)
theorem ml_X8_51 : Cond.methodLink RX8 51 yX8_bounded ∈ BW := (bw5 17 (by decide +kernel) rfl)
theorem fl_X9_19 : Cond.fieldLink RX9 19 RX9 "length" "I" ∈ BW := (bw1 106 (by decide +kernel) rfl)
theorem ff_9_0 : FF 9 0 RX9 "bytes" "[I" 3 true := ⟨TX9, 8, tyX9, rfl, uw_9, rfl, by decide, rfl, rfl, tyX9_ok, nmX9⟩
theorem fl_X9_9 : Cond.fieldLink RX9 9 RX9 "bytes" "[I" ∈ BW := (bw1 105 (by decide +kernel) rfl)
theorem sr_2280 : SR 2280 = some 11 := by decide +kernel
theorem nw_X9_22 : (RX9, 22, yX11_set, "CardHall") ∈ NWL := List.mem_of_getElem? (i := 9) rfl
theorem kt_11 : KT 11 = (1, 300) := by decide +kernel
theorem fl_X9_26 : Cond.fieldLink RX9 26 RX9 "fault" "I" ∈ BW := (bw1 113 (by decide +kernel) rfl)
theorem fl_X9_15 : Cond.fieldLink RX9 15 RX9 "place" "I" ∈ BW := (bw1 115 (by decide +kernel) rfl)
theorem ff_9_4 : FF 9 4 RX9 "after" "I" 0 false := ⟨TX9, 8, tyX9, rfl, uw_9, rfl, by decide, rfl, rfl, tyX9_ok, nmX9⟩
theorem fl_X9_29 : Cond.fieldLink RX9 29 RX9 "after" "I" ∈ BW := (bw1 110 (by decide +kernel) rfl)
theorem ff_9_3 : FF 9 3 RX9 "start" "I" 0 false := ⟨TX9, 8, tyX9, rfl, uw_9, rfl, by decide, rfl, rfl, tyX9_ok, nmX9⟩
theorem fl_X9_35 : Cond.fieldLink RX9 35 RX9 "start" "I" ∈ BW := (bw1 109 (by decide +kernel) rfl)
theorem nw_X9_38 : (RX9, 38, yX11_at, "CardHall") ∈ NWL := List.mem_of_getElem? (i := 11) rfl
theorem sk_X9_sortOf : SOK yX9_sortOf cX9_sortOf 1 (some .int) 1 := ⟨⟨(bw3 216 (by decide +kernel) rfl), (bw1 3 (by decide +kernel) rfl), by decide, by decide, by decide +kernel⟩, (bw3 215 (by decide +kernel) rfl)⟩
theorem ml_X9_42 : Cond.methodLink RX9 42 yX9_sortOf ∈ BW := (bw3 214 (by decide +kernel) rfl)
theorem sk_X9_isLetter : SOK yX9_isLetter cX9_isLetter 1 (some .boolean) 1 := ⟨⟨(bw3 219 (by decide +kernel) rfl), (bw1 3 (by decide +kernel) rfl), by decide, by decide, by decide +kernel⟩, (bw3 218 (by decide +kernel) rfl)⟩
theorem ml_X9_52 : Cond.methodLink RX9 52 yX9_isLetter ∈ BW := (bw3 217 (by decide +kernel) rfl)
theorem sk_X9_isFigure : SOK yX9_isFigure cX9_isFigure 1 (some .boolean) 1 := ⟨⟨(bw3 222 (by decide +kernel) rfl), (bw1 3 (by decide +kernel) rfl), by decide, by decide, by decide +kernel⟩, (bw3 221 (by decide +kernel) rfl)⟩
theorem ml_X9_56 : Cond.methodLink RX9 56 yX9_isFigure ∈ BW := (bw3 220 (by decide +kernel) rfl)
theorem ml_X9_59 : Cond.methodLink RX9 59 yJ0_length_8abf5 ∈ BW := (bw4 0 (by decide +kernel) rfl)
theorem ml_X9_64 : Cond.methodLink RX9 64 yJ0_charAt_5068e ∈ BW := (bw4 10 (by decide +kernel) rfl)
theorem ff_10_3 : FF 10 3 RX10 "count" "LCardHall$Count;" 3 true := ⟨TX10, 16, tyX10, rfl, uw_10, rfl, by decide, rfl, rfl, tyX10_ok, nmX10⟩
theorem fl_X10_58 : Cond.fieldLink RX10 58 RX10 "count" "LCardHall$Count;" ∈ BW := (bw2 238 (by decide +kernel) rfl)
theorem sr_13931 : SR 13931 = some 73 := by decide +kernel
theorem ff_10_0 : FF 10 0 RX10 "register" "LCardHall$Register;" 3 true := ⟨TX10, 16, tyX10, rfl, uw_10, rfl, by decide, rfl, rfl, tyX10_ok, nmX10⟩
theorem fl_X10_46 : Cond.fieldLink RX10 46 RX10 "register" "LCardHall$Register;" ∈ BW := (bw2 235 (by decide +kernel) rfl)
theorem sr_13928 : SR 13928 = some 1 := by decide +kernel
theorem fl_X10_70 : Cond.fieldLink RX10 70 RX7 "today" "I" ∈ BW := (bw1 66 (by decide +kernel) rfl)
theorem ml_X10_76 : Cond.methodLink RX10 76 yX2_take ∈ BW := (bw6 183 (by decide +kernel) rfl)
theorem ml_X10_82 : Cond.methodLink RX10 82 yX2_weigh ∈ BW := (bw6 184 (by decide +kernel) rfl)
theorem ml_X10_86 : Cond.methodLink RX10 86 yX2_sumUp ∈ BW := (bw6 185 (by decide +kernel) rfl)
theorem ml_X10_90 : Cond.methodLink RX10 90 yX2_passes ∈ BW := (bw6 190 (by decide +kernel) rfl)
theorem ff_10_2 : FF 10 2 RX10 "floor" "LCardHall$Floor;" 3 true := ⟨TX10, 16, tyX10, rfl, uw_10, rfl, by decide, rfl, rfl, tyX10_ok, nmX10⟩
theorem fl_X10_54 : Cond.fieldLink RX10 54 RX10 "floor" "LCardHall$Floor;" ∈ BW := (bw2 237 (by decide +kernel) rfl)
theorem sr_13930 : SR 13930 = some 67 := by decide +kernel
theorem ml_X10_94 : Cond.methodLink RX10 94 yX3_chosen ∈ BW := (bw6 176 (by decide +kernel) rfl)
theorem fl_X10_100 : Cond.fieldLink RX10 100 RX10 "many" "I" ∈ BW := (bw3 1 (by decide +kernel) rfl)
theorem ff_10_1 : FF 10 1 RX10 "papers" "LCardHall$Papers;" 3 true := ⟨TX10, 16, tyX10, rfl, uw_10, rfl, by decide, rfl, rfl, tyX10_ok, nmX10⟩
theorem fl_X10_50 : Cond.fieldLink RX10 50 RX10 "papers" "LCardHall$Papers;" ∈ BW := (bw2 236 (by decide +kernel) rfl)
theorem sr_13929 : SR 13929 = some 12 := by decide +kernel
theorem fl_X10_103 : Cond.fieldLink RX10 103 RX3 "force" "I" ∈ BW := (bw2 44 (by decide +kernel) rfl)
theorem ml_X10_106 : Cond.methodLink RX10 106 yX6_inForce ∈ BW := (bw6 177 (by decide +kernel) rfl)
theorem vk_X10_countMotion : VOK yX10_countMotion cX10_countMotion 3 none 2 := ⟨⟨(bw6 182 (by decide +kernel) rfl), (bw1 12 (by decide +kernel) rfl), by decide, by decide, by decide +kernel⟩, (bw6 181 (by decide +kernel) rfl), (bw0 46 (by decide +kernel) rfl)⟩
theorem ml_X10_112 : Cond.methodLink RX10 112 yX10_countMotion ∈ BW := (bw6 179 (by decide +kernel) rfl)
theorem ff_10_7 : FF 10 7 RX10 "passFree" "[I" 3 true := ⟨TX10, 16, tyX10, rfl, uw_10, rfl, by decide, rfl, rfl, tyX10_ok, nmX10⟩
theorem fl_X10_18 : Cond.fieldLink RX10 18 RX10 "passFree" "[I" ∈ BW := (bw3 3 (by decide +kernel) rfl)
theorem sr_13935 : SR 13935 = some 104 := by decide +kernel
theorem vk_X10_passesNow : VOK yX10_passesNow cX10_passesNow 3 (some .int) 2 := ⟨⟨(bw6 189 (by decide +kernel) rfl), (bw1 12 (by decide +kernel) rfl), by decide, by decide, by decide +kernel⟩, (bw6 188 (by decide +kernel) rfl), (bw0 47 (by decide +kernel) rfl)⟩
theorem ml_X10_116 : Cond.methodLink RX10 116 yX10_passesNow ∈ BW := (bw6 186 (by decide +kernel) rfl)
theorem kt_104 : KT 104 = (1, 6) := by decide +kernel
theorem ff_10_8 : FF 10 8 RX10 "passAgainst" "[I" 3 true := ⟨TX10, 16, tyX10, rfl, uw_10, rfl, by decide, rfl, rfl, tyX10_ok, nmX10⟩
theorem fl_X10_21 : Cond.fieldLink RX10 21 RX10 "passAgainst" "[I" ∈ BW := (bw3 4 (by decide +kernel) rfl)
theorem sr_13936 : SR 13936 = some 105 := by decide +kernel
theorem kt_105 : KT 105 = (1, 6) := by decide +kernel
theorem ff_10_9 : FF 10 9 RX10 "contraryBits" "[I" 3 true := ⟨TX10, 16, tyX10, rfl, uw_10, rfl, by decide, rfl, rfl, tyX10_ok, nmX10⟩
theorem fl_X10_24 : Cond.fieldLink RX10 24 RX10 "contraryBits" "[I" ∈ BW := (bw3 5 (by decide +kernel) rfl)
theorem sr_13937 : SR 13937 = some 106 := by decide +kernel
theorem vk_X10_contraryTo : VOK yX10_contraryTo cX10_contraryTo 4 (some .int) 1 := ⟨⟨(bw6 194 (by decide +kernel) rfl), (bw1 12 (by decide +kernel) rfl), by decide, by decide, by decide +kernel⟩, (bw6 193 (by decide +kernel) rfl), (bw0 48 (by decide +kernel) rfl)⟩
theorem ml_X10_120 : Cond.methodLink RX10 120 yX10_contraryTo ∈ BW := (bw6 191 (by decide +kernel) rfl)
theorem kt_106 : KT 106 = (1, 6) := by decide +kernel
theorem ff_10_10 : FF 10 10 RX10 "saidBits" "[J" 3 true := ⟨TX10, 16, tyX10, rfl, uw_10, rfl, by decide, rfl, rfl, tyX10_ok, nmX10⟩
theorem fl_X10_27 : Cond.fieldLink RX10 27 RX10 "saidBits" "[J" ∈ BW := (bw3 6 (by decide +kernel) rfl)
theorem sr_13938 : SR 13938 = some 107 := by decide +kernel
theorem ml_X10_124 : Cond.methodLink RX10 124 yX3_bitsOf ∈ BW := (bw6 196 (by decide +kernel) rfl)
theorem nw_X10_128 : (RX10, 128, yX11_set_, "CardHall") ∈ NWL := List.mem_of_getElem? (i := 32) rfl
theorem kt_107 : KT 107 = (2, 6) := by decide +kernel
theorem ff_10_11 : FF 10 11 RX10 "deniedBits" "[J" 3 true := ⟨TX10, 16, tyX10, rfl, uw_10, rfl, by decide, rfl, rfl, tyX10_ok, nmX10⟩
theorem fl_X10_31 : Cond.fieldLink RX10 31 RX10 "deniedBits" "[J" ∈ BW := (bw3 7 (by decide +kernel) rfl)
theorem sr_13939 : SR 13939 = some 108 := by decide +kernel
theorem kt_108 : KT 108 = (2, 6) := by decide +kernel
theorem ml_X10_131 : Cond.methodLink RX10 131 yX3_areContrary ∈ BW := (bw6 195 (by decide +kernel) rfl)
theorem ff_10_12 : FF 10 12 RX10 "order" "[I" 3 true := ⟨TX10, 16, tyX10, rfl, uw_10, rfl, by decide, rfl, rfl, tyX10_ok, nmX10⟩
theorem fl_X10_34 : Cond.fieldLink RX10 34 RX10 "order" "[I" ∈ BW := (bw3 8 (by decide +kernel) rfl)
theorem sr_13940 : SR 13940 = some 109 := by decide +kernel
theorem kt_109 : KT 109 = (1, 6) := by decide +kernel
theorem fl_X10_135 : Cond.fieldLink RX10 135 RX3 "said" "J" ∈ BW := (bw2 36 (by decide +kernel) rfl)
theorem fl_X10_139 : Cond.fieldLink RX10 139 RX3 "denied" "J" ∈ BW := (bw2 39 (by decide +kernel) rfl)
theorem nw_X10_142 : (RX10, 142, yX11_at_, "CardHall") ∈ NWL := List.mem_of_getElem? (i := 33) rfl
theorem vk_X10_worthFor : VOK yX10_worthFor cX10_worthFor 3 (some .int) 2 := ⟨⟨(bw6 210 (by decide +kernel) rfl), (bw1 12 (by decide +kernel) rfl), by decide, by decide, by decide +kernel⟩, (bw6 209 (by decide +kernel) rfl), (bw0 49 (by decide +kernel) rfl)⟩
theorem ml_X10_145 : Cond.methodLink RX10 145 yX10_worthFor ∈ BW := (bw6 207 (by decide +kernel) rfl)
theorem cl_X10_149 : Cond.constantLong RX10 149 (-1) ∈ BW := (bw6 211 (by decide +kernel) rfl)
theorem ml_X10_151 : Cond.methodLink RX10 151 yX10_along ∈ BW := (bw6 220 (by decide +kernel) rfl)
theorem nw_X10_154 : (RX10, 154, yX11_copy, "CardHall") ∈ NWL := List.mem_of_getElem? (i := 34) rfl
theorem vk_X10_nextOrder : VOK yX10_nextOrder cX10_nextOrder 5 (some .boolean) 0 := ⟨⟨(bw6 225 (by decide +kernel) rfl), (bw1 12 (by decide +kernel) rfl), by decide, by decide, by decide +kernel⟩, (bw6 224 (by decide +kernel) rfl), (bw0 50 (by decide +kernel) rfl)⟩
theorem ml_X10_158 : Cond.methodLink RX10 158 yX10_nextOrder ∈ BW := (bw6 222 (by decide +kernel) rfl)
theorem vk_X10_swap : VOK yX10_swap cX10_swap 4 none 2 := ⟨⟨(bw6 229 (by decide +kernel) rfl), (bw1 12 (by decide +kernel) rfl), by decide, by decide, by decide +kernel⟩, (bw6 228 (by decide +kernel) rfl), (bw0 51 (by decide +kernel) rfl)⟩
theorem ml_X10_162 : Cond.methodLink RX10 162 yX10_swap ∈ BW := (bw6 226 (by decide +kernel) rfl)
theorem fl_X10_165 : Cond.fieldLink RX10 165 RX6 "motions" "I" ∈ BW := (bw1 192 (by decide +kernel) rfl)
theorem vk_X10_findChanges : VOK yX10_findChanges cX10_findChanges 6 none 1 := ⟨⟨(bw7 5 (by decide +kernel) rfl), (bw1 12 (by decide +kernel) rfl), by decide, by decide, by decide +kernel⟩, (bw7 4 (by decide +kernel) rfl), (bw0 52 (by decide +kernel) rfl)⟩
theorem ml_X10_167 : Cond.methodLink RX10 167 yX10_findChanges ∈ BW := (bw7 2 (by decide +kernel) rfl)
theorem nw_X10_170 : (RX10, 170, yX11_fill, "CardHall") ∈ NWL := List.mem_of_getElem? (i := 35) rfl
theorem fl_X10_174 : Cond.fieldLink RX10 174 RX7 "affiliates" "I" ∈ BW := (bw1 57 (by decide +kernel) rfl)
theorem vk_X10_findDealOf : VOK yX10_findDealOf cX10_findDealOf 5 none 2 := ⟨⟨(bw7 13 (by decide +kernel) rfl), (bw1 12 (by decide +kernel) rfl), by decide, by decide, by decide +kernel⟩, (bw7 12 (by decide +kernel) rfl), (bw0 53 (by decide +kernel) rfl)⟩
theorem ml_X10_177 : Cond.methodLink RX10 177 yX10_findDealOf ∈ BW := (bw7 10 (by decide +kernel) rfl)
theorem ff_10_14 : FF 10 14 RX10 "change" "[I" 3 true := ⟨TX10, 16, tyX10, rfl, uw_10, rfl, by decide, rfl, rfl, tyX10_ok, nmX10⟩
theorem fl_X10_40 : Cond.fieldLink RX10 40 RX10 "change" "[I" ∈ BW := (bw3 10 (by decide +kernel) rfl)
theorem sr_13942 : SR 13942 = some 111 := by decide +kernel
theorem kt_111 : KT 111 = (1, 288) := by decide +kernel
theorem ml_X10_180 : Cond.methodLink RX10 180 yX3_stateOf ∈ BW := (bw7 6 (by decide +kernel) rfl)
theorem ml_X10_183 : Cond.methodLink RX10 183 yX3_against ∈ BW := (bw7 7 (by decide +kernel) rfl)
theorem ml_X10_186 : Cond.methodLink RX10 186 yX2_voiceTaken ∈ BW := (bw7 8 (by decide +kernel) rfl)
theorem vk_X10_keepIfBetter : VOK yX10_keepIfBetter cX10_keepIfBetter 9 none 4 := ⟨⟨(bw7 17 (by decide +kernel) rfl), (bw1 12 (by decide +kernel) rfl), by decide, by decide, by decide +kernel⟩, (bw7 16 (by decide +kernel) rfl), (bw0 54 (by decide +kernel) rfl)⟩
theorem ml_X10_189 : Cond.methodLink RX10 189 yX10_keepIfBetter ∈ BW := (bw7 14 (by decide +kernel) rfl)
theorem cs_J6_265 : Cond.constant RJ6 265 (Int32.ofInt (1431655765)) ∈ BW := (bw5 222 (by decide +kernel) rfl)
theorem cs_J6_266 : Cond.constant RJ6 266 (Int32.ofInt (858993459)) ∈ BW := (bw5 223 (by decide +kernel) rfl)
theorem cs_J6_267 : Cond.constant RJ6 267 (Int32.ofInt (252645135)) ∈ BW := (bw5 224 (by decide +kernel) rfl)
theorem cl_J13_314 : Cond.constantLong RJ13 314 (6148914691236517205) ∈ BW := (bw6 90 (by decide +kernel) rfl)
theorem cl_J13_316 : Cond.constantLong RJ13 316 (3689348814741910323) ∈ BW := (bw6 91 (by decide +kernel) rfl)
theorem cl_J13_318 : Cond.constantLong RJ13 318 (1085102592571150095) ∈ BW := (bw6 92 (by decide +kernel) rfl)
theorem kt_18 : KT 18 = (5, 10) := by decide +kernel
theorem ff_6_6 : FF 6 6 RX6 "noOrders" "LCardHall$Rules;" 3 true := ⟨TX6, 10, tyX6, rfl, uw_6, rfl, by decide, rfl, rfl, tyX6_ok, nmX6⟩
theorem ff_6_5 : FF 6 5 RX6 "rules" "[LCardHall$Rules;" 3 true := ⟨TX6, 10, tyX6, rfl, uw_6, rfl, by decide, rfl, rfl, tyX6_ok, nmX6⟩
theorem fl_X6_34 : Cond.fieldLink RX6 34 RX6 "noOrders" "LCardHall$Rules;" ∈ BW := (bw1 188 (by decide +kernel) rfl)
theorem fl_X6_29 : Cond.fieldLink RX6 29 RX6 "rules" "[LCardHall$Rules;" ∈ BW := (bw1 186 (by decide +kernel) rfl)
theorem sr_2542 : SR 2542 = some 19 := by decide +kernel
theorem sr_2541 : SR 2541 = some 18 := by decide +kernel
