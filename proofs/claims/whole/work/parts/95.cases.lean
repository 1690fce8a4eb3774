/-! THE LAW: its calls, one by one (made by law.py) -/
theorem ml_L_19 : Cond.methodLink RL 19 yX11_affiliate ∈ BW := (bw3 76 (by decide +kernel) rfl)
theorem vk_X11_affiliate : VOK yX11_affiliate cX11_affiliate 2 (some .int) 1 := ⟨⟨(bw3 79 (by decide +kernel) rfl), (bw1 1 (by decide +kernel) rfl), by decide, by decide, by decide +kernel⟩, (bw3 77 (by decide +kernel) rfl), (bw3 78 (by decide +kernel) rfl)⟩
theorem ml_L_23 : Cond.methodLink RL 23 yX12_affiliate ∈ BW := (bw8 147 (by decide +kernel) rfl)
theorem vk_X12_affiliate : VOK yX12_affiliate cX12_affiliate 2 (some .int) 1 := ⟨⟨(bw8 150 (by decide +kernel) rfl), (bw1 13 (by decide +kernel) rfl), by decide, by decide, by decide +kernel⟩, (bw8 148 (by decide +kernel) rfl), (bw8 149 (by decide +kernel) rfl)⟩
theorem ml_L_24 : Cond.methodLink RL 24 yX11_branch ∈ BW := (bw3 87 (by decide +kernel) rfl)
theorem vk_X11_branch : VOK yX11_branch cX11_branch 3 (some .int) 2 := ⟨⟨(bw3 90 (by decide +kernel) rfl), (bw1 1 (by decide +kernel) rfl), by decide, by decide, by decide +kernel⟩, (bw3 88 (by decide +kernel) rfl), (bw3 89 (by decide +kernel) rfl)⟩
theorem ml_L_27 : Cond.methodLink RL 27 yX12_branch ∈ BW := (bw8 154 (by decide +kernel) rfl)
theorem vk_X12_branch : VOK yX12_branch cX12_branch 3 (some .int) 2 := ⟨⟨(bw8 157 (by decide +kernel) rfl), (bw1 13 (by decide +kernel) rfl), by decide, by decide, by decide +kernel⟩, (bw8 155 (by decide +kernel) rfl), (bw8 156 (by decide +kernel) rfl)⟩
theorem ml_L_28 : Cond.methodLink RL 28 yX11_heads ∈ BW := (bw3 99 (by decide +kernel) rfl)
theorem vk_X11_heads : VOK yX11_heads cX11_heads 3 (some .boolean) 2 := ⟨⟨(bw3 102 (by decide +kernel) rfl), (bw1 1 (by decide +kernel) rfl), by decide, by decide, by decide +kernel⟩, (bw3 100 (by decide +kernel) rfl), (bw3 101 (by decide +kernel) rfl)⟩
theorem ml_L_32 : Cond.methodLink RL 32 yX12_heads ∈ BW := (bw8 195 (by decide +kernel) rfl)
theorem vk_X12_heads : VOK yX12_heads cX12_heads 3 (some .boolean) 2 := ⟨⟨(bw8 198 (by decide +kernel) rfl), (bw1 13 (by decide +kernel) rfl), by decide, by decide, by decide +kernel⟩, (bw8 196 (by decide +kernel) rfl), (bw8 197 (by decide +kernel) rfl)⟩
theorem ml_L_33 : Cond.methodLink RL 33 yX11_dues ∈ BW := (bw3 108 (by decide +kernel) rfl)
theorem vk_X11_dues : VOK yX11_dues cX11_dues 3 (some .boolean) 2 := ⟨⟨(bw3 111 (by decide +kernel) rfl), (bw1 1 (by decide +kernel) rfl), by decide, by decide, by decide +kernel⟩, (bw3 109 (by decide +kernel) rfl), (bw3 110 (by decide +kernel) rfl)⟩
theorem ml_L_36 : Cond.methodLink RL 36 yX12_dues ∈ BW := (bw8 203 (by decide +kernel) rfl)
theorem vk_X12_dues : VOK yX12_dues cX12_dues 3 (some .boolean) 2 := ⟨⟨(bw8 206 (by decide +kernel) rfl), (bw1 13 (by decide +kernel) rfl), by decide, by decide, by decide +kernel⟩, (bw8 204 (by decide +kernel) rfl), (bw8 205 (by decide +kernel) rfl)⟩
theorem ml_L_37 : Cond.methodLink RL 37 yX11_mandate ∈ BW := (bw3 113 (by decide +kernel) rfl)
theorem vk_X11_mandate : VOK yX11_mandate cX11_mandate 4 (some .boolean) 3 := ⟨⟨(bw3 116 (by decide +kernel) rfl), (bw1 1 (by decide +kernel) rfl), by decide, by decide, by decide +kernel⟩, (bw3 114 (by decide +kernel) rfl), (bw3 115 (by decide +kernel) rfl)⟩
theorem ml_L_41 : Cond.methodLink RL 41 yX12_mandate ∈ BW := (bw8 208 (by decide +kernel) rfl)
theorem vk_X12_mandate : VOK yX12_mandate cX12_mandate 4 (some .boolean) 3 := ⟨⟨(bw8 211 (by decide +kernel) rfl), (bw1 13 (by decide +kernel) rfl), by decide, by decide, by decide +kernel⟩, (bw8 209 (by decide +kernel) rfl), (bw8 210 (by decide +kernel) rfl)⟩
theorem ml_L_42 : Cond.methodLink RL 42 yX11_casts ∈ BW := (bw3 132 (by decide +kernel) rfl)
theorem vk_X11_casts : VOK yX11_casts cX11_casts 4 (some .boolean) 3 := ⟨⟨(bw3 135 (by decide +kernel) rfl), (bw1 1 (by decide +kernel) rfl), by decide, by decide, by decide +kernel⟩, (bw3 133 (by decide +kernel) rfl), (bw3 134 (by decide +kernel) rfl)⟩
theorem ml_L_45 : Cond.methodLink RL 45 yX12_casts ∈ BW := (bw8 212 (by decide +kernel) rfl)
theorem vk_X12_casts : VOK yX12_casts cX12_casts 5 (some .boolean) 3 := ⟨⟨(bw8 215 (by decide +kernel) rfl), (bw1 13 (by decide +kernel) rfl), by decide, by decide, by decide +kernel⟩, (bw8 213 (by decide +kernel) rfl), (bw8 214 (by decide +kernel) rfl)⟩
theorem ml_L_46 : Cond.methodLink RL 46 yX11_day ∈ BW := (bw3 165 (by decide +kernel) rfl)
theorem vk_X11_day : VOK yX11_day cX11_day 2 (some .int) 1 := ⟨⟨(bw3 168 (by decide +kernel) rfl), (bw1 1 (by decide +kernel) rfl), by decide, by decide, by decide +kernel⟩, (bw3 166 (by decide +kernel) rfl), (bw3 167 (by decide +kernel) rfl)⟩
theorem ml_L_49 : Cond.methodLink RL 49 yX12_day ∈ BW := (bw8 162 (by decide +kernel) rfl)
theorem vk_X12_day : VOK yX12_day cX12_day 2 (some .int) 1 := ⟨⟨(bw8 165 (by decide +kernel) rfl), (bw1 13 (by decide +kernel) rfl), by decide, by decide, by decide +kernel⟩, (bw8 163 (by decide +kernel) rfl), (bw8 164 (by decide +kernel) rfl)⟩
theorem ml_L_50 : Cond.methodLink RL 50 yX11_closing ∈ BW := (bw3 170 (by decide +kernel) rfl)
theorem vk_X11_closing : VOK yX11_closing cX11_closing 2 (some .boolean) 1 := ⟨⟨(bw3 173 (by decide +kernel) rfl), (bw1 1 (by decide +kernel) rfl), by decide, by decide, by decide +kernel⟩, (bw3 171 (by decide +kernel) rfl), (bw3 172 (by decide +kernel) rfl)⟩
theorem ml_L_54 : Cond.methodLink RL 54 yX12_closing ∈ BW := (bw8 167 (by decide +kernel) rfl)
theorem vk_X12_closing : VOK yX12_closing cX12_closing 2 (some .boolean) 1 := ⟨⟨(bw8 170 (by decide +kernel) rfl), (bw1 13 (by decide +kernel) rfl), by decide, by decide, by decide +kernel⟩, (bw8 168 (by decide +kernel) rfl), (bw8 169 (by decide +kernel) rfl)⟩
theorem ml_L_55 : Cond.methodLink RL 55 yX11_feed ∈ BW := (bw3 174 (by decide +kernel) rfl)
theorem vk_X11_feed : VOK yX11_feed cX11_feed 6 (some .int) 5 := ⟨⟨(bw3 177 (by decide +kernel) rfl), (bw1 1 (by decide +kernel) rfl), by decide, by decide, by decide +kernel⟩, (bw3 175 (by decide +kernel) rfl), (bw3 176 (by decide +kernel) rfl)⟩
theorem ml_L_59 : Cond.methodLink RL 59 yX12_feed ∈ BW := (bw9 8 (by decide +kernel) rfl)
theorem vk_X12_feed : VOK yX12_feed cX12_feed 8 (some .int) 5 := ⟨⟨(bw9 11 (by decide +kernel) rfl), (bw1 13 (by decide +kernel) rfl), by decide, by decide, by decide +kernel⟩, (bw9 9 (by decide +kernel) rfl), (bw9 10 (by decide +kernel) rfl)⟩
theorem ml_L_60 : Cond.methodLink RL 60 yX11_end ∈ BW := (bw3 183 (by decide +kernel) rfl)
theorem vk_X11_end : VOK yX11_end cX11_end 2 (some .int) 1 := ⟨⟨(bw3 186 (by decide +kernel) rfl), (bw1 1 (by decide +kernel) rfl), by decide, by decide, by decide +kernel⟩, (bw3 184 (by decide +kernel) rfl), (bw3 185 (by decide +kernel) rfl)⟩
theorem ml_L_63 : Cond.methodLink RL 63 yX12_end ∈ BW := (bw9 12 (by decide +kernel) rfl)
theorem vk_X12_end : VOK yX12_end cX12_end 2 (some .int) 1 := ⟨⟨(bw9 15 (by decide +kernel) rfl), (bw1 13 (by decide +kernel) rfl), by decide, by decide, by decide +kernel⟩, (bw9 13 (by decide +kernel) rfl), (bw9 14 (by decide +kernel) rfl)⟩
theorem ml_L_64 : Cond.methodLink RL 64 yX11_orders ∈ BW := (bw3 187 (by decide +kernel) rfl)
theorem vk_X11_orders : VOK yX11_orders cX11_orders 3 (some .int) 0 := ⟨⟨(bw3 190 (by decide +kernel) rfl), (bw1 1 (by decide +kernel) rfl), by decide, by decide, by decide +kernel⟩, (bw3 188 (by decide +kernel) rfl), (bw3 189 (by decide +kernel) rfl)⟩
theorem ml_L_68 : Cond.methodLink RL 68 yX12_orders ∈ BW := (bw9 20 (by decide +kernel) rfl)
theorem vk_X12_orders : VOK yX12_orders cX12_orders 5 (some .int) 0 := ⟨⟨(bw9 23 (by decide +kernel) rfl), (bw1 13 (by decide +kernel) rfl), by decide, by decide, by decide +kernel⟩, (bw9 21 (by decide +kernel) rfl), (bw9 22 (by decide +kernel) rfl)⟩
theorem ml_L_69 : Cond.methodLink RL 69 yX11_motion ∈ BW := (bw4 195 (by decide +kernel) rfl)
theorem vk_X11_motion : VOK yX11_motion cX11_motion 5 (some .int) 1 := ⟨⟨(bw4 198 (by decide +kernel) rfl), (bw1 1 (by decide +kernel) rfl), by decide, by decide, by decide +kernel⟩, (bw4 196 (by decide +kernel) rfl), (bw4 197 (by decide +kernel) rfl)⟩
theorem ml_L_72 : Cond.methodLink RL 72 yX12_motion ∈ BW := (bw9 193 (by decide +kernel) rfl)
theorem vk_X12_motion : VOK yX12_motion cX12_motion 3 (some .int) 1 := ⟨⟨(bw9 196 (by decide +kernel) rfl), (bw1 13 (by decide +kernel) rfl), by decide, by decide, by decide +kernel⟩, (bw9 194 (by decide +kernel) rfl), (bw9 195 (by decide +kernel) rfl)⟩
theorem ml_L_73 : Cond.methodLink RL 73 yX11_amend ∈ BW := (bw5 34 (by decide +kernel) rfl)
theorem vk_X11_amend : VOK yX11_amend cX11_amend 4 (some .int) 1 := ⟨⟨(bw5 37 (by decide +kernel) rfl), (bw1 1 (by decide +kernel) rfl), by decide, by decide, by decide +kernel⟩, (bw5 35 (by decide +kernel) rfl), (bw5 36 (by decide +kernel) rfl)⟩
theorem ml_L_76 : Cond.methodLink RL 76 yX12_amend ∈ BW := (bw9 219 (by decide +kernel) rfl)
theorem vk_X12_amend : VOK yX12_amend cX12_amend 4 (some .int) 1 := ⟨⟨(bw9 222 (by decide +kernel) rfl), (bw1 13 (by decide +kernel) rfl), by decide, by decide, by decide +kernel⟩, (bw9 220 (by decide +kernel) rfl), (bw9 221 (by decide +kernel) rfl)⟩
theorem ml_L_77 : Cond.methodLink RL 77 yX11_place ∈ BW := (bw5 58 (by decide +kernel) rfl)
theorem vk_X11_place : VOK yX11_place cX11_place 1 (some .int) 0 := ⟨⟨(bw5 61 (by decide +kernel) rfl), (bw1 1 (by decide +kernel) rfl), by decide, by decide, by decide +kernel⟩, (bw5 59 (by decide +kernel) rfl), (bw5 60 (by decide +kernel) rfl)⟩
theorem ml_L_80 : Cond.methodLink RL 80 yX12_place ∈ BW := (bw9 16 (by decide +kernel) rfl)
theorem vk_X12_place : VOK yX12_place cX12_place 1 (some .int) 0 := ⟨⟨(bw9 19 (by decide +kernel) rfl), (bw1 13 (by decide +kernel) rfl), by decide, by decide, by decide +kernel⟩, (bw9 17 (by decide +kernel) rfl), (bw9 18 (by decide +kernel) rfl)⟩
theorem ml_L_81 : Cond.methodLink RL 81 yX11_paid ∈ BW := (bw5 62 (by decide +kernel) rfl)
theorem vk_X11_paid : VOK yX11_paid cX11_paid 3 (some .int) 2 := ⟨⟨(bw5 65 (by decide +kernel) rfl), (bw1 1 (by decide +kernel) rfl), by decide, by decide, by decide +kernel⟩, (bw5 63 (by decide +kernel) rfl), (bw5 64 (by decide +kernel) rfl)⟩
theorem ml_L_84 : Cond.methodLink RL 84 yX12_paid ∈ BW := (bw9 148 (by decide +kernel) rfl)
theorem vk_X12_paid : VOK yX12_paid cX12_paid 3 (some .int) 2 := ⟨⟨(bw9 151 (by decide +kernel) rfl), (bw1 13 (by decide +kernel) rfl), by decide, by decide, by decide +kernel⟩, (bw9 149 (by decide +kernel) rfl), (bw9 150 (by decide +kernel) rfl)⟩
theorem ml_L_85 : Cond.methodLink RL 85 yX11_cards ∈ BW := (bw5 71 (by decide +kernel) rfl)
theorem vk_X11_cards : VOK yX11_cards cX11_cards 3 (some .int) 2 := ⟨⟨(bw5 74 (by decide +kernel) rfl), (bw1 1 (by decide +kernel) rfl), by decide, by decide, by decide +kernel⟩, (bw5 72 (by decide +kernel) rfl), (bw5 73 (by decide +kernel) rfl)⟩
theorem ml_L_88 : Cond.methodLink RL 88 yX12_cards ∈ BW := (bw9 156 (by decide +kernel) rfl)
theorem vk_X12_cards : VOK yX12_cards cX12_cards 3 (some .int) 2 := ⟨⟨(bw9 159 (by decide +kernel) rfl), (bw1 13 (by decide +kernel) rfl), by decide, by decide, by decide +kernel⟩, (bw9 157 (by decide +kernel) rfl), (bw9 158 (by decide +kernel) rfl)⟩
theorem ml_L_89 : Cond.methodLink RL 89 yX11_voice ∈ BW := (bw5 91 (by decide +kernel) rfl)
theorem vk_X11_voice : VOK yX11_voice cX11_voice 5 (some .int) 4 := ⟨⟨(bw5 94 (by decide +kernel) rfl), (bw1 1 (by decide +kernel) rfl), by decide, by decide, by decide +kernel⟩, (bw5 92 (by decide +kernel) rfl), (bw5 93 (by decide +kernel) rfl)⟩
theorem ml_L_93 : Cond.methodLink RL 93 yX12_voice ∈ BW := (bw8 232 (by decide +kernel) rfl)
theorem vk_X12_voice : VOK yX12_voice cX12_voice 5 (some .int) 4 := ⟨⟨(bw8 235 (by decide +kernel) rfl), (bw1 13 (by decide +kernel) rfl), by decide, by decide, by decide +kernel⟩, (bw8 233 (by decide +kernel) rfl), (bw8 234 (by decide +kernel) rfl)⟩
theorem ml_L_94 : Cond.methodLink RL 94 yX11_counted ∈ BW := (bw5 96 (by decide +kernel) rfl)
theorem vk_X11_counted : VOK yX11_counted cX11_counted 4 (some .int) 3 := ⟨⟨(bw5 99 (by decide +kernel) rfl), (bw1 1 (by decide +kernel) rfl), by decide, by decide, by decide +kernel⟩, (bw5 97 (by decide +kernel) rfl), (bw5 98 (by decide +kernel) rfl)⟩
theorem ml_L_98 : Cond.methodLink RL 98 yX12_counted ∈ BW := (bw9 178 (by decide +kernel) rfl)
theorem vk_X12_counted : VOK yX12_counted cX12_counted 4 (some .int) 3 := ⟨⟨(bw9 181 (by decide +kernel) rfl), (bw1 13 (by decide +kernel) rfl), by decide, by decide, by decide +kernel⟩, (bw9 179 (by decide +kernel) rfl), (bw9 180 (by decide +kernel) rfl)⟩
theorem ml_L_99 : Cond.methodLink RL 99 yX11_broken ∈ BW := (bw5 122 (by decide +kernel) rfl)
theorem vk_X11_broken : VOK yX11_broken cX11_broken 3 (some .int) 2 := ⟨⟨(bw5 125 (by decide +kernel) rfl), (bw1 1 (by decide +kernel) rfl), by decide, by decide, by decide +kernel⟩, (bw5 123 (by decide +kernel) rfl), (bw5 124 (by decide +kernel) rfl)⟩
theorem ml_L_102 : Cond.methodLink RL 102 yX12_broken ∈ BW := (bw9 4 (by decide +kernel) rfl)
theorem vk_X12_broken : VOK yX12_broken cX12_broken 7 (some .int) 2 := ⟨⟨(bw9 7 (by decide +kernel) rfl), (bw1 13 (by decide +kernel) rfl), by decide, by decide, by decide +kernel⟩, (bw9 5 (by decide +kernel) rfl), (bw9 6 (by decide +kernel) rfl)⟩
theorem ml_L_103 : Cond.methodLink RL 103 yX11_decide ∈ BW := (bw5 130 (by decide +kernel) rfl)
theorem vk_X11_decide : VOK yX11_decide cX11_decide 2 (some .int) 1 := ⟨⟨(bw5 133 (by decide +kernel) rfl), (bw1 1 (by decide +kernel) rfl), by decide, by decide, by decide +kernel⟩, (bw5 131 (by decide +kernel) rfl), (bw5 132 (by decide +kernel) rfl)⟩
theorem ml_L_106 : Cond.methodLink RL 106 yX12_decide ∈ BW := (bw9 234 (by decide +kernel) rfl)
theorem vk_X12_decide : VOK yX12_decide cX12_decide 3 (some .int) 1 := ⟨⟨(bw9 237 (by decide +kernel) rfl), (bw1 13 (by decide +kernel) rfl), by decide, by decide, by decide +kernel⟩, (bw9 235 (by decide +kernel) rfl), (bw9 236 (by decide +kernel) rfl)⟩
theorem ml_L_107 : Cond.methodLink RL 107 yX11_voids ∈ BW := (bw6 12 (by decide +kernel) rfl)
theorem vk_X11_voids : VOK yX11_voids cX11_voids 2 (some .int) 1 := ⟨⟨(bw6 15 (by decide +kernel) rfl), (bw1 1 (by decide +kernel) rfl), by decide, by decide, by decide +kernel⟩, (bw6 13 (by decide +kernel) rfl), (bw6 14 (by decide +kernel) rfl)⟩
theorem ml_L_110 : Cond.methodLink RL 110 yX12_voids ∈ BW := (bw10 49 (by decide +kernel) rfl)
theorem vk_X12_voids : VOK yX12_voids cX12_voids 3 (some .int) 1 := ⟨⟨(bw10 52 (by decide +kernel) rfl), (bw1 13 (by decide +kernel) rfl), by decide, by decide, by decide +kernel⟩, (bw10 50 (by decide +kernel) rfl), (bw10 51 (by decide +kernel) rfl)⟩
theorem ml_L_120 : Cond.methodLink RL 120 yX11_how ∈ BW := (bw6 30 (by decide +kernel) rfl)
theorem vk_X11_how : VOK yX11_how cX11_how 2 (some .int) 1 := ⟨⟨(bw6 33 (by decide +kernel) rfl), (bw1 1 (by decide +kernel) rfl), by decide, by decide, by decide +kernel⟩, (bw6 31 (by decide +kernel) rfl), (bw6 32 (by decide +kernel) rfl)⟩
theorem ml_L_123 : Cond.methodLink RL 123 yX12_how ∈ BW := (bw8 171 (by decide +kernel) rfl)
theorem vk_X12_how : VOK yX12_how cX12_how 2 (some .int) 1 := ⟨⟨(bw8 174 (by decide +kernel) rfl), (bw1 13 (by decide +kernel) rfl), by decide, by decide, by decide +kernel⟩, (bw8 172 (by decide +kernel) rfl), (bw8 173 (by decide +kernel) rfl)⟩
theorem ml_L_124 : Cond.methodLink RL 124 yX11_line ∈ BW := (bw6 34 (by decide +kernel) rfl)
theorem vk_X11_line : VOK yX11_line cX11_line 5 (some .int) 3 := ⟨⟨(bw6 37 (by decide +kernel) rfl), (bw1 1 (by decide +kernel) rfl), by decide, by decide, by decide +kernel⟩, (bw6 35 (by decide +kernel) rfl), (bw6 36 (by decide +kernel) rfl)⟩
theorem ml_L_127 : Cond.methodLink RL 127 yX12_line ∈ BW := (bw8 187 (by decide +kernel) rfl)
theorem vk_X12_line : VOK yX12_line cX12_line 5 (some .int) 3 := ⟨⟨(bw8 190 (by decide +kernel) rfl), (bw1 13 (by decide +kernel) rfl), by decide, by decide, by decide +kernel⟩, (bw8 188 (by decide +kernel) rfl), (bw8 189 (by decide +kernel) rfl)⟩
theorem ml_L_128 : Cond.methodLink RL 128 yX11_stands ∈ BW := (bw6 42 (by decide +kernel) rfl)
theorem vk_X11_stands : VOK yX11_stands cX11_stands 2 (some .int) 1 := ⟨⟨(bw6 45 (by decide +kernel) rfl), (bw1 1 (by decide +kernel) rfl), by decide, by decide, by decide +kernel⟩, (bw6 43 (by decide +kernel) rfl), (bw6 44 (by decide +kernel) rfl)⟩
theorem ml_L_131 : Cond.methodLink RL 131 yX12_stands ∈ BW := (bw8 191 (by decide +kernel) rfl)
theorem vk_X12_stands : VOK yX12_stands cX12_stands 2 (some .int) 1 := ⟨⟨(bw8 194 (by decide +kernel) rfl), (bw1 13 (by decide +kernel) rfl), by decide, by decide, by decide +kernel⟩, (bw8 192 (by decide +kernel) rfl), (bw8 193 (by decide +kernel) rfl)⟩
theorem ml_L_132 : Cond.methodLink RL 132 yX11_lost ∈ BW := (bw6 46 (by decide +kernel) rfl)
theorem vk_X11_lost : VOK yX11_lost cX11_lost 2 (some .int) 1 := ⟨⟨(bw6 49 (by decide +kernel) rfl), (bw1 1 (by decide +kernel) rfl), by decide, by decide, by decide +kernel⟩, (bw6 47 (by decide +kernel) rfl), (bw6 48 (by decide +kernel) rfl)⟩
theorem ml_L_135 : Cond.methodLink RL 135 yX12_lost ∈ BW := (bw10 61 (by decide +kernel) rfl)
theorem vk_X12_lost : VOK yX12_lost cX12_lost 2 (some .int) 1 := ⟨⟨(bw10 64 (by decide +kernel) rfl), (bw1 13 (by decide +kernel) rfl), by decide, by decide, by decide +kernel⟩, (bw10 62 (by decide +kernel) rfl), (bw10 63 (by decide +kernel) rfl)⟩
theorem ml_L_136 : Cond.methodLink RL 136 yX11_composite ∈ BW := (bw6 98 (by decide +kernel) rfl)
theorem vk_X11_composite : VOK yX11_composite cX11_composite 2 (some .int) 1 := ⟨⟨(bw6 101 (by decide +kernel) rfl), (bw1 1 (by decide +kernel) rfl), by decide, by decide, by decide +kernel⟩, (bw6 99 (by decide +kernel) rfl), (bw6 100 (by decide +kernel) rfl)⟩
theorem ml_L_139 : Cond.methodLink RL 139 yX12_composite ∈ BW := (bw10 80 (by decide +kernel) rfl)
theorem vk_X12_composite : VOK yX12_composite cX12_composite 4 (some .int) 1 := ⟨⟨(bw10 83 (by decide +kernel) rfl), (bw1 13 (by decide +kernel) rfl), by decide, by decide, by decide +kernel⟩, (bw10 81 (by decide +kernel) rfl), (bw10 82 (by decide +kernel) rfl)⟩
theorem ml_L_140 : Cond.methodLink RL 140 yX11_group ∈ BW := (bw6 110 (by decide +kernel) rfl)
theorem vk_X11_group : VOK yX11_group cX11_group 3 (some .int) 2 := ⟨⟨(bw6 113 (by decide +kernel) rfl), (bw1 1 (by decide +kernel) rfl), by decide, by decide, by decide +kernel⟩, (bw6 111 (by decide +kernel) rfl), (bw6 112 (by decide +kernel) rfl)⟩
theorem ml_L_143 : Cond.methodLink RL 143 yX12_group ∈ BW := (bw10 84 (by decide +kernel) rfl)
theorem vk_X12_group : VOK yX12_group cX12_group 3 (some .int) 2 := ⟨⟨(bw10 87 (by decide +kernel) rfl), (bw1 13 (by decide +kernel) rfl), by decide, by decide, by decide +kernel⟩, (bw10 85 (by decide +kernel) rfl), (bw10 86 (by decide +kernel) rfl)⟩
theorem ml_L_144 : Cond.methodLink RL 144 yX11_grouped ∈ BW := (bw6 139 (by decide +kernel) rfl)
theorem vk_X11_grouped : VOK yX11_grouped cX11_grouped 4 (some .int) 3 := ⟨⟨(bw6 142 (by decide +kernel) rfl), (bw1 1 (by decide +kernel) rfl), by decide, by decide, by decide +kernel⟩, (bw6 140 (by decide +kernel) rfl), (bw6 141 (by decide +kernel) rfl)⟩
theorem ml_L_147 : Cond.methodLink RL 147 yX12_grouped ∈ BW := (bw10 104 (by decide +kernel) rfl)
theorem vk_X12_grouped : VOK yX12_grouped cX12_grouped 5 (some .int) 3 := ⟨⟨(bw10 107 (by decide +kernel) rfl), (bw1 13 (by decide +kernel) rfl), by decide, by decide, by decide +kernel⟩, (bw10 105 (by decide +kernel) rfl), (bw10 106 (by decide +kernel) rfl)⟩
theorem ml_L_148 : Cond.methodLink RL 148 yX11_would ∈ BW := (bw6 147 (by decide +kernel) rfl)
theorem vk_X11_would : VOK yX11_would cX11_would 3 (some .int) 2 := ⟨⟨(bw6 150 (by decide +kernel) rfl), (bw1 1 (by decide +kernel) rfl), by decide, by decide, by decide +kernel⟩, (bw6 148 (by decide +kernel) rfl), (bw6 149 (by decide +kernel) rfl)⟩
theorem ml_L_151 : Cond.methodLink RL 151 yX12_would ∈ BW := (bw10 108 (by decide +kernel) rfl)
theorem vk_X12_would : VOK yX12_would cX12_would 3 (some .int) 2 := ⟨⟨(bw10 111 (by decide +kernel) rfl), (bw1 13 (by decide +kernel) rfl), by decide, by decide, by decide +kernel⟩, (bw10 109 (by decide +kernel) rfl), (bw10 110 (by decide +kernel) rfl)⟩
theorem ml_L_152 : Cond.methodLink RL 152 yX11_worth ∈ BW := (bw6 159 (by decide +kernel) rfl)
theorem vk_X11_worth : VOK yX11_worth cX11_worth 4 (some .boolean) 3 := ⟨⟨(bw6 162 (by decide +kernel) rfl), (bw1 1 (by decide +kernel) rfl), by decide, by decide, by decide +kernel⟩, (bw6 160 (by decide +kernel) rfl), (bw6 161 (by decide +kernel) rfl)⟩
theorem ml_L_155 : Cond.methodLink RL 155 yX12_worth ∈ BW := (bw10 116 (by decide +kernel) rfl)
theorem vk_X12_worth : VOK yX12_worth cX12_worth 4 (some .boolean) 3 := ⟨⟨(bw10 119 (by decide +kernel) rfl), (bw1 13 (by decide +kernel) rfl), by decide, by decide, by decide +kernel⟩, (bw10 117 (by decide +kernel) rfl), (bw10 118 (by decide +kernel) rfl)⟩
theorem ml_L_156 : Cond.methodLink RL 156 yX11_inOrder ∈ BW := (bw6 168 (by decide +kernel) rfl)
theorem vk_X11_inOrder : VOK yX11_inOrder cX11_inOrder 4 (some .int) 3 := ⟨⟨(bw6 171 (by decide +kernel) rfl), (bw1 1 (by decide +kernel) rfl), by decide, by decide, by decide +kernel⟩, (bw6 169 (by decide +kernel) rfl), (bw6 170 (by decide +kernel) rfl)⟩
theorem ml_L_159 : Cond.methodLink RL 159 yX12_inOrder ∈ BW := (bw10 120 (by decide +kernel) rfl)
theorem vk_X12_inOrder : VOK yX12_inOrder cX12_inOrder 8 (some .int) 3 := ⟨⟨(bw10 123 (by decide +kernel) rfl), (bw1 13 (by decide +kernel) rfl), by decide, by decide, by decide +kernel⟩, (bw10 121 (by decide +kernel) rfl), (bw10 122 (by decide +kernel) rfl)⟩
theorem ml_L_160 : Cond.methodLink RL 160 yX11_best ∈ BW := (bw6 212 (by decide +kernel) rfl)
theorem vk_X11_best : VOK yX11_best cX11_best 5 (some .int) 3 := ⟨⟨(bw6 215 (by decide +kernel) rfl), (bw1 1 (by decide +kernel) rfl), by decide, by decide, by decide +kernel⟩, (bw6 213 (by decide +kernel) rfl), (bw6 214 (by decide +kernel) rfl)⟩
theorem ml_L_163 : Cond.methodLink RL 163 yX12_best ∈ BW := (bw10 132 (by decide +kernel) rfl)
theorem vk_X12_best : VOK yX12_best cX12_best 7 (some .int) 3 := ⟨⟨(bw10 135 (by decide +kernel) rfl), (bw1 13 (by decide +kernel) rfl), by decide, by decide, by decide +kernel⟩, (bw10 133 (by decide +kernel) rfl), (bw10 134 (by decide +kernel) rfl)⟩
theorem ml_L_164 : Cond.methodLink RL 164 yX11_deal ∈ BW := (bw6 234 (by decide +kernel) rfl)
theorem vk_X11_deal : VOK yX11_deal cX11_deal 2 (some .int) 1 := ⟨⟨(bw6 237 (by decide +kernel) rfl), (bw1 1 (by decide +kernel) rfl), by decide, by decide, by decide +kernel⟩, (bw6 235 (by decide +kernel) rfl), (bw6 236 (by decide +kernel) rfl)⟩
theorem ml_L_167 : Cond.methodLink RL 167 yX12_deal ∈ BW := (bw10 144 (by decide +kernel) rfl)
theorem vk_X12_deal : VOK yX12_deal cX12_deal 2 (some .int) 1 := ⟨⟨(bw10 147 (by decide +kernel) rfl), (bw1 13 (by decide +kernel) rfl), by decide, by decide, by decide +kernel⟩, (bw10 145 (by decide +kernel) rfl), (bw10 146 (by decide +kernel) rfl)⟩
theorem ml_L_168 : Cond.methodLink RL 168 yX11_count ∈ BW := (bw7 22 (by decide +kernel) rfl)
theorem vk_X11_count : VOK yX11_count cX11_count 2 (some .int) 1 := ⟨⟨(bw7 25 (by decide +kernel) rfl), (bw1 1 (by decide +kernel) rfl), by decide, by decide, by decide +kernel⟩, (bw7 23 (by decide +kernel) rfl), (bw7 24 (by decide +kernel) rfl)⟩
theorem ml_L_171 : Cond.methodLink RL 171 yX12_count ∈ BW := (bw10 160 (by decide +kernel) rfl)
theorem vk_X12_count : VOK yX12_count cX12_count 4 (some .int) 1 := ⟨⟨(bw10 163 (by decide +kernel) rfl), (bw1 13 (by decide +kernel) rfl), by decide, by decide, by decide +kernel⟩, (bw10 161 (by decide +kernel) rfl), (bw10 162 (by decide +kernel) rfl)⟩
theorem lc_0 {l : Launch} {Γ : Gam} {b L i : Nat} {xs : Nat → Int32} {nm : String} {g ca sl : Nat} {μ : Mem} (hL : L ≤ 3072) (hi : i + 5 < L) (hca : ca ≤ 601024) (hsl : sl ≤ 7293034) (hI : Inv μ) (kk : ∀ ν : Mem, Inv ν → SWQ l Γ RL cL_law (YL nm) (QL Γ b L xs) g 175 ca sl ν 1462 (LVL Γ b i) []) : SWQ l Γ RL cL_law (YL nm) (QL Γ b L xs) g 175 ca sl μ 196 (LVL Γ b i) [] := by
  have h0 := st_affiliate (rg32 (xs (i + 1))) μ hI
  refine z_rload_n dL_law_196 rfl 1 rfl ?_
  refine z_arg 1 (by omega) hL rfl rfl dL_law_197 dL_law_198 dL_law_200 dL_law_201 dL_law_202 rfl rfl rfl rfl ?_
  refine z_VI (i_H_affiliate hI.1 h0) vk_X11_affiliate kt_0 (by decide) rfl ml_L_19 ⟨Nat.le_of_ble_eq_true rfl, Nat.le_of_ble_eq_true rfl⟩ ⟨hca, hsl⟩ rfl rfl (Nat.le_of_ble_eq_true rfl) dL_law_203 (fun r1 ν1 s1 h1 => ?_)
  refine z_rload_n dL_law_206 rfl 2 rfl ?_
  refine z_arg 1 (by omega) hL rfl rfl dL_law_207 dL_law_208 dL_law_210 dL_law_211 dL_law_212 rfl rfl rfl rfl ?_
  refine z_VI (i_M_affiliate s1 h1) vk_X12_affiliate kt_113 (by decide) rfl ml_L_23 ⟨Nat.le_of_ble_eq_true rfl, Nat.le_of_ble_eq_true rfl⟩ ⟨hca, hsl⟩ rfl rfl (Nat.le_of_ble_eq_true rfl) dL_law_213 (fun r2 ν2 s2 h2 => ?_)
  obtain ⟨e2, i2⟩ := h2
  refine z_icmp_eq (A := True) (B := False) (tgt := 1462) dL_law_216 rfl (by rw [e2, if_pos rfl]; trivial) (fun _ => ?_) (fun z => z.elim)
  exact kk ν2 i2
theorem lc_1 {l : Launch} {Γ : Gam} {b L i : Nat} {xs : Nat → Int32} {nm : String} {g ca sl : Nat} {μ : Mem} (hL : L ≤ 3072) (hi : i + 5 < L) (hca : ca ≤ 601024) (hsl : sl ≤ 7293034) (hI : Inv μ) (kk : ∀ ν : Mem, Inv ν → SWQ l Γ RL cL_law (YL nm) (QL Γ b L xs) g 175 ca sl ν 1462 (LVL Γ b i) []) : SWQ l Γ RL cL_law (YL nm) (QL Γ b L xs) g 175 ca sl μ 221 (LVL Γ b i) [] := by
  have h0 := st_branch (rg32 (xs (i + 1))) (rg32 (xs (i + 2))) μ hI
  refine z_rload_n dL_law_221 rfl 1 rfl ?_
  refine z_arg 1 (by omega) hL rfl rfl dL_law_222 dL_law_223 dL_law_225 dL_law_226 dL_law_227 rfl rfl rfl rfl ?_
  refine z_arg 2 (by omega) hL rfl rfl dL_law_228 dL_law_229 dL_law_231 dL_law_232 dL_law_233 rfl rfl rfl rfl ?_
  refine z_VI (i_H_branch hI.1 h0) vk_X11_branch kt_0 (by decide) rfl ml_L_24 ⟨Nat.le_of_ble_eq_true rfl, Nat.le_of_ble_eq_true rfl⟩ ⟨hca, hsl⟩ rfl rfl (Nat.le_of_ble_eq_true rfl) dL_law_234 (fun r1 ν1 s1 h1 => ?_)
  refine z_rload_n dL_law_237 rfl 2 rfl ?_
  refine z_arg 1 (by omega) hL rfl rfl dL_law_238 dL_law_239 dL_law_241 dL_law_242 dL_law_243 rfl rfl rfl rfl ?_
  refine z_arg 2 (by omega) hL rfl rfl dL_law_244 dL_law_245 dL_law_247 dL_law_248 dL_law_249 rfl rfl rfl rfl ?_
  refine z_VI (i_M_branch s1 h1) vk_X12_branch kt_113 (by decide) rfl ml_L_27 ⟨Nat.le_of_ble_eq_true rfl, Nat.le_of_ble_eq_true rfl⟩ ⟨hca, hsl⟩ rfl rfl (Nat.le_of_ble_eq_true rfl) dL_law_250 (fun r2 ν2 s2 h2 => ?_)
  obtain ⟨e2, i2⟩ := h2
  refine z_icmp_eq (A := True) (B := False) (tgt := 1462) dL_law_253 rfl (by rw [e2, if_pos rfl]; trivial) (fun _ => ?_) (fun z => z.elim)
  exact kk ν2 i2
theorem lc_2 {l : Launch} {Γ : Gam} {b L i : Nat} {xs : Nat → Int32} {nm : String} {g ca sl : Nat} {μ : Mem} (hL : L ≤ 3072) (hi : i + 5 < L) (hca : ca ≤ 601024) (hsl : sl ≤ 7293034) (hI : Inv μ) (kk : ∀ ν : Mem, Inv ν → SWQ l Γ RL cL_law (YL nm) (QL Γ b L xs) g 175 ca sl ν 1462 (LVL Γ b i) []) : SWQ l Γ RL cL_law (YL nm) (QL Γ b L xs) g 175 ca sl μ 258 (LVL Γ b i) [] := by
  have h0 := st_heads (rg32 (xs (i + 1))) (rg32 (xs (i + 2))) μ hI
  refine z_rload_n dL_law_258 rfl 1 rfl ?_
  refine z_arg 1 (by omega) hL rfl rfl dL_law_259 dL_law_260 dL_law_262 dL_law_263 dL_law_264 rfl rfl rfl rfl ?_
  refine z_arg 2 (by omega) hL rfl rfl dL_law_265 dL_law_266 dL_law_268 dL_law_269 dL_law_270 rfl rfl rfl rfl ?_
  refine z_VB (i_H_heads hI.1 h0) vk_X11_heads kt_0 (by decide) rfl ml_L_28 ⟨Nat.le_of_ble_eq_true rfl, Nat.le_of_ble_eq_true rfl⟩ ⟨hca, hsl⟩ rfl rfl (Nat.le_of_ble_eq_true rfl) dL_law_271 (fun r1 ν1 s1 h1 => ?_)
  refine z_rload_n dL_law_274 rfl 2 rfl ?_
  refine z_arg 1 (by omega) hL rfl rfl dL_law_275 dL_law_276 dL_law_278 dL_law_279 dL_law_280 rfl rfl rfl rfl ?_
  refine z_arg 2 (by omega) hL rfl rfl dL_law_281 dL_law_282 dL_law_284 dL_law_285 dL_law_286 rfl rfl rfl rfl ?_
  refine z_VB (i_M_heads s1 h1) vk_X12_heads kt_113 (by decide) rfl ml_L_32 ⟨Nat.le_of_ble_eq_true rfl, Nat.le_of_ble_eq_true rfl⟩ ⟨hca, hsl⟩ rfl rfl (Nat.le_of_ble_eq_true rfl) dL_law_287 (fun r2 ν2 s2 h2 => ?_)
  obtain ⟨e2, i2⟩ := h2
  refine z_icmp_eq (A := True) (B := False) (tgt := 1462) dL_law_290 rfl (by rw [e2, if_pos rfl]; trivial) (fun _ => ?_) (fun z => z.elim)
  exact kk ν2 i2
theorem lc_3 {l : Launch} {Γ : Gam} {b L i : Nat} {xs : Nat → Int32} {nm : String} {g ca sl : Nat} {μ : Mem} (hL : L ≤ 3072) (hi : i + 5 < L) (hca : ca ≤ 601024) (hsl : sl ≤ 7293034) (hI : Inv μ) (kk : ∀ ν : Mem, Inv ν → SWQ l Γ RL cL_law (YL nm) (QL Γ b L xs) g 175 ca sl ν 1462 (LVL Γ b i) []) : SWQ l Γ RL cL_law (YL nm) (QL Γ b L xs) g 175 ca sl μ 295 (LVL Γ b i) [] := by
  have h0 := st_dues (rg32 (xs (i + 1))) (rg32 (xs (i + 2))) μ hI
  refine z_rload_n dL_law_295 rfl 1 rfl ?_
  refine z_arg 1 (by omega) hL rfl rfl dL_law_296 dL_law_297 dL_law_299 dL_law_300 dL_law_301 rfl rfl rfl rfl ?_
  refine z_arg 2 (by omega) hL rfl rfl dL_law_302 dL_law_303 dL_law_305 dL_law_306 dL_law_307 rfl rfl rfl rfl ?_
  refine z_VB (i_H_dues hI.1 h0) vk_X11_dues kt_0 (by decide) rfl ml_L_33 ⟨Nat.le_of_ble_eq_true rfl, Nat.le_of_ble_eq_true rfl⟩ ⟨hca, hsl⟩ rfl rfl (Nat.le_of_ble_eq_true rfl) dL_law_308 (fun r1 ν1 s1 h1 => ?_)
  refine z_rload_n dL_law_311 rfl 2 rfl ?_
  refine z_arg 1 (by omega) hL rfl rfl dL_law_312 dL_law_313 dL_law_315 dL_law_316 dL_law_317 rfl rfl rfl rfl ?_
  refine z_arg 2 (by omega) hL rfl rfl dL_law_318 dL_law_319 dL_law_321 dL_law_322 dL_law_323 rfl rfl rfl rfl ?_
  refine z_VB (i_M_dues s1 h1) vk_X12_dues kt_113 (by decide) rfl ml_L_36 ⟨Nat.le_of_ble_eq_true rfl, Nat.le_of_ble_eq_true rfl⟩ ⟨hca, hsl⟩ rfl rfl (Nat.le_of_ble_eq_true rfl) dL_law_324 (fun r2 ν2 s2 h2 => ?_)
  obtain ⟨e2, i2⟩ := h2
  refine z_icmp_eq (A := True) (B := False) (tgt := 1462) dL_law_327 rfl (by rw [e2, if_pos rfl]; trivial) (fun _ => ?_) (fun z => z.elim)
  exact kk ν2 i2
theorem lc_4 {l : Launch} {Γ : Gam} {b L i : Nat} {xs : Nat → Int32} {nm : String} {g ca sl : Nat} {μ : Mem} (hL : L ≤ 3072) (hi : i + 5 < L) (hca : ca ≤ 601024) (hsl : sl ≤ 7293034) (hI : Inv μ) (kk : ∀ ν : Mem, Inv ν → SWQ l Γ RL cL_law (YL nm) (QL Γ b L xs) g 175 ca sl ν 1462 (LVL Γ b i) []) : SWQ l Γ RL cL_law (YL nm) (QL Γ b L xs) g 175 ca sl μ 332 (LVL Γ b i) [] := by
  have h0 := st_mandate (rg32 (xs (i + 1))) (rg32 (xs (i + 2))) (rg32 (xs (i + 3))) μ hI
  refine z_rload_n dL_law_332 rfl 1 rfl ?_
  refine z_arg 1 (by omega) hL rfl rfl dL_law_333 dL_law_334 dL_law_336 dL_law_337 dL_law_338 rfl rfl rfl rfl ?_
  refine z_arg 2 (by omega) hL rfl rfl dL_law_339 dL_law_340 dL_law_342 dL_law_343 dL_law_344 rfl rfl rfl rfl ?_
  refine z_arg 3 (by omega) hL rfl rfl dL_law_345 dL_law_346 dL_law_348 dL_law_349 dL_law_350 rfl rfl rfl rfl ?_
  refine z_VB (i_H_mandate hI.1 h0) vk_X11_mandate kt_0 (by decide) rfl ml_L_37 ⟨Nat.le_of_ble_eq_true rfl, Nat.le_of_ble_eq_true rfl⟩ ⟨hca, hsl⟩ rfl rfl (Nat.le_of_ble_eq_true rfl) dL_law_351 (fun r1 ν1 s1 h1 => ?_)
  refine z_rload_n dL_law_354 rfl 2 rfl ?_
  refine z_arg 1 (by omega) hL rfl rfl dL_law_355 dL_law_356 dL_law_358 dL_law_359 dL_law_360 rfl rfl rfl rfl ?_
  refine z_arg 2 (by omega) hL rfl rfl dL_law_361 dL_law_362 dL_law_364 dL_law_365 dL_law_366 rfl rfl rfl rfl ?_
  refine z_arg 3 (by omega) hL rfl rfl dL_law_367 dL_law_368 dL_law_370 dL_law_371 dL_law_372 rfl rfl rfl rfl ?_
  refine z_VB (i_M_mandate s1 h1) vk_X12_mandate kt_113 (by decide) rfl ml_L_41 ⟨Nat.le_of_ble_eq_true rfl, Nat.le_of_ble_eq_true rfl⟩ ⟨hca, hsl⟩ rfl rfl (Nat.le_of_ble_eq_true rfl) dL_law_373 (fun r2 ν2 s2 h2 => ?_)
  obtain ⟨e2, i2⟩ := h2
  refine z_icmp_eq (A := True) (B := False) (tgt := 1462) dL_law_376 rfl (by rw [e2, if_pos rfl]; trivial) (fun _ => ?_) (fun z => z.elim)
  exact kk ν2 i2
theorem lc_5 {l : Launch} {Γ : Gam} {b L i : Nat} {xs : Nat → Int32} {nm : String} {g ca sl : Nat} {μ : Mem} (hL : L ≤ 3072) (hi : i + 5 < L) (hca : ca ≤ 601024) (hsl : sl ≤ 7293034) (hI : Inv μ) (kk : ∀ ν : Mem, Inv ν → SWQ l Γ RL cL_law (YL nm) (QL Γ b L xs) g 175 ca sl ν 1462 (LVL Γ b i) []) : SWQ l Γ RL cL_law (YL nm) (QL Γ b L xs) g 175 ca sl μ 381 (LVL Γ b i) [] := by
  have h0 := st_casts (rg32 (xs (i + 1))) (rg32 (xs (i + 2))) (rg32 (xs (i + 3))) μ hI
  refine z_rload_n dL_law_381 rfl 1 rfl ?_
  refine z_arg 1 (by omega) hL rfl rfl dL_law_382 dL_law_383 dL_law_385 dL_law_386 dL_law_387 rfl rfl rfl rfl ?_
  refine z_arg 2 (by omega) hL rfl rfl dL_law_388 dL_law_389 dL_law_391 dL_law_392 dL_law_393 rfl rfl rfl rfl ?_
  refine z_arg 3 (by omega) hL rfl rfl dL_law_394 dL_law_395 dL_law_397 dL_law_398 dL_law_399 rfl rfl rfl rfl ?_
  refine z_VB (i_H_casts hI.1 h0) vk_X11_casts kt_0 (by decide) rfl ml_L_42 ⟨Nat.le_of_ble_eq_true rfl, Nat.le_of_ble_eq_true rfl⟩ ⟨hca, hsl⟩ rfl rfl (Nat.le_of_ble_eq_true rfl) dL_law_400 (fun r1 ν1 s1 h1 => ?_)
  refine z_rload_n dL_law_403 rfl 2 rfl ?_
  refine z_arg 1 (by omega) hL rfl rfl dL_law_404 dL_law_405 dL_law_407 dL_law_408 dL_law_409 rfl rfl rfl rfl ?_
  refine z_arg 2 (by omega) hL rfl rfl dL_law_410 dL_law_411 dL_law_413 dL_law_414 dL_law_415 rfl rfl rfl rfl ?_
  refine z_arg 3 (by omega) hL rfl rfl dL_law_416 dL_law_417 dL_law_419 dL_law_420 dL_law_421 rfl rfl rfl rfl ?_
  refine z_VB (i_M_casts s1 h1) vk_X12_casts kt_113 (by decide) rfl ml_L_45 ⟨Nat.le_of_ble_eq_true rfl, Nat.le_of_ble_eq_true rfl⟩ ⟨hca, hsl⟩ rfl rfl (Nat.le_of_ble_eq_true rfl) dL_law_422 (fun r2 ν2 s2 h2 => ?_)
  obtain ⟨e2, i2⟩ := h2
  refine z_icmp_eq (A := True) (B := False) (tgt := 1462) dL_law_425 rfl (by rw [e2, if_pos rfl]; trivial) (fun _ => ?_) (fun z => z.elim)
  exact kk ν2 i2
theorem lc_6 {l : Launch} {Γ : Gam} {b L i : Nat} {xs : Nat → Int32} {nm : String} {g ca sl : Nat} {μ : Mem} (hL : L ≤ 3072) (hi : i + 5 < L) (hca : ca ≤ 601024) (hsl : sl ≤ 7293034) (hI : Inv μ) (kk : ∀ ν : Mem, Inv ν → SWQ l Γ RL cL_law (YL nm) (QL Γ b L xs) g 175 ca sl ν 1462 (LVL Γ b i) []) : SWQ l Γ RL cL_law (YL nm) (QL Γ b L xs) g 175 ca sl μ 430 (LVL Γ b i) [] := by
  have h0 := st_day (rg32 (xs (i + 1))) μ hI
  refine z_rload_n dL_law_430 rfl 1 rfl ?_
  refine z_arg 1 (by omega) hL rfl rfl dL_law_431 dL_law_432 dL_law_434 dL_law_435 dL_law_436 rfl rfl rfl rfl ?_
  refine z_VI (i_H_day hI.1 h0) vk_X11_day kt_0 (by decide) rfl ml_L_46 ⟨Nat.le_of_ble_eq_true rfl, Nat.le_of_ble_eq_true rfl⟩ ⟨hca, hsl⟩ rfl rfl (Nat.le_of_ble_eq_true rfl) dL_law_437 (fun r1 ν1 s1 h1 => ?_)
  refine z_rload_n dL_law_440 rfl 2 rfl ?_
  refine z_arg 1 (by omega) hL rfl rfl dL_law_441 dL_law_442 dL_law_444 dL_law_445 dL_law_446 rfl rfl rfl rfl ?_
  refine z_VI (i_M_day s1 h1) vk_X12_day kt_113 (by decide) rfl ml_L_49 ⟨Nat.le_of_ble_eq_true rfl, Nat.le_of_ble_eq_true rfl⟩ ⟨hca, hsl⟩ rfl rfl (Nat.le_of_ble_eq_true rfl) dL_law_447 (fun r2 ν2 s2 h2 => ?_)
  obtain ⟨e2, i2⟩ := h2
  refine z_icmp_eq (A := True) (B := False) (tgt := 1462) dL_law_450 rfl (by rw [e2, if_pos rfl]; trivial) (fun _ => ?_) (fun z => z.elim)
  exact kk ν2 i2
theorem lc_7 {l : Launch} {Γ : Gam} {b L i : Nat} {xs : Nat → Int32} {nm : String} {g ca sl : Nat} {μ : Mem} (hL : L ≤ 3072) (hi : i + 5 < L) (hca : ca ≤ 601024) (hsl : sl ≤ 7293034) (hI : Inv μ) (kk : ∀ ν : Mem, Inv ν → SWQ l Γ RL cL_law (YL nm) (QL Γ b L xs) g 175 ca sl ν 1462 (LVL Γ b i) []) : SWQ l Γ RL cL_law (YL nm) (QL Γ b L xs) g 175 ca sl μ 455 (LVL Γ b i) [] := by
  have h0 := st_closing (rg32 (xs (i + 1))) μ hI
  refine z_rload_n dL_law_455 rfl 1 rfl ?_
  refine z_arg 1 (by omega) hL rfl rfl dL_law_456 dL_law_457 dL_law_459 dL_law_460 dL_law_461 rfl rfl rfl rfl ?_
  refine z_VB (i_H_closing hI.1 h0) vk_X11_closing kt_0 (by decide) rfl ml_L_50 ⟨Nat.le_of_ble_eq_true rfl, Nat.le_of_ble_eq_true rfl⟩ ⟨hca, hsl⟩ rfl rfl (Nat.le_of_ble_eq_true rfl) dL_law_462 (fun r1 ν1 s1 h1 => ?_)
  refine z_rload_n dL_law_465 rfl 2 rfl ?_
  refine z_arg 1 (by omega) hL rfl rfl dL_law_466 dL_law_467 dL_law_469 dL_law_470 dL_law_471 rfl rfl rfl rfl ?_
  refine z_VB (i_M_closing s1 h1) vk_X12_closing kt_113 (by decide) rfl ml_L_54 ⟨Nat.le_of_ble_eq_true rfl, Nat.le_of_ble_eq_true rfl⟩ ⟨hca, hsl⟩ rfl rfl (Nat.le_of_ble_eq_true rfl) dL_law_472 (fun r2 ν2 s2 h2 => ?_)
  obtain ⟨e2, i2⟩ := h2
  refine z_icmp_eq (A := True) (B := False) (tgt := 1462) dL_law_475 rfl (by rw [e2, if_pos rfl]; trivial) (fun _ => ?_) (fun z => z.elim)
  exact kk ν2 i2
theorem lc_8 {l : Launch} {Γ : Gam} {b L i : Nat} {xs : Nat → Int32} {nm : String} {g ca sl : Nat} {μ : Mem} (hL : L ≤ 3072) (hi : i + 5 < L) (hca : ca ≤ 601024) (hsl : sl ≤ 7293034) (hI : Inv μ) (kk : ∀ ν : Mem, Inv ν → SWQ l Γ RL cL_law (YL nm) (QL Γ b L xs) g 175 ca sl ν 1462 (LVL Γ b i) []) : SWQ l Γ RL cL_law (YL nm) (QL Γ b L xs) g 175 ca sl μ 480 (LVL Γ b i) [] := by
  have h0 := st_feed (rg32 (xs (i + 1))) (rg32 (xs (i + 2))) (rg32 (xs (i + 3))) (rg32 (xs (i + 4))) (rg32 (xs (i + 5))) μ hI
  refine z_rload_n dL_law_480 rfl 1 rfl ?_
  refine z_arg 1 (by omega) hL rfl rfl dL_law_481 dL_law_482 dL_law_484 dL_law_485 dL_law_486 rfl rfl rfl rfl ?_
  refine z_arg 2 (by omega) hL rfl rfl dL_law_487 dL_law_488 dL_law_490 dL_law_491 dL_law_492 rfl rfl rfl rfl ?_
  refine z_arg 3 (by omega) hL rfl rfl dL_law_493 dL_law_494 dL_law_496 dL_law_497 dL_law_498 rfl rfl rfl rfl ?_
  refine z_arg 4 (by omega) hL rfl rfl dL_law_499 dL_law_500 dL_law_502 dL_law_503 dL_law_504 rfl rfl rfl rfl ?_
  refine z_arg 5 (by omega) hL rfl rfl dL_law_505 dL_law_506 dL_law_508 dL_law_509 dL_law_510 rfl rfl rfl rfl ?_
  refine z_VI (i_H_feed hI.1 h0) vk_X11_feed kt_0 (by decide) rfl ml_L_55 ⟨Nat.le_of_ble_eq_true rfl, Nat.le_of_ble_eq_true rfl⟩ ⟨hca, hsl⟩ rfl rfl (Nat.le_of_ble_eq_true rfl) dL_law_511 (fun r1 ν1 s1 h1 => ?_)
  refine z_rload_n dL_law_514 rfl 2 rfl ?_
  refine z_arg 1 (by omega) hL rfl rfl dL_law_515 dL_law_516 dL_law_518 dL_law_519 dL_law_520 rfl rfl rfl rfl ?_
  refine z_arg 2 (by omega) hL rfl rfl dL_law_521 dL_law_522 dL_law_524 dL_law_525 dL_law_526 rfl rfl rfl rfl ?_
  refine z_arg 3 (by omega) hL rfl rfl dL_law_527 dL_law_528 dL_law_530 dL_law_531 dL_law_532 rfl rfl rfl rfl ?_
  refine z_arg 4 (by omega) hL rfl rfl dL_law_533 dL_law_534 dL_law_536 dL_law_537 dL_law_538 rfl rfl rfl rfl ?_
  refine z_arg 5 (by omega) hL rfl rfl dL_law_539 dL_law_540 dL_law_542 dL_law_543 dL_law_544 rfl rfl rfl rfl ?_
  refine z_VI (i_M_feed s1 h1) vk_X12_feed kt_113 (by decide) rfl ml_L_59 ⟨Nat.le_of_ble_eq_true rfl, Nat.le_of_ble_eq_true rfl⟩ ⟨hca, hsl⟩ rfl rfl (Nat.le_of_ble_eq_true rfl) dL_law_545 (fun r2 ν2 s2 h2 => ?_)
  obtain ⟨e2, i2⟩ := h2
  refine z_icmp_eq (A := True) (B := False) (tgt := 1462) dL_law_548 rfl (by rw [e2, if_pos rfl]; trivial) (fun _ => ?_) (fun z => z.elim)
  exact kk ν2 i2
theorem lc_9 {l : Launch} {Γ : Gam} {b L i : Nat} {xs : Nat → Int32} {nm : String} {g ca sl : Nat} {μ : Mem} (hL : L ≤ 3072) (hi : i + 5 < L) (hca : ca ≤ 601024) (hsl : sl ≤ 7293034) (hI : Inv μ) (kk : ∀ ν : Mem, Inv ν → SWQ l Γ RL cL_law (YL nm) (QL Γ b L xs) g 175 ca sl ν 1462 (LVL Γ b i) []) : SWQ l Γ RL cL_law (YL nm) (QL Γ b L xs) g 175 ca sl μ 553 (LVL Γ b i) [] := by
  have h0 := st_end (rg32 (xs (i + 1))) μ hI
  refine z_rload_n dL_law_553 rfl 1 rfl ?_
  refine z_arg 1 (by omega) hL rfl rfl dL_law_554 dL_law_555 dL_law_557 dL_law_558 dL_law_559 rfl rfl rfl rfl ?_
  refine z_VI (i_H_end hI.1 h0) vk_X11_end kt_0 (by decide) rfl ml_L_60 ⟨Nat.le_of_ble_eq_true rfl, Nat.le_of_ble_eq_true rfl⟩ ⟨hca, hsl⟩ rfl rfl (Nat.le_of_ble_eq_true rfl) dL_law_560 (fun r1 ν1 s1 h1 => ?_)
  refine z_rload_n dL_law_563 rfl 2 rfl ?_
  refine z_arg 1 (by omega) hL rfl rfl dL_law_564 dL_law_565 dL_law_567 dL_law_568 dL_law_569 rfl rfl rfl rfl ?_
  refine z_VI (i_M_end s1 h1) vk_X12_end kt_113 (by decide) rfl ml_L_63 ⟨Nat.le_of_ble_eq_true rfl, Nat.le_of_ble_eq_true rfl⟩ ⟨hca, hsl⟩ rfl rfl (Nat.le_of_ble_eq_true rfl) dL_law_570 (fun r2 ν2 s2 h2 => ?_)
  obtain ⟨e2, i2⟩ := h2
  refine z_icmp_eq (A := True) (B := False) (tgt := 1462) dL_law_573 rfl (by rw [e2, if_pos rfl]; trivial) (fun _ => ?_) (fun z => z.elim)
  exact kk ν2 i2
theorem lc_10 {l : Launch} {Γ : Gam} {b L i : Nat} {xs : Nat → Int32} {nm : String} {g ca sl : Nat} {μ : Mem} (hL : L ≤ 3072) (hi : i + 5 < L) (hca : ca ≤ 601024) (hsl : sl ≤ 7293034) (hI : Inv μ) (kk : ∀ ν : Mem, Inv ν → SWQ l Γ RL cL_law (YL nm) (QL Γ b L xs) g 175 ca sl ν 1462 (LVL Γ b i) []) : SWQ l Γ RL cL_law (YL nm) (QL Γ b L xs) g 175 ca sl μ 578 (LVL Γ b i) [] := by
  have h0 := (st_orders) μ hI
  refine z_rload_n dL_law_578 rfl 1 rfl ?_
  refine z_VI (i_H_orders hI.1 h0) vk_X11_orders kt_0 (by decide) rfl ml_L_64 ⟨Nat.le_of_ble_eq_true rfl, Nat.le_of_ble_eq_true rfl⟩ ⟨hca, hsl⟩ rfl rfl (Nat.le_of_ble_eq_true rfl) dL_law_579 (fun r1 ν1 s1 h1 => ?_)
  refine z_rload_n dL_law_582 rfl 2 rfl ?_
  refine z_VI (i_M_orders s1 h1) vk_X12_orders kt_113 (by decide) rfl ml_L_68 ⟨Nat.le_of_ble_eq_true rfl, Nat.le_of_ble_eq_true rfl⟩ ⟨hca, hsl⟩ rfl rfl (Nat.le_of_ble_eq_true rfl) dL_law_583 (fun r2 ν2 s2 h2 => ?_)
  obtain ⟨e2, i2⟩ := h2
  refine z_icmp_eq (A := True) (B := False) (tgt := 1462) dL_law_586 rfl (by rw [e2, if_pos rfl]; trivial) (fun _ => ?_) (fun z => z.elim)
  exact kk ν2 i2
theorem lc_11 {l : Launch} {Γ : Gam} {b L i : Nat} {xs : Nat → Int32} {nm : String} {g ca sl : Nat} {μ : Mem} (hL : L ≤ 3072) (hi : i + 5 < L) (hca : ca ≤ 601024) (hsl : sl ≤ 7293034) (hI : Inv μ) (kk : ∀ ν : Mem, Inv ν → SWQ l Γ RL cL_law (YL nm) (QL Γ b L xs) g 175 ca sl ν 1462 (LVL Γ b i) []) : SWQ l Γ RL cL_law (YL nm) (QL Γ b L xs) g 175 ca sl μ 591 (LVL Γ b i) [] := by
  have h0 := st_motion (rg32 (xs (i + 1))) μ hI
  refine z_rload_n dL_law_591 rfl 1 rfl ?_
  refine z_arg 1 (by omega) hL rfl rfl dL_law_592 dL_law_593 dL_law_595 dL_law_596 dL_law_597 rfl rfl rfl rfl ?_
  refine z_VI (i_H_motion hI.1 h0) vk_X11_motion kt_0 (by decide) rfl ml_L_69 ⟨Nat.le_of_ble_eq_true rfl, Nat.le_of_ble_eq_true rfl⟩ ⟨hca, hsl⟩ rfl rfl (Nat.le_of_ble_eq_true rfl) dL_law_598 (fun r1 ν1 s1 h1 => ?_)
  refine z_rload_n dL_law_601 rfl 2 rfl ?_
  refine z_arg 1 (by omega) hL rfl rfl dL_law_602 dL_law_603 dL_law_605 dL_law_606 dL_law_607 rfl rfl rfl rfl ?_
  refine z_VI (i_M_motion s1 h1) vk_X12_motion kt_113 (by decide) rfl ml_L_72 ⟨Nat.le_of_ble_eq_true rfl, Nat.le_of_ble_eq_true rfl⟩ ⟨hca, hsl⟩ rfl rfl (Nat.le_of_ble_eq_true rfl) dL_law_608 (fun r2 ν2 s2 h2 => ?_)
  obtain ⟨e2, i2⟩ := h2
  refine z_icmp_eq (A := True) (B := False) (tgt := 1462) dL_law_611 rfl (by rw [e2, if_pos rfl]; trivial) (fun _ => ?_) (fun z => z.elim)
  exact kk ν2 i2
theorem lc_12 {l : Launch} {Γ : Gam} {b L i : Nat} {xs : Nat → Int32} {nm : String} {g ca sl : Nat} {μ : Mem} (hL : L ≤ 3072) (hi : i + 5 < L) (hca : ca ≤ 601024) (hsl : sl ≤ 7293034) (hI : Inv μ) (kk : ∀ ν : Mem, Inv ν → SWQ l Γ RL cL_law (YL nm) (QL Γ b L xs) g 175 ca sl ν 1462 (LVL Γ b i) []) : SWQ l Γ RL cL_law (YL nm) (QL Γ b L xs) g 175 ca sl μ 616 (LVL Γ b i) [] := by
  have h0 := st_amend (rg32 (xs (i + 1))) μ hI
  refine z_rload_n dL_law_616 rfl 1 rfl ?_
  refine z_arg 1 (by omega) hL rfl rfl dL_law_617 dL_law_618 dL_law_620 dL_law_621 dL_law_622 rfl rfl rfl rfl ?_
  refine z_VI (i_H_amend hI.1 h0) vk_X11_amend kt_0 (by decide) rfl ml_L_73 ⟨Nat.le_of_ble_eq_true rfl, Nat.le_of_ble_eq_true rfl⟩ ⟨hca, hsl⟩ rfl rfl (Nat.le_of_ble_eq_true rfl) dL_law_623 (fun r1 ν1 s1 h1 => ?_)
  refine z_rload_n dL_law_626 rfl 2 rfl ?_
  refine z_arg 1 (by omega) hL rfl rfl dL_law_627 dL_law_628 dL_law_630 dL_law_631 dL_law_632 rfl rfl rfl rfl ?_
  refine z_VI (i_M_amend s1 h1) vk_X12_amend kt_113 (by decide) rfl ml_L_76 ⟨Nat.le_of_ble_eq_true rfl, Nat.le_of_ble_eq_true rfl⟩ ⟨hca, hsl⟩ rfl rfl (Nat.le_of_ble_eq_true rfl) dL_law_633 (fun r2 ν2 s2 h2 => ?_)
  obtain ⟨e2, i2⟩ := h2
  refine z_icmp_eq (A := True) (B := False) (tgt := 1462) dL_law_636 rfl (by rw [e2, if_pos rfl]; trivial) (fun _ => ?_) (fun z => z.elim)
  exact kk ν2 i2
theorem lc_13 {l : Launch} {Γ : Gam} {b L i : Nat} {xs : Nat → Int32} {nm : String} {g ca sl : Nat} {μ : Mem} (hL : L ≤ 3072) (hi : i + 5 < L) (hca : ca ≤ 601024) (hsl : sl ≤ 7293034) (hI : Inv μ) (kk : ∀ ν : Mem, Inv ν → SWQ l Γ RL cL_law (YL nm) (QL Γ b L xs) g 175 ca sl ν 1462 (LVL Γ b i) []) : SWQ l Γ RL cL_law (YL nm) (QL Γ b L xs) g 175 ca sl μ 641 (LVL Γ b i) [] := by
  have h0 := (st_place) μ hI
  refine z_rload_n dL_law_641 rfl 1 rfl ?_
  refine z_VE (i_H_place hI.1) vk_X11_place kt_0 (by decide) rfl ml_L_77 ⟨Nat.le_of_ble_eq_true rfl, Nat.le_of_ble_eq_true rfl⟩ ⟨hca, hsl⟩ rfl rfl (Nat.le_of_ble_eq_true rfl) dL_law_642 ?_
  have h1 := h0
  refine z_rload_n dL_law_645 rfl 2 rfl ?_
  refine z_VI (i_M_place hI.1 h1) vk_X12_place kt_113 (by decide) rfl ml_L_80 ⟨Nat.le_of_ble_eq_true rfl, Nat.le_of_ble_eq_true rfl⟩ ⟨hca, hsl⟩ rfl rfl (Nat.le_of_ble_eq_true rfl) dL_law_646 (fun r2 ν2 s2 h2 => ?_)
  obtain ⟨e2, i2⟩ := h2
  refine z_icmp_eq (A := True) (B := False) (tgt := 1462) dL_law_649 rfl (by rw [e2, if_pos rfl]; trivial) (fun _ => ?_) (fun z => z.elim)
  exact kk ν2 i2
theorem lc_14 {l : Launch} {Γ : Gam} {b L i : Nat} {xs : Nat → Int32} {nm : String} {g ca sl : Nat} {μ : Mem} (hL : L ≤ 3072) (hi : i + 5 < L) (hca : ca ≤ 601024) (hsl : sl ≤ 7293034) (hI : Inv μ) (kk : ∀ ν : Mem, Inv ν → SWQ l Γ RL cL_law (YL nm) (QL Γ b L xs) g 175 ca sl ν 1462 (LVL Γ b i) []) : SWQ l Γ RL cL_law (YL nm) (QL Γ b L xs) g 175 ca sl μ 654 (LVL Γ b i) [] := by
  have h0 := st_paid (rg32 (xs (i + 1))) (rg32 (xs (i + 2))) μ hI
  refine z_rload_n dL_law_654 rfl 1 rfl ?_
  refine z_arg 1 (by omega) hL rfl rfl dL_law_655 dL_law_656 dL_law_658 dL_law_659 dL_law_660 rfl rfl rfl rfl ?_
  refine z_arg 2 (by omega) hL rfl rfl dL_law_661 dL_law_662 dL_law_664 dL_law_665 dL_law_666 rfl rfl rfl rfl ?_
  refine z_VI (i_H_paid hI.1 h0) vk_X11_paid kt_0 (by decide) rfl ml_L_81 ⟨Nat.le_of_ble_eq_true rfl, Nat.le_of_ble_eq_true rfl⟩ ⟨hca, hsl⟩ rfl rfl (Nat.le_of_ble_eq_true rfl) dL_law_667 (fun r1 ν1 s1 h1 => ?_)
  refine z_rload_n dL_law_670 rfl 2 rfl ?_
  refine z_arg 1 (by omega) hL rfl rfl dL_law_671 dL_law_672 dL_law_674 dL_law_675 dL_law_676 rfl rfl rfl rfl ?_
  refine z_arg 2 (by omega) hL rfl rfl dL_law_677 dL_law_678 dL_law_680 dL_law_681 dL_law_682 rfl rfl rfl rfl ?_
  refine z_VI (i_M_paid s1 h1) vk_X12_paid kt_113 (by decide) rfl ml_L_84 ⟨Nat.le_of_ble_eq_true rfl, Nat.le_of_ble_eq_true rfl⟩ ⟨hca, hsl⟩ rfl rfl (Nat.le_of_ble_eq_true rfl) dL_law_683 (fun r2 ν2 s2 h2 => ?_)
  obtain ⟨e2, i2⟩ := h2
  refine z_icmp_eq (A := True) (B := False) (tgt := 1462) dL_law_686 rfl (by rw [e2, if_pos rfl]; trivial) (fun _ => ?_) (fun z => z.elim)
  exact kk ν2 i2
theorem lc_15 {l : Launch} {Γ : Gam} {b L i : Nat} {xs : Nat → Int32} {nm : String} {g ca sl : Nat} {μ : Mem} (hL : L ≤ 3072) (hi : i + 5 < L) (hca : ca ≤ 601024) (hsl : sl ≤ 7293034) (hI : Inv μ) (kk : ∀ ν : Mem, Inv ν → SWQ l Γ RL cL_law (YL nm) (QL Γ b L xs) g 175 ca sl ν 1462 (LVL Γ b i) []) : SWQ l Γ RL cL_law (YL nm) (QL Γ b L xs) g 175 ca sl μ 691 (LVL Γ b i) [] := by
  have h0 := st_cards (rg32 (xs (i + 1))) (rg32 (xs (i + 2))) μ hI
  refine z_rload_n dL_law_691 rfl 1 rfl ?_
  refine z_arg 1 (by omega) hL rfl rfl dL_law_692 dL_law_693 dL_law_695 dL_law_696 dL_law_697 rfl rfl rfl rfl ?_
  refine z_arg 2 (by omega) hL rfl rfl dL_law_698 dL_law_699 dL_law_701 dL_law_702 dL_law_703 rfl rfl rfl rfl ?_
  refine z_VI (i_H_cards hI.1 h0) vk_X11_cards kt_0 (by decide) rfl ml_L_85 ⟨Nat.le_of_ble_eq_true rfl, Nat.le_of_ble_eq_true rfl⟩ ⟨hca, hsl⟩ rfl rfl (Nat.le_of_ble_eq_true rfl) dL_law_704 (fun r1 ν1 s1 h1 => ?_)
  refine z_rload_n dL_law_707 rfl 2 rfl ?_
  refine z_arg 1 (by omega) hL rfl rfl dL_law_708 dL_law_709 dL_law_711 dL_law_712 dL_law_713 rfl rfl rfl rfl ?_
  refine z_arg 2 (by omega) hL rfl rfl dL_law_714 dL_law_715 dL_law_717 dL_law_718 dL_law_719 rfl rfl rfl rfl ?_
  refine z_VI (i_M_cards s1 h1) vk_X12_cards kt_113 (by decide) rfl ml_L_88 ⟨Nat.le_of_ble_eq_true rfl, Nat.le_of_ble_eq_true rfl⟩ ⟨hca, hsl⟩ rfl rfl (Nat.le_of_ble_eq_true rfl) dL_law_720 (fun r2 ν2 s2 h2 => ?_)
  obtain ⟨e2, i2⟩ := h2
  refine z_icmp_eq (A := True) (B := False) (tgt := 1462) dL_law_723 rfl (by rw [e2, if_pos rfl]; trivial) (fun _ => ?_) (fun z => z.elim)
  exact kk ν2 i2
theorem lc_16 {l : Launch} {Γ : Gam} {b L i : Nat} {xs : Nat → Int32} {nm : String} {g ca sl : Nat} {μ : Mem} (hL : L ≤ 3072) (hi : i + 5 < L) (hca : ca ≤ 601024) (hsl : sl ≤ 7293034) (hI : Inv μ) (kk : ∀ ν : Mem, Inv ν → SWQ l Γ RL cL_law (YL nm) (QL Γ b L xs) g 175 ca sl ν 1462 (LVL Γ b i) []) : SWQ l Γ RL cL_law (YL nm) (QL Γ b L xs) g 175 ca sl μ 728 (LVL Γ b i) [] := by
  have h0 := st_voice (rg32 (xs (i + 1))) (rg32 (xs (i + 2))) (rg32 (xs (i + 3))) (rg32 (xs (i + 4))) μ hI
  refine z_rload_n dL_law_728 rfl 1 rfl ?_
  refine z_arg 1 (by omega) hL rfl rfl dL_law_729 dL_law_730 dL_law_732 dL_law_733 dL_law_734 rfl rfl rfl rfl ?_
  refine z_arg 2 (by omega) hL rfl rfl dL_law_735 dL_law_736 dL_law_738 dL_law_739 dL_law_740 rfl rfl rfl rfl ?_
  refine z_arg 3 (by omega) hL rfl rfl dL_law_741 dL_law_742 dL_law_744 dL_law_745 dL_law_746 rfl rfl rfl rfl ?_
  refine z_arg 4 (by omega) hL rfl rfl dL_law_747 dL_law_748 dL_law_750 dL_law_751 dL_law_752 rfl rfl rfl rfl ?_
  refine z_VI (i_H_voice hI.1 h0) vk_X11_voice kt_0 (by decide) rfl ml_L_89 ⟨Nat.le_of_ble_eq_true rfl, Nat.le_of_ble_eq_true rfl⟩ ⟨hca, hsl⟩ rfl rfl (Nat.le_of_ble_eq_true rfl) dL_law_753 (fun r1 ν1 s1 h1 => ?_)
  refine z_rload_n dL_law_756 rfl 2 rfl ?_
  refine z_arg 1 (by omega) hL rfl rfl dL_law_757 dL_law_758 dL_law_760 dL_law_761 dL_law_762 rfl rfl rfl rfl ?_
  refine z_arg 2 (by omega) hL rfl rfl dL_law_763 dL_law_764 dL_law_766 dL_law_767 dL_law_768 rfl rfl rfl rfl ?_
  refine z_arg 3 (by omega) hL rfl rfl dL_law_769 dL_law_770 dL_law_772 dL_law_773 dL_law_774 rfl rfl rfl rfl ?_
  refine z_arg 4 (by omega) hL rfl rfl dL_law_775 dL_law_776 dL_law_778 dL_law_779 dL_law_780 rfl rfl rfl rfl ?_
  refine z_VI (i_M_voice s1 h1) vk_X12_voice kt_113 (by decide) rfl ml_L_93 ⟨Nat.le_of_ble_eq_true rfl, Nat.le_of_ble_eq_true rfl⟩ ⟨hca, hsl⟩ rfl rfl (Nat.le_of_ble_eq_true rfl) dL_law_781 (fun r2 ν2 s2 h2 => ?_)
  obtain ⟨e2, i2⟩ := h2
  refine z_icmp_eq (A := True) (B := False) (tgt := 1462) dL_law_784 rfl (by rw [e2, if_pos rfl]; trivial) (fun _ => ?_) (fun z => z.elim)
  exact kk ν2 i2
theorem lc_17 {l : Launch} {Γ : Gam} {b L i : Nat} {xs : Nat → Int32} {nm : String} {g ca sl : Nat} {μ : Mem} (hL : L ≤ 3072) (hi : i + 5 < L) (hca : ca ≤ 601024) (hsl : sl ≤ 7293034) (hI : Inv μ) (kk : ∀ ν : Mem, Inv ν → SWQ l Γ RL cL_law (YL nm) (QL Γ b L xs) g 175 ca sl ν 1462 (LVL Γ b i) []) : SWQ l Γ RL cL_law (YL nm) (QL Γ b L xs) g 175 ca sl μ 789 (LVL Γ b i) [] := by
  have h0 := st_counted (rg32 (xs (i + 1))) (rg32 (xs (i + 2))) (rg32 (xs (i + 3))) μ hI
  refine z_rload_n dL_law_789 rfl 1 rfl ?_
  refine z_arg 1 (by omega) hL rfl rfl dL_law_790 dL_law_791 dL_law_793 dL_law_794 dL_law_795 rfl rfl rfl rfl ?_
  refine z_arg 2 (by omega) hL rfl rfl dL_law_796 dL_law_797 dL_law_799 dL_law_800 dL_law_801 rfl rfl rfl rfl ?_
  refine z_arg 3 (by omega) hL rfl rfl dL_law_802 dL_law_803 dL_law_805 dL_law_806 dL_law_807 rfl rfl rfl rfl ?_
  refine z_VI (i_H_counted hI.1 h0) vk_X11_counted kt_0 (by decide) rfl ml_L_94 ⟨Nat.le_of_ble_eq_true rfl, Nat.le_of_ble_eq_true rfl⟩ ⟨hca, hsl⟩ rfl rfl (Nat.le_of_ble_eq_true rfl) dL_law_808 (fun r1 ν1 s1 h1 => ?_)
  refine z_rload_n dL_law_811 rfl 2 rfl ?_
  refine z_arg 1 (by omega) hL rfl rfl dL_law_812 dL_law_813 dL_law_815 dL_law_816 dL_law_817 rfl rfl rfl rfl ?_
  refine z_arg 2 (by omega) hL rfl rfl dL_law_818 dL_law_819 dL_law_821 dL_law_822 dL_law_823 rfl rfl rfl rfl ?_
  refine z_arg 3 (by omega) hL rfl rfl dL_law_824 dL_law_825 dL_law_827 dL_law_828 dL_law_829 rfl rfl rfl rfl ?_
  refine z_VI (i_M_counted s1 h1) vk_X12_counted kt_113 (by decide) rfl ml_L_98 ⟨Nat.le_of_ble_eq_true rfl, Nat.le_of_ble_eq_true rfl⟩ ⟨hca, hsl⟩ rfl rfl (Nat.le_of_ble_eq_true rfl) dL_law_830 (fun r2 ν2 s2 h2 => ?_)
  obtain ⟨e2, i2⟩ := h2
  refine z_icmp_eq (A := True) (B := False) (tgt := 1462) dL_law_833 rfl (by rw [e2, if_pos rfl]; trivial) (fun _ => ?_) (fun z => z.elim)
  exact kk ν2 i2
theorem lc_18 {l : Launch} {Γ : Gam} {b L i : Nat} {xs : Nat → Int32} {nm : String} {g ca sl : Nat} {μ : Mem} (hL : L ≤ 3072) (hi : i + 5 < L) (hca : ca ≤ 601024) (hsl : sl ≤ 7293034) (hI : Inv μ) (kk : ∀ ν : Mem, Inv ν → SWQ l Γ RL cL_law (YL nm) (QL Γ b L xs) g 175 ca sl ν 1462 (LVL Γ b i) []) : SWQ l Γ RL cL_law (YL nm) (QL Γ b L xs) g 175 ca sl μ 838 (LVL Γ b i) [] := by
  have h0 := st_broken (rg32 (xs (i + 1))) (rg32 (xs (i + 2))) μ hI
  refine z_rload_n dL_law_838 rfl 1 rfl ?_
  refine z_arg 1 (by omega) hL rfl rfl dL_law_839 dL_law_840 dL_law_842 dL_law_843 dL_law_844 rfl rfl rfl rfl ?_
  refine z_arg 2 (by omega) hL rfl rfl dL_law_845 dL_law_846 dL_law_848 dL_law_849 dL_law_850 rfl rfl rfl rfl ?_
  refine z_VI (i_H_broken hI.1 h0) vk_X11_broken kt_0 (by decide) rfl ml_L_99 ⟨Nat.le_of_ble_eq_true rfl, Nat.le_of_ble_eq_true rfl⟩ ⟨hca, hsl⟩ rfl rfl (Nat.le_of_ble_eq_true rfl) dL_law_851 (fun r1 ν1 s1 h1 => ?_)
  refine z_rload_n dL_law_854 rfl 2 rfl ?_
  refine z_arg 1 (by omega) hL rfl rfl dL_law_855 dL_law_856 dL_law_858 dL_law_859 dL_law_860 rfl rfl rfl rfl ?_
  refine z_arg 2 (by omega) hL rfl rfl dL_law_861 dL_law_862 dL_law_864 dL_law_865 dL_law_866 rfl rfl rfl rfl ?_
  refine z_VI (i_M_broken s1 h1) vk_X12_broken kt_113 (by decide) rfl ml_L_102 ⟨Nat.le_of_ble_eq_true rfl, Nat.le_of_ble_eq_true rfl⟩ ⟨hca, hsl⟩ rfl rfl (Nat.le_of_ble_eq_true rfl) dL_law_867 (fun r2 ν2 s2 h2 => ?_)
  obtain ⟨e2, i2⟩ := h2
  refine z_icmp_eq (A := True) (B := False) (tgt := 1462) dL_law_870 rfl (by rw [e2, if_pos rfl]; trivial) (fun _ => ?_) (fun z => z.elim)
  exact kk ν2 i2
theorem lc_19 {l : Launch} {Γ : Gam} {b L i : Nat} {xs : Nat → Int32} {nm : String} {g ca sl : Nat} {μ : Mem} (hL : L ≤ 3072) (hi : i + 5 < L) (hca : ca ≤ 601024) (hsl : sl ≤ 7293034) (hI : Inv μ) (kk : ∀ ν : Mem, Inv ν → SWQ l Γ RL cL_law (YL nm) (QL Γ b L xs) g 175 ca sl ν 1462 (LVL Γ b i) []) : SWQ l Γ RL cL_law (YL nm) (QL Γ b L xs) g 175 ca sl μ 875 (LVL Γ b i) [] := by
  have h0 := st_decide (rg32 (xs (i + 1))) μ hI
  refine z_rload_n dL_law_875 rfl 1 rfl ?_
  refine z_arg 1 (by omega) hL rfl rfl dL_law_876 dL_law_877 dL_law_879 dL_law_880 dL_law_881 rfl rfl rfl rfl ?_
  refine z_VI (i_H_decide hI.1 h0) vk_X11_decide kt_0 (by decide) rfl ml_L_103 ⟨Nat.le_of_ble_eq_true rfl, Nat.le_of_ble_eq_true rfl⟩ ⟨hca, hsl⟩ rfl rfl (Nat.le_of_ble_eq_true rfl) dL_law_882 (fun r1 ν1 s1 h1 => ?_)
  refine z_rload_n dL_law_885 rfl 2 rfl ?_
  refine z_arg 1 (by omega) hL rfl rfl dL_law_886 dL_law_887 dL_law_889 dL_law_890 dL_law_891 rfl rfl rfl rfl ?_
  refine z_VI (i_M_decide s1 h1) vk_X12_decide kt_113 (by decide) rfl ml_L_106 ⟨Nat.le_of_ble_eq_true rfl, Nat.le_of_ble_eq_true rfl⟩ ⟨hca, hsl⟩ rfl rfl (Nat.le_of_ble_eq_true rfl) dL_law_892 (fun r2 ν2 s2 h2 => ?_)
  obtain ⟨e2, i2⟩ := h2
  refine z_icmp_eq (A := True) (B := False) (tgt := 1462) dL_law_895 rfl (by rw [e2, if_pos rfl]; trivial) (fun _ => ?_) (fun z => z.elim)
  exact kk ν2 i2
theorem lc_20 {l : Launch} {Γ : Gam} {b L i : Nat} {xs : Nat → Int32} {nm : String} {g ca sl : Nat} {μ : Mem} (hL : L ≤ 3072) (hi : i + 5 < L) (hca : ca ≤ 601024) (hsl : sl ≤ 7293034) (hI : Inv μ) (kk : ∀ ν : Mem, Inv ν → SWQ l Γ RL cL_law (YL nm) (QL Γ b L xs) g 175 ca sl ν 1462 (LVL Γ b i) []) : SWQ l Γ RL cL_law (YL nm) (QL Γ b L xs) g 175 ca sl μ 900 (LVL Γ b i) [] := by
  have h0 := st_voids (rg32 (xs (i + 1))) μ hI
  refine z_rload_n dL_law_900 rfl 1 rfl ?_
  refine z_arg 1 (by omega) hL rfl rfl dL_law_901 dL_law_902 dL_law_904 dL_law_905 dL_law_906 rfl rfl rfl rfl ?_
  refine z_VI (i_H_voids hI.1 h0) vk_X11_voids kt_0 (by decide) rfl ml_L_107 ⟨Nat.le_of_ble_eq_true rfl, Nat.le_of_ble_eq_true rfl⟩ ⟨hca, hsl⟩ rfl rfl (Nat.le_of_ble_eq_true rfl) dL_law_907 (fun r1 ν1 s1 h1 => ?_)
  refine z_rload_n dL_law_910 rfl 2 rfl ?_
  refine z_arg 1 (by omega) hL rfl rfl dL_law_911 dL_law_912 dL_law_914 dL_law_915 dL_law_916 rfl rfl rfl rfl ?_
  refine z_VI (i_M_voids s1 h1) vk_X12_voids kt_113 (by decide) rfl ml_L_110 ⟨Nat.le_of_ble_eq_true rfl, Nat.le_of_ble_eq_true rfl⟩ ⟨hca, hsl⟩ rfl rfl (Nat.le_of_ble_eq_true rfl) dL_law_917 (fun r2 ν2 s2 h2 => ?_)
  obtain ⟨e2, i2⟩ := h2
  refine z_icmp_eq (A := True) (B := False) (tgt := 1462) dL_law_920 rfl (by rw [e2, if_pos rfl]; trivial) (fun _ => ?_) (fun z => z.elim)
  exact kk ν2 i2
theorem lc_22 {l : Launch} {Γ : Gam} {b L i : Nat} {xs : Nat → Int32} {nm : String} {g ca sl : Nat} {μ : Mem} (hL : L ≤ 3072) (hi : i + 5 < L) (hca : ca ≤ 601024) (hsl : sl ≤ 7293034) (hI : Inv μ) (kk : ∀ ν : Mem, Inv ν → SWQ l Γ RL cL_law (YL nm) (QL Γ b L xs) g 175 ca sl ν 1462 (LVL Γ b i) []) : SWQ l Γ RL cL_law (YL nm) (QL Γ b L xs) g 175 ca sl μ 993 (LVL Γ b i) [] := by
  have h0 := st_how (rg32 (xs (i + 1))) μ hI
  refine z_rload_n dL_law_993 rfl 1 rfl ?_
  refine z_arg 1 (by omega) hL rfl rfl dL_law_994 dL_law_995 dL_law_997 dL_law_998 dL_law_999 rfl rfl rfl rfl ?_
  refine z_VE (i_H_how hI.1) vk_X11_how kt_0 (by decide) rfl ml_L_120 ⟨Nat.le_of_ble_eq_true rfl, Nat.le_of_ble_eq_true rfl⟩ ⟨hca, hsl⟩ rfl rfl (Nat.le_of_ble_eq_true rfl) dL_law_1000 ?_
  have h1 := h0
  refine z_rload_n dL_law_1003 rfl 2 rfl ?_
  refine z_arg 1 (by omega) hL rfl rfl dL_law_1004 dL_law_1005 dL_law_1007 dL_law_1008 dL_law_1009 rfl rfl rfl rfl ?_
  refine z_VI (i_M_how hI.1 h1) vk_X12_how kt_113 (by decide) rfl ml_L_123 ⟨Nat.le_of_ble_eq_true rfl, Nat.le_of_ble_eq_true rfl⟩ ⟨hca, hsl⟩ rfl rfl (Nat.le_of_ble_eq_true rfl) dL_law_1010 (fun r2 ν2 s2 h2 => ?_)
  obtain ⟨e2, i2⟩ := h2
  refine z_icmp_eq (A := True) (B := False) (tgt := 1462) dL_law_1013 rfl (by rw [e2, if_pos rfl]; trivial) (fun _ => ?_) (fun z => z.elim)
  exact kk ν2 i2
theorem lc_23 {l : Launch} {Γ : Gam} {b L i : Nat} {xs : Nat → Int32} {nm : String} {g ca sl : Nat} {μ : Mem} (hL : L ≤ 3072) (hi : i + 5 < L) (hca : ca ≤ 601024) (hsl : sl ≤ 7293034) (hI : Inv μ) (kk : ∀ ν : Mem, Inv ν → SWQ l Γ RL cL_law (YL nm) (QL Γ b L xs) g 175 ca sl ν 1462 (LVL Γ b i) []) : SWQ l Γ RL cL_law (YL nm) (QL Γ b L xs) g 175 ca sl μ 1018 (LVL Γ b i) [] := by
  have h0 := st_line (rg32 (xs (i + 1))) (rg32 (xs (i + 2))) (rg32 (xs (i + 3))) μ hI
  refine z_rload_n dL_law_1018 rfl 1 rfl ?_
  refine z_arg 1 (by omega) hL rfl rfl dL_law_1019 dL_law_1020 dL_law_1022 dL_law_1023 dL_law_1024 rfl rfl rfl rfl ?_
  refine z_arg 2 (by omega) hL rfl rfl dL_law_1025 dL_law_1026 dL_law_1028 dL_law_1029 dL_law_1030 rfl rfl rfl rfl ?_
  refine z_arg 3 (by omega) hL rfl rfl dL_law_1031 dL_law_1032 dL_law_1034 dL_law_1035 dL_law_1036 rfl rfl rfl rfl ?_
  refine z_VI (i_H_line hI.1 h0) vk_X11_line kt_0 (by decide) rfl ml_L_124 ⟨Nat.le_of_ble_eq_true rfl, Nat.le_of_ble_eq_true rfl⟩ ⟨hca, hsl⟩ rfl rfl (Nat.le_of_ble_eq_true rfl) dL_law_1037 (fun r1 ν1 s1 h1 => ?_)
  refine z_rload_n dL_law_1040 rfl 2 rfl ?_
  refine z_arg 1 (by omega) hL rfl rfl dL_law_1041 dL_law_1042 dL_law_1044 dL_law_1045 dL_law_1046 rfl rfl rfl rfl ?_
  refine z_arg 2 (by omega) hL rfl rfl dL_law_1047 dL_law_1048 dL_law_1050 dL_law_1051 dL_law_1052 rfl rfl rfl rfl ?_
  refine z_arg 3 (by omega) hL rfl rfl dL_law_1053 dL_law_1054 dL_law_1056 dL_law_1057 dL_law_1058 rfl rfl rfl rfl ?_
  refine z_VI (i_M_line s1 h1) vk_X12_line kt_113 (by decide) rfl ml_L_127 ⟨Nat.le_of_ble_eq_true rfl, Nat.le_of_ble_eq_true rfl⟩ ⟨hca, hsl⟩ rfl rfl (Nat.le_of_ble_eq_true rfl) dL_law_1059 (fun r2 ν2 s2 h2 => ?_)
  obtain ⟨e2, i2⟩ := h2
  refine z_icmp_eq (A := True) (B := False) (tgt := 1462) dL_law_1062 rfl (by rw [e2, if_pos rfl]; trivial) (fun _ => ?_) (fun z => z.elim)
  exact kk ν2 i2
theorem lc_24 {l : Launch} {Γ : Gam} {b L i : Nat} {xs : Nat → Int32} {nm : String} {g ca sl : Nat} {μ : Mem} (hL : L ≤ 3072) (hi : i + 5 < L) (hca : ca ≤ 601024) (hsl : sl ≤ 7293034) (hI : Inv μ) (kk : ∀ ν : Mem, Inv ν → SWQ l Γ RL cL_law (YL nm) (QL Γ b L xs) g 175 ca sl ν 1462 (LVL Γ b i) []) : SWQ l Γ RL cL_law (YL nm) (QL Γ b L xs) g 175 ca sl μ 1067 (LVL Γ b i) [] := by
  have h0 := st_stands (rg32 (xs (i + 1))) μ hI
  refine z_rload_n dL_law_1067 rfl 1 rfl ?_
  refine z_arg 1 (by omega) hL rfl rfl dL_law_1068 dL_law_1069 dL_law_1071 dL_law_1072 dL_law_1073 rfl rfl rfl rfl ?_
  refine z_VE (i_H_stands hI.1) vk_X11_stands kt_0 (by decide) rfl ml_L_128 ⟨Nat.le_of_ble_eq_true rfl, Nat.le_of_ble_eq_true rfl⟩ ⟨hca, hsl⟩ rfl rfl (Nat.le_of_ble_eq_true rfl) dL_law_1074 ?_
  have h1 := h0
  refine z_rload_n dL_law_1077 rfl 2 rfl ?_
  refine z_arg 1 (by omega) hL rfl rfl dL_law_1078 dL_law_1079 dL_law_1081 dL_law_1082 dL_law_1083 rfl rfl rfl rfl ?_
  refine z_VI (i_M_stands hI.1 h1) vk_X12_stands kt_113 (by decide) rfl ml_L_131 ⟨Nat.le_of_ble_eq_true rfl, Nat.le_of_ble_eq_true rfl⟩ ⟨hca, hsl⟩ rfl rfl (Nat.le_of_ble_eq_true rfl) dL_law_1084 (fun r2 ν2 s2 h2 => ?_)
  obtain ⟨e2, i2⟩ := h2
  refine z_icmp_eq (A := True) (B := False) (tgt := 1462) dL_law_1087 rfl (by rw [e2, if_pos rfl]; trivial) (fun _ => ?_) (fun z => z.elim)
  exact kk ν2 i2
theorem lc_25 {l : Launch} {Γ : Gam} {b L i : Nat} {xs : Nat → Int32} {nm : String} {g ca sl : Nat} {μ : Mem} (hL : L ≤ 3072) (hi : i + 5 < L) (hca : ca ≤ 601024) (hsl : sl ≤ 7293034) (hI : Inv μ) (kk : ∀ ν : Mem, Inv ν → SWQ l Γ RL cL_law (YL nm) (QL Γ b L xs) g 175 ca sl ν 1462 (LVL Γ b i) []) : SWQ l Γ RL cL_law (YL nm) (QL Γ b L xs) g 175 ca sl μ 1092 (LVL Γ b i) [] := by
  have h0 := st_lost (rg32 (xs (i + 1))) μ hI
  refine z_rload_n dL_law_1092 rfl 1 rfl ?_
  refine z_arg 1 (by omega) hL rfl rfl dL_law_1093 dL_law_1094 dL_law_1096 dL_law_1097 dL_law_1098 rfl rfl rfl rfl ?_
  refine z_VI (i_H_lost hI.1 h0) vk_X11_lost kt_0 (by decide) rfl ml_L_132 ⟨Nat.le_of_ble_eq_true rfl, Nat.le_of_ble_eq_true rfl⟩ ⟨hca, hsl⟩ rfl rfl (Nat.le_of_ble_eq_true rfl) dL_law_1099 (fun r1 ν1 s1 h1 => ?_)
  refine z_rload_n dL_law_1102 rfl 2 rfl ?_
  refine z_arg 1 (by omega) hL rfl rfl dL_law_1103 dL_law_1104 dL_law_1106 dL_law_1107 dL_law_1108 rfl rfl rfl rfl ?_
  refine z_VI (i_M_lost s1 h1) vk_X12_lost kt_113 (by decide) rfl ml_L_135 ⟨Nat.le_of_ble_eq_true rfl, Nat.le_of_ble_eq_true rfl⟩ ⟨hca, hsl⟩ rfl rfl (Nat.le_of_ble_eq_true rfl) dL_law_1109 (fun r2 ν2 s2 h2 => ?_)
  obtain ⟨e2, i2⟩ := h2
  refine z_icmp_eq (A := True) (B := False) (tgt := 1462) dL_law_1112 rfl (by rw [e2, if_pos rfl]; trivial) (fun _ => ?_) (fun z => z.elim)
  exact kk ν2 i2
theorem lc_26 {l : Launch} {Γ : Gam} {b L i : Nat} {xs : Nat → Int32} {nm : String} {g ca sl : Nat} {μ : Mem} (hL : L ≤ 3072) (hi : i + 5 < L) (hca : ca ≤ 601024) (hsl : sl ≤ 7293034) (hI : Inv μ) (kk : ∀ ν : Mem, Inv ν → SWQ l Γ RL cL_law (YL nm) (QL Γ b L xs) g 175 ca sl ν 1462 (LVL Γ b i) []) : SWQ l Γ RL cL_law (YL nm) (QL Γ b L xs) g 175 ca sl μ 1117 (LVL Γ b i) [] := by
  have h0 := st_composite (rg32 (xs (i + 1))) μ hI
  refine z_rload_n dL_law_1117 rfl 1 rfl ?_
  refine z_arg 1 (by omega) hL rfl rfl dL_law_1118 dL_law_1119 dL_law_1121 dL_law_1122 dL_law_1123 rfl rfl rfl rfl ?_
  refine z_VI (i_H_composite hI.1 h0) vk_X11_composite kt_0 (by decide) rfl ml_L_136 ⟨Nat.le_of_ble_eq_true rfl, Nat.le_of_ble_eq_true rfl⟩ ⟨hca, hsl⟩ rfl rfl (Nat.le_of_ble_eq_true rfl) dL_law_1124 (fun r1 ν1 s1 h1 => ?_)
  refine z_rload_n dL_law_1127 rfl 2 rfl ?_
  refine z_arg 1 (by omega) hL rfl rfl dL_law_1128 dL_law_1129 dL_law_1131 dL_law_1132 dL_law_1133 rfl rfl rfl rfl ?_
  refine z_VI (i_M_composite s1 h1) vk_X12_composite kt_113 (by decide) rfl ml_L_139 ⟨Nat.le_of_ble_eq_true rfl, Nat.le_of_ble_eq_true rfl⟩ ⟨hca, hsl⟩ rfl rfl (Nat.le_of_ble_eq_true rfl) dL_law_1134 (fun r2 ν2 s2 h2 => ?_)
  obtain ⟨e2, i2⟩ := h2
  refine z_icmp_eq (A := True) (B := False) (tgt := 1462) dL_law_1137 rfl (by rw [e2, if_pos rfl]; trivial) (fun _ => ?_) (fun z => z.elim)
  exact kk ν2 i2
theorem lc_27 {l : Launch} {Γ : Gam} {b L i : Nat} {xs : Nat → Int32} {nm : String} {g ca sl : Nat} {μ : Mem} (hL : L ≤ 3072) (hi : i + 5 < L) (hca : ca ≤ 601024) (hsl : sl ≤ 7293034) (hI : Inv μ) (kk : ∀ ν : Mem, Inv ν → SWQ l Γ RL cL_law (YL nm) (QL Γ b L xs) g 175 ca sl ν 1462 (LVL Γ b i) []) : SWQ l Γ RL cL_law (YL nm) (QL Γ b L xs) g 175 ca sl μ 1142 (LVL Γ b i) [] := by
  have h0 := st_group (rg32 (xs (i + 1))) (rg32 (xs (i + 2))) μ hI
  refine z_rload_n dL_law_1142 rfl 1 rfl ?_
  refine z_arg 1 (by omega) hL rfl rfl dL_law_1143 dL_law_1144 dL_law_1146 dL_law_1147 dL_law_1148 rfl rfl rfl rfl ?_
  refine z_arg 2 (by omega) hL rfl rfl dL_law_1149 dL_law_1150 dL_law_1152 dL_law_1153 dL_law_1154 rfl rfl rfl rfl ?_
  refine z_VI (i_H_group hI.1 h0) vk_X11_group kt_0 (by decide) rfl ml_L_140 ⟨Nat.le_of_ble_eq_true rfl, Nat.le_of_ble_eq_true rfl⟩ ⟨hca, hsl⟩ rfl rfl (Nat.le_of_ble_eq_true rfl) dL_law_1155 (fun r1 ν1 s1 h1 => ?_)
  refine z_rload_n dL_law_1158 rfl 2 rfl ?_
  refine z_arg 1 (by omega) hL rfl rfl dL_law_1159 dL_law_1160 dL_law_1162 dL_law_1163 dL_law_1164 rfl rfl rfl rfl ?_
  refine z_arg 2 (by omega) hL rfl rfl dL_law_1165 dL_law_1166 dL_law_1168 dL_law_1169 dL_law_1170 rfl rfl rfl rfl ?_
  refine z_VI (i_M_group s1 h1) vk_X12_group kt_113 (by decide) rfl ml_L_143 ⟨Nat.le_of_ble_eq_true rfl, Nat.le_of_ble_eq_true rfl⟩ ⟨hca, hsl⟩ rfl rfl (Nat.le_of_ble_eq_true rfl) dL_law_1171 (fun r2 ν2 s2 h2 => ?_)
  obtain ⟨e2, i2⟩ := h2
  refine z_icmp_eq (A := True) (B := False) (tgt := 1462) dL_law_1174 rfl (by rw [e2, if_pos rfl]; trivial) (fun _ => ?_) (fun z => z.elim)
  exact kk ν2 i2
theorem lc_28 {l : Launch} {Γ : Gam} {b L i : Nat} {xs : Nat → Int32} {nm : String} {g ca sl : Nat} {μ : Mem} (hL : L ≤ 3072) (hi : i + 5 < L) (hca : ca ≤ 601024) (hsl : sl ≤ 7293034) (hI : Inv μ) (kk : ∀ ν : Mem, Inv ν → SWQ l Γ RL cL_law (YL nm) (QL Γ b L xs) g 175 ca sl ν 1462 (LVL Γ b i) []) : SWQ l Γ RL cL_law (YL nm) (QL Γ b L xs) g 175 ca sl μ 1179 (LVL Γ b i) [] := by
  have h0 := st_grouped (rg32 (xs (i + 1))) (rg32 (xs (i + 2))) (rg32 (xs (i + 3))) μ hI
  refine z_rload_n dL_law_1179 rfl 1 rfl ?_
  refine z_arg 1 (by omega) hL rfl rfl dL_law_1180 dL_law_1181 dL_law_1183 dL_law_1184 dL_law_1185 rfl rfl rfl rfl ?_
  refine z_arg 2 (by omega) hL rfl rfl dL_law_1186 dL_law_1187 dL_law_1189 dL_law_1190 dL_law_1191 rfl rfl rfl rfl ?_
  refine z_arg 3 (by omega) hL rfl rfl dL_law_1192 dL_law_1193 dL_law_1195 dL_law_1196 dL_law_1197 rfl rfl rfl rfl ?_
  refine z_VI (i_H_grouped hI.1 h0) vk_X11_grouped kt_0 (by decide) rfl ml_L_144 ⟨Nat.le_of_ble_eq_true rfl, Nat.le_of_ble_eq_true rfl⟩ ⟨hca, hsl⟩ rfl rfl (Nat.le_of_ble_eq_true rfl) dL_law_1198 (fun r1 ν1 s1 h1 => ?_)
  refine z_rload_n dL_law_1201 rfl 2 rfl ?_
  refine z_arg 1 (by omega) hL rfl rfl dL_law_1202 dL_law_1203 dL_law_1205 dL_law_1206 dL_law_1207 rfl rfl rfl rfl ?_
  refine z_arg 2 (by omega) hL rfl rfl dL_law_1208 dL_law_1209 dL_law_1211 dL_law_1212 dL_law_1213 rfl rfl rfl rfl ?_
  refine z_arg 3 (by omega) hL rfl rfl dL_law_1214 dL_law_1215 dL_law_1217 dL_law_1218 dL_law_1219 rfl rfl rfl rfl ?_
  refine z_VI (i_M_grouped s1 h1) vk_X12_grouped kt_113 (by decide) rfl ml_L_147 ⟨Nat.le_of_ble_eq_true rfl, Nat.le_of_ble_eq_true rfl⟩ ⟨hca, hsl⟩ rfl rfl (Nat.le_of_ble_eq_true rfl) dL_law_1220 (fun r2 ν2 s2 h2 => ?_)
  obtain ⟨e2, i2⟩ := h2
  refine z_icmp_eq (A := True) (B := False) (tgt := 1462) dL_law_1223 rfl (by rw [e2, if_pos rfl]; trivial) (fun _ => ?_) (fun z => z.elim)
  exact kk ν2 i2
theorem lc_29 {l : Launch} {Γ : Gam} {b L i : Nat} {xs : Nat → Int32} {nm : String} {g ca sl : Nat} {μ : Mem} (hL : L ≤ 3072) (hi : i + 5 < L) (hca : ca ≤ 601024) (hsl : sl ≤ 7293034) (hI : Inv μ) (kk : ∀ ν : Mem, Inv ν → SWQ l Γ RL cL_law (YL nm) (QL Γ b L xs) g 175 ca sl ν 1462 (LVL Γ b i) []) : SWQ l Γ RL cL_law (YL nm) (QL Γ b L xs) g 175 ca sl μ 1228 (LVL Γ b i) [] := by
  have h0 := st_would (rg32 (xs (i + 1))) (rg32 (xs (i + 2))) μ hI
  refine z_rload_n dL_law_1228 rfl 1 rfl ?_
  refine z_arg 1 (by omega) hL rfl rfl dL_law_1229 dL_law_1230 dL_law_1232 dL_law_1233 dL_law_1234 rfl rfl rfl rfl ?_
  refine z_arg 2 (by omega) hL rfl rfl dL_law_1235 dL_law_1236 dL_law_1238 dL_law_1239 dL_law_1240 rfl rfl rfl rfl ?_
  refine z_VI (i_H_would hI.1 h0) vk_X11_would kt_0 (by decide) rfl ml_L_148 ⟨Nat.le_of_ble_eq_true rfl, Nat.le_of_ble_eq_true rfl⟩ ⟨hca, hsl⟩ rfl rfl (Nat.le_of_ble_eq_true rfl) dL_law_1241 (fun r1 ν1 s1 h1 => ?_)
  refine z_rload_n dL_law_1244 rfl 2 rfl ?_
  refine z_arg 1 (by omega) hL rfl rfl dL_law_1245 dL_law_1246 dL_law_1248 dL_law_1249 dL_law_1250 rfl rfl rfl rfl ?_
  refine z_arg 2 (by omega) hL rfl rfl dL_law_1251 dL_law_1252 dL_law_1254 dL_law_1255 dL_law_1256 rfl rfl rfl rfl ?_
  refine z_VI (i_M_would s1 h1) vk_X12_would kt_113 (by decide) rfl ml_L_151 ⟨Nat.le_of_ble_eq_true rfl, Nat.le_of_ble_eq_true rfl⟩ ⟨hca, hsl⟩ rfl rfl (Nat.le_of_ble_eq_true rfl) dL_law_1257 (fun r2 ν2 s2 h2 => ?_)
  obtain ⟨e2, i2⟩ := h2
  refine z_icmp_eq (A := True) (B := False) (tgt := 1462) dL_law_1260 rfl (by rw [e2, if_pos rfl]; trivial) (fun _ => ?_) (fun z => z.elim)
  exact kk ν2 i2
theorem lc_30 {l : Launch} {Γ : Gam} {b L i : Nat} {xs : Nat → Int32} {nm : String} {g ca sl : Nat} {μ : Mem} (hL : L ≤ 3072) (hi : i + 5 < L) (hca : ca ≤ 601024) (hsl : sl ≤ 7293034) (hI : Inv μ) (kk : ∀ ν : Mem, Inv ν → SWQ l Γ RL cL_law (YL nm) (QL Γ b L xs) g 175 ca sl ν 1462 (LVL Γ b i) []) : SWQ l Γ RL cL_law (YL nm) (QL Γ b L xs) g 175 ca sl μ 1265 (LVL Γ b i) [] := by
  have h0 := st_worth (rg32 (xs (i + 1))) (rg32 (xs (i + 2))) (rg32 (xs (i + 3))) μ hI
  refine z_rload_n dL_law_1265 rfl 1 rfl ?_
  refine z_arg 1 (by omega) hL rfl rfl dL_law_1266 dL_law_1267 dL_law_1269 dL_law_1270 dL_law_1271 rfl rfl rfl rfl ?_
  refine z_arg 2 (by omega) hL rfl rfl dL_law_1272 dL_law_1273 dL_law_1275 dL_law_1276 dL_law_1277 rfl rfl rfl rfl ?_
  refine z_arg 3 (by omega) hL rfl rfl dL_law_1278 dL_law_1279 dL_law_1281 dL_law_1282 dL_law_1283 rfl rfl rfl rfl ?_
  refine z_VB (i_H_worth hI.1 h0) vk_X11_worth kt_0 (by decide) rfl ml_L_152 ⟨Nat.le_of_ble_eq_true rfl, Nat.le_of_ble_eq_true rfl⟩ ⟨hca, hsl⟩ rfl rfl (Nat.le_of_ble_eq_true rfl) dL_law_1284 (fun r1 ν1 s1 h1 => ?_)
  refine z_rload_n dL_law_1287 rfl 2 rfl ?_
  refine z_arg 1 (by omega) hL rfl rfl dL_law_1288 dL_law_1289 dL_law_1291 dL_law_1292 dL_law_1293 rfl rfl rfl rfl ?_
  refine z_arg 2 (by omega) hL rfl rfl dL_law_1294 dL_law_1295 dL_law_1297 dL_law_1298 dL_law_1299 rfl rfl rfl rfl ?_
  refine z_arg 3 (by omega) hL rfl rfl dL_law_1300 dL_law_1301 dL_law_1303 dL_law_1304 dL_law_1305 rfl rfl rfl rfl ?_
  refine z_VB (i_M_worth s1 h1) vk_X12_worth kt_113 (by decide) rfl ml_L_155 ⟨Nat.le_of_ble_eq_true rfl, Nat.le_of_ble_eq_true rfl⟩ ⟨hca, hsl⟩ rfl rfl (Nat.le_of_ble_eq_true rfl) dL_law_1306 (fun r2 ν2 s2 h2 => ?_)
  obtain ⟨e2, i2⟩ := h2
  refine z_icmp_eq (A := True) (B := False) (tgt := 1462) dL_law_1309 rfl (by rw [e2, if_pos rfl]; trivial) (fun _ => ?_) (fun z => z.elim)
  exact kk ν2 i2
theorem lc_31 {l : Launch} {Γ : Gam} {b L i : Nat} {xs : Nat → Int32} {nm : String} {g ca sl : Nat} {μ : Mem} (hL : L ≤ 3072) (hi : i + 5 < L) (hca : ca ≤ 601024) (hsl : sl ≤ 7293034) (hI : Inv μ) (kk : ∀ ν : Mem, Inv ν → SWQ l Γ RL cL_law (YL nm) (QL Γ b L xs) g 175 ca sl ν 1462 (LVL Γ b i) []) : SWQ l Γ RL cL_law (YL nm) (QL Γ b L xs) g 175 ca sl μ 1314 (LVL Γ b i) [] := by
  have h0 := st_inOrder (rg32 (xs (i + 1))) (rg32 (xs (i + 2))) (rg32 (xs (i + 3))) μ hI
  refine z_rload_n dL_law_1314 rfl 1 rfl ?_
  refine z_arg 1 (by omega) hL rfl rfl dL_law_1315 dL_law_1316 dL_law_1318 dL_law_1319 dL_law_1320 rfl rfl rfl rfl ?_
  refine z_arg 2 (by omega) hL rfl rfl dL_law_1321 dL_law_1322 dL_law_1324 dL_law_1325 dL_law_1326 rfl rfl rfl rfl ?_
  refine z_arg 3 (by omega) hL rfl rfl dL_law_1327 dL_law_1328 dL_law_1330 dL_law_1331 dL_law_1332 rfl rfl rfl rfl ?_
  refine z_VI (i_H_inOrder hI.1 h0) vk_X11_inOrder kt_0 (by decide) rfl ml_L_156 ⟨Nat.le_of_ble_eq_true rfl, Nat.le_of_ble_eq_true rfl⟩ ⟨hca, hsl⟩ rfl rfl (Nat.le_of_ble_eq_true rfl) dL_law_1333 (fun r1 ν1 s1 h1 => ?_)
  refine z_rload_n dL_law_1336 rfl 2 rfl ?_
  refine z_arg 1 (by omega) hL rfl rfl dL_law_1337 dL_law_1338 dL_law_1340 dL_law_1341 dL_law_1342 rfl rfl rfl rfl ?_
  refine z_arg 2 (by omega) hL rfl rfl dL_law_1343 dL_law_1344 dL_law_1346 dL_law_1347 dL_law_1348 rfl rfl rfl rfl ?_
  refine z_arg 3 (by omega) hL rfl rfl dL_law_1349 dL_law_1350 dL_law_1352 dL_law_1353 dL_law_1354 rfl rfl rfl rfl ?_
  refine z_VI (i_M_inOrder s1 h1) vk_X12_inOrder kt_113 (by decide) rfl ml_L_159 ⟨Nat.le_of_ble_eq_true rfl, Nat.le_of_ble_eq_true rfl⟩ ⟨hca, hsl⟩ rfl rfl (Nat.le_of_ble_eq_true rfl) dL_law_1355 (fun r2 ν2 s2 h2 => ?_)
  obtain ⟨e2, i2⟩ := h2
  refine z_icmp_eq (A := True) (B := False) (tgt := 1462) dL_law_1358 rfl (by rw [e2, if_pos rfl]; trivial) (fun _ => ?_) (fun z => z.elim)
  exact kk ν2 i2
theorem lc_32 {l : Launch} {Γ : Gam} {b L i : Nat} {xs : Nat → Int32} {nm : String} {g ca sl : Nat} {μ : Mem} (hL : L ≤ 3072) (hi : i + 5 < L) (hca : ca ≤ 601024) (hsl : sl ≤ 7293034) (hI : Inv μ) (kk : ∀ ν : Mem, Inv ν → SWQ l Γ RL cL_law (YL nm) (QL Γ b L xs) g 175 ca sl ν 1462 (LVL Γ b i) []) : SWQ l Γ RL cL_law (YL nm) (QL Γ b L xs) g 175 ca sl μ 1363 (LVL Γ b i) [] := by
  have h0 := st_best (rg32 (xs (i + 1))) (rg32 (xs (i + 2))) (rg32 (xs (i + 3))) μ hI
  refine z_rload_n dL_law_1363 rfl 1 rfl ?_
  refine z_arg 1 (by omega) hL rfl rfl dL_law_1364 dL_law_1365 dL_law_1367 dL_law_1368 dL_law_1369 rfl rfl rfl rfl ?_
  refine z_arg 2 (by omega) hL rfl rfl dL_law_1370 dL_law_1371 dL_law_1373 dL_law_1374 dL_law_1375 rfl rfl rfl rfl ?_
  refine z_arg 3 (by omega) hL rfl rfl dL_law_1376 dL_law_1377 dL_law_1379 dL_law_1380 dL_law_1381 rfl rfl rfl rfl ?_
  refine z_VI (i_H_best hI.1 h0) vk_X11_best kt_0 (by decide) rfl ml_L_160 ⟨Nat.le_of_ble_eq_true rfl, Nat.le_of_ble_eq_true rfl⟩ ⟨hca, hsl⟩ rfl rfl (Nat.le_of_ble_eq_true rfl) dL_law_1382 (fun r1 ν1 s1 h1 => ?_)
  refine z_rload_n dL_law_1385 rfl 2 rfl ?_
  refine z_arg 1 (by omega) hL rfl rfl dL_law_1386 dL_law_1387 dL_law_1389 dL_law_1390 dL_law_1391 rfl rfl rfl rfl ?_
  refine z_arg 2 (by omega) hL rfl rfl dL_law_1392 dL_law_1393 dL_law_1395 dL_law_1396 dL_law_1397 rfl rfl rfl rfl ?_
  refine z_arg 3 (by omega) hL rfl rfl dL_law_1398 dL_law_1399 dL_law_1401 dL_law_1402 dL_law_1403 rfl rfl rfl rfl ?_
  refine z_VI (i_M_best s1 h1) vk_X12_best kt_113 (by decide) rfl ml_L_163 ⟨Nat.le_of_ble_eq_true rfl, Nat.le_of_ble_eq_true rfl⟩ ⟨hca, hsl⟩ rfl rfl (Nat.le_of_ble_eq_true rfl) dL_law_1404 (fun r2 ν2 s2 h2 => ?_)
  obtain ⟨e2, i2⟩ := h2
  refine z_icmp_eq (A := True) (B := False) (tgt := 1462) dL_law_1407 rfl (by rw [e2, if_pos rfl]; trivial) (fun _ => ?_) (fun z => z.elim)
  exact kk ν2 i2
theorem lc_33 {l : Launch} {Γ : Gam} {b L i : Nat} {xs : Nat → Int32} {nm : String} {g ca sl : Nat} {μ : Mem} (hL : L ≤ 3072) (hi : i + 5 < L) (hca : ca ≤ 601024) (hsl : sl ≤ 7293034) (hI : Inv μ) (kk : ∀ ν : Mem, Inv ν → SWQ l Γ RL cL_law (YL nm) (QL Γ b L xs) g 175 ca sl ν 1462 (LVL Γ b i) []) : SWQ l Γ RL cL_law (YL nm) (QL Γ b L xs) g 175 ca sl μ 1412 (LVL Γ b i) [] := by
  have h0 := st_deal (rg32 (xs (i + 1))) μ hI
  refine z_rload_n dL_law_1412 rfl 1 rfl ?_
  refine z_arg 1 (by omega) hL rfl rfl dL_law_1413 dL_law_1414 dL_law_1416 dL_law_1417 dL_law_1418 rfl rfl rfl rfl ?_
  refine z_VI (i_H_deal hI.1 h0) vk_X11_deal kt_0 (by decide) rfl ml_L_164 ⟨Nat.le_of_ble_eq_true rfl, Nat.le_of_ble_eq_true rfl⟩ ⟨hca, hsl⟩ rfl rfl (Nat.le_of_ble_eq_true rfl) dL_law_1419 (fun r1 ν1 s1 h1 => ?_)
  refine z_rload_n dL_law_1422 rfl 2 rfl ?_
  refine z_arg 1 (by omega) hL rfl rfl dL_law_1423 dL_law_1424 dL_law_1426 dL_law_1427 dL_law_1428 rfl rfl rfl rfl ?_
  refine z_VI (i_M_deal s1 h1) vk_X12_deal kt_113 (by decide) rfl ml_L_167 ⟨Nat.le_of_ble_eq_true rfl, Nat.le_of_ble_eq_true rfl⟩ ⟨hca, hsl⟩ rfl rfl (Nat.le_of_ble_eq_true rfl) dL_law_1429 (fun r2 ν2 s2 h2 => ?_)
  obtain ⟨e2, i2⟩ := h2
  refine z_icmp_eq (A := True) (B := False) (tgt := 1462) dL_law_1432 rfl (by rw [e2, if_pos rfl]; trivial) (fun _ => ?_) (fun z => z.elim)
  exact kk ν2 i2
theorem lc_34 {l : Launch} {Γ : Gam} {b L i : Nat} {xs : Nat → Int32} {nm : String} {g ca sl : Nat} {μ : Mem} (hL : L ≤ 3072) (hi : i + 5 < L) (hca : ca ≤ 601024) (hsl : sl ≤ 7293034) (hI : Inv μ) (kk : ∀ ν : Mem, Inv ν → SWQ l Γ RL cL_law (YL nm) (QL Γ b L xs) g 175 ca sl ν 1462 (LVL Γ b i) []) : SWQ l Γ RL cL_law (YL nm) (QL Γ b L xs) g 175 ca sl μ 1437 (LVL Γ b i) [] := by
  have h0 := st_count (rg32 (xs (i + 1))) μ hI
  refine z_rload_n dL_law_1437 rfl 1 rfl ?_
  refine z_arg 1 (by omega) hL rfl rfl dL_law_1438 dL_law_1439 dL_law_1441 dL_law_1442 dL_law_1443 rfl rfl rfl rfl ?_
  refine z_VI (i_H_count hI.1 h0) vk_X11_count kt_0 (by decide) rfl ml_L_168 ⟨Nat.le_of_ble_eq_true rfl, Nat.le_of_ble_eq_true rfl⟩ ⟨hca, hsl⟩ rfl rfl (Nat.le_of_ble_eq_true rfl) dL_law_1444 (fun r1 ν1 s1 h1 => ?_)
  refine z_rload_n dL_law_1447 rfl 2 rfl ?_
  refine z_arg 1 (by omega) hL rfl rfl dL_law_1448 dL_law_1449 dL_law_1451 dL_law_1452 dL_law_1453 rfl rfl rfl rfl ?_
  refine z_VI (i_M_count s1 h1) vk_X12_count kt_113 (by decide) rfl ml_L_171 ⟨Nat.le_of_ble_eq_true rfl, Nat.le_of_ble_eq_true rfl⟩ ⟨hca, hsl⟩ rfl rfl (Nat.le_of_ble_eq_true rfl) dL_law_1454 (fun r2 ν2 s2 h2 => ?_)
  obtain ⟨e2, i2⟩ := h2
  refine z_icmp_eq (A := True) (B := False) (tgt := 1462) dL_law_1457 rfl (by rw [e2, if_pos rfl]; trivial) (fun _ => ?_) (fun z => z.elim)
  exact kk ν2 i2
