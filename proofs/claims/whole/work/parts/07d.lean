abbrev Y_M_readClause : Yt := (3, none, yX12_readClause.name, { frames := 611, cells := 0, slots := 0, locals := 3921 }, 175, 0, 0)
def b_M_readClause_220 (k : Mem → Prop) (v2_6 : Int) (μ_20 : Mem) : Prop := f_M_wantWord 9 μ_20 (fun μ_21 => R_P 60 0  μ_21 (fun μ_22 => f_M_wantSign 59 μ_22 (fun μ_23 => 0 ≤ w v2_6 ∧ w v2_6 < ((165 : Nat) : Int) ∧ ∀ μ_24 : Mem, μ_24 = sI μ_23 149 (w v2_6) (rI μ_23 144 (w 10)) → k μ_24)))
def b_M_readClause_209 (k : Mem → Prop) (v1_4 : Int) (v2_5 : Int) (μ_19 : Mem) : Prop := if w 2 < w v1_4 then (if w v1_4 = w 7 then (b_M_readClause_220 k v2_5 μ_19) else (f_M_wantSign 59 μ_19 (fun μ_25 => 0 ≤ w v2_5 ∧ w v2_5 < ((165 : Nat) : Int) ∧ ∀ μ_26 : Mem, μ_26 = sI μ_25 149 (w v2_5) (rI μ_25 144 (w 10)) → k μ_26))) else (b_M_readClause_220 k v2_5 μ_19)
def b_M_readClause_199 (k : Mem → Prop) (v1_3 : Int) (v2_4 : Int) (s1 : Int) (s2 : Int) (μ_16 : Mem) : Prop := 0 ≤ w s1 ∧ w s1 < ((165 : Nat) : Int) ∧ ∀ μ_17 : Mem, μ_17 = sI μ_16 147 (w s1) s2 → if w v1_3 = w 3 then (R_P 60 4  μ_17 (fun μ_18 => b_M_readClause_209 k v1_3 v2_4 μ_18)) else (b_M_readClause_209 k v1_3 v2_4 μ_17)
def b_M_readClause_139 (k : Mem → Prop) (v1_2 : Int) (v2_3 : Int) (μ_11 : Mem) : Prop := 0 ≤ w v2_3 ∧ w v2_3 < ((165 : Nat) : Int) ∧ ∀ μ_12 : Mem, μ_12 = sI μ_11 146 (w v2_3) v1_2 → ∀ μ_13 : Mem, μ_13 = sI μ_12 15521 0 v1_2 → 0 ≤ w v2_3 ∧ w v2_3 < ((165 : Nat) : Int) ∧ ∀ μ_14 : Mem, μ_14 = sI μ_13 148 (w v2_3) (rI μ_13 144 (w 10)) → if w v1_2 = w 4 then (f_M_readNumber 999 μ_14 (fun r178 μ_15 => b_M_readClause_199 k v1_2 v2_3 v2_3 r178 μ_15)) else (if w v1_2 = w 5 then (f_M_readNumber 12 μ_14 (fun r192 μ_27 => b_M_readClause_199 k v1_2 v2_3 v2_3 r192 μ_27)) else (b_M_readClause_199 k v1_2 v2_3 v2_3 0 μ_14))
def b_M_readClause_128 (k : Mem → Prop) (v1_1 : Int) (v2_2 : Int) (μ_9 : Mem) : Prop := if (v_M_isWell μ_9) = true then (f_M_next  μ_9 (fun μ_10 => b_M_readClause_139 k v1_1 v2_2 μ_10)) else (b_M_readClause_139 k v1_1 v2_2 μ_9)
def b_M_readClause_117 (k : Mem → Prop) (v2_1 : Int) (s0 : Int) (μ_7 : Mem) : Prop := if w s0 = w (-1) then (f_M_fails 1 μ_7 (fun μ_8 => b_M_readClause_128 k s0 v2_1 μ_8)) else (b_M_readClause_128 k s0 v2_1 μ_7)
def b_M_readClause_35 (k : Mem → Prop) (v1 : Int) (μ_3 : Mem) : Prop := if (v_M_isWell μ_3) = true then (∀ v2 : Int, v2 = 150 + (rI μ_3 145 (w 10)) → ∀ μ_4 : Mem, μ_4 = sI μ_3 145 (w 10) ((rI μ_3 145 (w 10)) + 1) → f_M_next  μ_4 (fun μ_5 => if w v1 = 0 then (f_M_isWord 6 μ_5 (fun r78 μ_6 => if r78 = true then (b_M_readClause_117 k v2 0 μ_6) else (f_M_isWord 7 μ_6 (fun r92 μ_28 => if r92 = true then (b_M_readClause_117 k v2 1 μ_28) else (f_M_isWord 8 μ_28 (fun r106 μ_29 => ∀ x117 : Int, x117 = (if r106 = true then 2 else (-1)) → if w x117 = w (-1) then (f_M_fails 1 μ_29 (fun μ_30 => b_M_readClause_128 k x117 v2 μ_30)) else (b_M_readClause_128 k x117 v2 μ_29))))))) else (b_M_readClause_139 k v1 v2 μ_5))) else (k μ_3)
def f_M_readClause  (μ : Mem) (k : Mem → Prop) : Prop := f_M_clauseKind  μ (fun r1 μ_1 => if w r1 = w (-1) then (f_M_fails 1 μ_1 (fun μ_2 => b_M_readClause_35 k r1 μ_2)) else (if w (rI μ_1 145 (w 10)) = w 15 then (f_M_fails 4 μ_1 (fun μ_31 => b_M_readClause_35 k r1 μ_31)) else (b_M_readClause_35 k r1 μ_1)))
theorem B_M_readClause_220 {l : Launch} {Γ : Gam} {g : Nat} {k : Mem → Prop} {v2_6 : Int} {μ_20 : Mem} (hs : StatR μ_20.2.2) (h : b_M_readClause_220 k v2_6 μ_20) : SW l Γ yX12_readClause.cls cX12_readClause Y_M_readClause (pV k) g 175 0 0 μ_20 220 [(0, vr Γ 113), (2, vi v2_6)] [] := by
  unfold b_M_readClause_220 at h
  refine z_rload_n dX12_readClause_220 rfl 0 rfl ?_
  refine z_ldcSw dX12_readClause_221 st_X12_418 ?_
  refine z_VU (i_M_wantWord (Nat.le_of_ble_eq_true rfl) hs h) vk_X12_wantWord kt_113 (Nat.le_of_ble_eq_true rfl) rfl ml_X12_420 ⟨Nat.le_of_ble_eq_true rfl, Nat.le_of_ble_eq_true rfl⟩ ⟨Nat.zero_le _, Nat.zero_le _⟩ rfl rfl (Nat.le_of_ble_eq_true rfl) dX12_readClause_224 (fun μ_21 hs h => ?_)
  refine z_rload_n dX12_readClause_227 rfl 0 rfl ?_
  refine z_VU ((ok_P 60 _ _ hs).1 h) vk_X12_cond kt_113 (Nat.le_of_ble_eq_true rfl) rfl ml_X12_380 ⟨Nat.le_of_ble_eq_true rfl, Nat.le_of_ble_eq_true rfl⟩ ⟨Nat.zero_le _, Nat.zero_le _⟩ rfl rfl (Nat.le_of_ble_eq_true rfl) dX12_readClause_228 (fun μ_22 hs h => ?_)
  refine z_rload_n dX12_readClause_231 rfl 0 rfl ?_
  refine z_bipush dX12_readClause_232 (by decide) ?_
  refine z_VU (i_M_wantSign  hs h) vk_X12_wantSign kt_113 (Nat.le_of_ble_eq_true rfl) rfl ml_X12_369 ⟨Nat.le_of_ble_eq_true rfl, Nat.le_of_ble_eq_true rfl⟩ ⟨Nat.zero_le _, Nat.zero_le _⟩ rfl rfl (Nat.le_of_ble_eq_true rfl) dX12_readClause_234 (fun μ_23 hs h => ?_)
  refine z_rload_n dX12_readClause_237 rfl 0 rfl ?_
  refine z_getR (q := 15510) ff_12_46 dX12_readClause_238 kt_113 (Nat.le_of_ble_eq_true rfl) fl_X12_129 rfl (hs.1 _ _ sr_15510) ?_
  refine z_iload_n dX12_readClause_241 rfl 1 rfl ?_
  refine z_rload_n dX12_readClause_242 rfl 0 rfl ?_
  refine z_getR (q := 15505) ff_12_41 dX12_readClause_243 kt_113 (Nat.le_of_ble_eq_true rfl) fl_X12_114 rfl (hs.1 _ _ sr_15505) ?_
  refine z_bipush dX12_readClause_246 (by decide) ?_
  refine z_iald dX12_readClause_248 kt_144 (Nat.le_of_ble_eq_true rfl) (by decide) (by decide) ?_
  obtain ⟨h0, h1, h⟩ := h
  refine z_iast dX12_readClause_249 kt_149 (Nat.le_of_ble_eq_true rfl) h0 h1 ?_
  refine z_mm (fun μ_24 eμ_24 => ?_)
  replace h := h μ_24 eμ_24
  replace hs : StatR μ_24.2.2 := by rw [eμ_24]; exact hs
  exact z_vret rfl dX12_readClause_250 rfl rfl rfl ⟨rfl, hs, h⟩
theorem B_M_readClause_209 {l : Launch} {Γ : Gam} {g : Nat} {k : Mem → Prop} {v1_4 : Int} {v2_5 : Int} {μ_19 : Mem} (hs : StatR μ_19.2.2) (h : b_M_readClause_209 k v1_4 v2_5 μ_19) : SW l Γ yX12_readClause.cls cX12_readClause Y_M_readClause (pV k) g 175 0 0 μ_19 209 [(0, vr Γ 113), (1, vi v1_4), (2, vi v2_5)] [] := by
  unfold b_M_readClause_209 at h
  refine z_iload_n dX12_readClause_209 rfl 1 rfl ?_
  refine z_iconst dX12_readClause_210 ?_
  refine z_icmp_le (tgt := 220) dX12_readClause_211 (by decide) h (fun h => ?_) (fun h => ?_)
  · refine z_iload_n dX12_readClause_214 rfl 1 rfl ?_
    refine z_bipush dX12_readClause_215 (by decide) ?_
    refine z_icmp_ne (tgt := 231) dX12_readClause_217 (by decide) h (fun h => ?_) (fun h => ?_)
    · refine z_sub (lv' := [(0, vr Γ 113), (2, vi v2_5)]) [0, 2] rfl ?_
      exact B_M_readClause_220 hs h
    · refine z_rload_n dX12_readClause_231 rfl 0 rfl ?_
      refine z_bipush dX12_readClause_232 (by decide) ?_
      refine z_VU (i_M_wantSign  hs h) vk_X12_wantSign kt_113 (Nat.le_of_ble_eq_true rfl) rfl ml_X12_369 ⟨Nat.le_of_ble_eq_true rfl, Nat.le_of_ble_eq_true rfl⟩ ⟨Nat.zero_le _, Nat.zero_le _⟩ rfl rfl (Nat.le_of_ble_eq_true rfl) dX12_readClause_234 (fun μ_25 hs h => ?_)
      refine z_rload_n dX12_readClause_237 rfl 0 rfl ?_
      refine z_getR (q := 15510) ff_12_46 dX12_readClause_238 kt_113 (Nat.le_of_ble_eq_true rfl) fl_X12_129 rfl (hs.1 _ _ sr_15510) ?_
      refine z_iload_n dX12_readClause_241 rfl 2 rfl ?_
      refine z_rload_n dX12_readClause_242 rfl 0 rfl ?_
      refine z_getR (q := 15505) ff_12_41 dX12_readClause_243 kt_113 (Nat.le_of_ble_eq_true rfl) fl_X12_114 rfl (hs.1 _ _ sr_15505) ?_
      refine z_bipush dX12_readClause_246 (by decide) ?_
      refine z_iald dX12_readClause_248 kt_144 (Nat.le_of_ble_eq_true rfl) (by decide) (by decide) ?_
      obtain ⟨h0, h1, h⟩ := h
      refine z_iast dX12_readClause_249 kt_149 (Nat.le_of_ble_eq_true rfl) h0 h1 ?_
      refine z_mm (fun μ_26 eμ_26 => ?_)
      replace h := h μ_26 eμ_26
      replace hs : StatR μ_26.2.2 := by rw [eμ_26]; exact hs
      exact z_vret rfl dX12_readClause_250 rfl rfl rfl ⟨rfl, hs, h⟩
  · refine z_sub (lv' := [(0, vr Γ 113), (2, vi v2_5)]) [0, 2] rfl ?_
    exact B_M_readClause_220 hs h
theorem B_M_readClause_199 {l : Launch} {Γ : Gam} {g : Nat} {k : Mem → Prop} {v1_3 : Int} {v2_4 : Int} {s1 : Int} {s2 : Int} {μ_16 : Mem} (hs : StatR μ_16.2.2) (h : b_M_readClause_199 k v1_3 v2_4 s1 s2 μ_16) : SW l Γ yX12_readClause.cls cX12_readClause Y_M_readClause (pV k) g 175 0 0 μ_16 199 [(0, vr Γ 113), (1, vi v1_3), (2, vi v2_4)] [vi s2, vi s1, vr Γ 147] := by
  unfold b_M_readClause_199 at h
  obtain ⟨h0, h1, h⟩ := h
  refine z_iast dX12_readClause_199 kt_147 (Nat.le_of_ble_eq_true rfl) h0 h1 ?_
  refine z_mm (fun μ_17 eμ_17 => ?_)
  replace h := h μ_17 eμ_17
  replace hs : StatR μ_17.2.2 := by rw [eμ_17]; exact hs
  refine z_iload_n dX12_readClause_200 rfl 1 rfl ?_
  refine z_iconst dX12_readClause_201 ?_
  refine z_icmp_ne (tgt := 209) dX12_readClause_202 (by decide) h (fun h => ?_) (fun h => ?_)
  · refine z_rload_n dX12_readClause_205 rfl 0 rfl ?_
    refine z_VU ((ok_P 60 _ _ hs).2.2.2.2.1 h) vk_X12_sum kt_113 (Nat.le_of_ble_eq_true rfl) rfl ml_X12_366 ⟨Nat.le_of_ble_eq_true rfl, Nat.le_of_ble_eq_true rfl⟩ ⟨Nat.zero_le _, Nat.zero_le _⟩ rfl rfl (Nat.le_of_ble_eq_true rfl) dX12_readClause_206 (fun μ_18 hs h => ?_)
    refine z_sub (lv' := [(0, vr Γ 113), (1, vi v1_3), (2, vi v2_4)]) [0, 1, 2] rfl ?_
    exact B_M_readClause_209 hs h
  · refine z_sub (lv' := [(0, vr Γ 113), (1, vi v1_3), (2, vi v2_4)]) [0, 1, 2] rfl ?_
    exact B_M_readClause_209 hs h
theorem B_M_readClause_139 {l : Launch} {Γ : Gam} {g : Nat} {k : Mem → Prop} {v1_2 : Int} {v2_3 : Int} {μ_11 : Mem} (hs : StatR μ_11.2.2) (h : b_M_readClause_139 k v1_2 v2_3 μ_11) : SW l Γ yX12_readClause.cls cX12_readClause Y_M_readClause (pV k) g 175 0 0 μ_11 139 [(0, vr Γ 113), (1, vi v1_2), (2, vi v2_3)] [] := by
  unfold b_M_readClause_139 at h
  refine z_rload_n dX12_readClause_139 rfl 0 rfl ?_
  refine z_getR (q := 15507) ff_12_43 dX12_readClause_140 kt_113 (Nat.le_of_ble_eq_true rfl) fl_X12_120 rfl (hs.1 _ _ sr_15507) ?_
  refine z_iload_n dX12_readClause_143 rfl 2 rfl ?_
  refine z_iload_n dX12_readClause_144 rfl 1 rfl ?_
  obtain ⟨h0, h1, h⟩ := h
  refine z_iast dX12_readClause_145 kt_146 (Nat.le_of_ble_eq_true rfl) h0 h1 ?_
  refine z_mm (fun μ_12 eμ_12 => ?_)
  replace h := h μ_12 eμ_12
  replace hs : StatR μ_12.2.2 := by rw [eμ_12]; exact hs
  refine z_rload_n dX12_readClause_146 rfl 0 rfl ?_
  refine z_iload_n dX12_readClause_147 rfl 1 rfl ?_
  refine z_putI (q := 15521) ff_12_57 (Or.inl rfl) rfl dX12_readClause_148 kt_113 (Nat.le_of_ble_eq_true rfl) fl_X12_333 rfl ?_
  refine z_mm (fun μ_13 eμ_13 => ?_)
  replace h := h μ_13 eμ_13
  replace hs : StatR μ_13.2.2 := by rw [eμ_13]; exact hs
  refine z_rload_n dX12_readClause_151 rfl 0 rfl ?_
  refine z_getR (q := 15509) ff_12_45 dX12_readClause_152 kt_113 (Nat.le_of_ble_eq_true rfl) fl_X12_126 rfl (hs.1 _ _ sr_15509) ?_
  refine z_iload_n dX12_readClause_155 rfl 2 rfl ?_
  refine z_rload_n dX12_readClause_156 rfl 0 rfl ?_
  refine z_getR (q := 15505) ff_12_41 dX12_readClause_157 kt_113 (Nat.le_of_ble_eq_true rfl) fl_X12_114 rfl (hs.1 _ _ sr_15505) ?_
  refine z_bipush dX12_readClause_160 (by decide) ?_
  refine z_iald dX12_readClause_162 kt_144 (Nat.le_of_ble_eq_true rfl) (by decide) (by decide) ?_
  obtain ⟨h0, h1, h⟩ := h
  refine z_iast dX12_readClause_163 kt_148 (Nat.le_of_ble_eq_true rfl) h0 h1 ?_
  refine z_mm (fun μ_14 eμ_14 => ?_)
  replace h := h μ_14 eμ_14
  replace hs : StatR μ_14.2.2 := by rw [eμ_14]; exact hs
  refine z_rload_n dX12_readClause_164 rfl 0 rfl ?_
  refine z_getR (q := 15508) ff_12_44 dX12_readClause_165 kt_113 (Nat.le_of_ble_eq_true rfl) fl_X12_123 rfl (hs.1 _ _ sr_15508) ?_
  refine z_iload_n dX12_readClause_168 rfl 2 rfl ?_
  refine z_iload_n dX12_readClause_169 rfl 1 rfl ?_
  refine z_iconst dX12_readClause_170 ?_
  refine z_icmp_ne (tgt := 184) dX12_readClause_171 (by decide) h (fun h => ?_) (fun h => ?_)
  · refine z_rload_n dX12_readClause_174 rfl 0 rfl ?_
    refine z_sipush dX12_readClause_175 (by decide) ?_
    refine z_VI (i_M_readNumber  hs h) vk_X12_readNumber kt_113 (Nat.le_of_ble_eq_true rfl) rfl ml_X12_415 ⟨Nat.le_of_ble_eq_true rfl, Nat.le_of_ble_eq_true rfl⟩ ⟨Nat.zero_le _, Nat.zero_le _⟩ rfl rfl (Nat.le_of_ble_eq_true rfl) dX12_readClause_178 (fun r178 μ_15 hs h => ?_)
    refine z_goto (tgt := 199) dX12_readClause_181 (by decide) ?_
    refine z_sub (lv' := [(0, vr Γ 113), (1, vi v1_2), (2, vi v2_3)]) [0, 1, 2] rfl ?_
    exact B_M_readClause_199 hs h
  · refine z_iload_n dX12_readClause_184 rfl 1 rfl ?_
    refine z_iconst dX12_readClause_185 ?_
    refine z_icmp_ne (tgt := 198) dX12_readClause_186 (by decide) h (fun h => ?_) (fun h => ?_)
    · refine z_rload_n dX12_readClause_189 rfl 0 rfl ?_
      refine z_bipush dX12_readClause_190 (by decide) ?_
      refine z_VI (i_M_readNumber  hs h) vk_X12_readNumber kt_113 (Nat.le_of_ble_eq_true rfl) rfl ml_X12_415 ⟨Nat.le_of_ble_eq_true rfl, Nat.le_of_ble_eq_true rfl⟩ ⟨Nat.zero_le _, Nat.zero_le _⟩ rfl rfl (Nat.le_of_ble_eq_true rfl) dX12_readClause_192 (fun r192 μ_27 hs h => ?_)
      refine z_goto (tgt := 199) dX12_readClause_195 (by decide) ?_
      refine z_sub (lv' := [(0, vr Γ 113), (1, vi v1_2), (2, vi v2_3)]) [0, 1, 2] rfl ?_
      exact B_M_readClause_199 hs h
    · refine z_iconst dX12_readClause_198 ?_
      refine z_sub (lv' := [(0, vr Γ 113), (1, vi v1_2), (2, vi v2_3)]) [0, 1, 2] rfl ?_
      exact B_M_readClause_199 hs h
theorem B_M_readClause_128 {l : Launch} {Γ : Gam} {g : Nat} {k : Mem → Prop} {v1_1 : Int} {v2_2 : Int} {μ_9 : Mem} (hs : StatR μ_9.2.2) (h : b_M_readClause_128 k v1_1 v2_2 μ_9) : SW l Γ yX12_readClause.cls cX12_readClause Y_M_readClause (pV k) g 175 0 0 μ_9 128 [(0, vr Γ 113), (1, vi v1_1), (2, vi v2_2)] [] := by
  unfold b_M_readClause_128 at h
  refine z_rload_n dX12_readClause_128 rfl 0 rfl ?_
  refine z_VE (i_M_isWell ) vk_X12_isWell kt_113 (Nat.le_of_ble_eq_true rfl) rfl ml_X12_316 ⟨Nat.le_of_ble_eq_true rfl, Nat.le_of_ble_eq_true rfl⟩ ⟨Nat.zero_le _, Nat.zero_le _⟩ rfl rfl (Nat.le_of_ble_eq_true rfl) dX12_readClause_129 ?_
  refine z_ifeq_b (tgt := 139) dX12_readClause_132 (by decide) h (fun h => ?_) (fun h => ?_)
  · refine z_rload_n dX12_readClause_135 rfl 0 rfl ?_
    refine z_VU (i_M_next  hs h) vk_X12_next kt_113 (Nat.le_of_ble_eq_true rfl) rfl ml_X12_322 ⟨Nat.le_of_ble_eq_true rfl, Nat.le_of_ble_eq_true rfl⟩ ⟨Nat.zero_le _, Nat.zero_le _⟩ rfl rfl (Nat.le_of_ble_eq_true rfl) dX12_readClause_136 (fun μ_10 hs h => ?_)
    refine z_sub (lv' := [(0, vr Γ 113), (1, vi v1_1), (2, vi v2_2)]) [0, 1, 2] rfl ?_
    exact B_M_readClause_139 hs h
  · refine z_sub (lv' := [(0, vr Γ 113), (1, vi v1_1), (2, vi v2_2)]) [0, 1, 2] rfl ?_
    exact B_M_readClause_139 hs h
theorem B_M_readClause_117 {l : Launch} {Γ : Gam} {g : Nat} {k : Mem → Prop} {v2_1 : Int} {s0 : Int} {μ_7 : Mem} (hs : StatR μ_7.2.2) (h : b_M_readClause_117 k v2_1 s0 μ_7) : SW l Γ yX12_readClause.cls cX12_readClause Y_M_readClause (pV k) g 175 0 0 μ_7 117 [(0, vr Γ 113), (2, vi v2_1)] [vi s0] := by
  unfold b_M_readClause_117 at h
  refine z_istore_n (lv' := [(1, vi s0), (0, vr Γ 113), (2, vi v2_1)]) dX12_readClause_117 rfl (Nat.le_of_ble_eq_true rfl) rfl ?_
  refine z_iload_n dX12_readClause_118 rfl 0 rfl ?_
  refine z_iconst dX12_readClause_119 ?_
  refine z_icmp_ne (tgt := 128) dX12_readClause_120 (by decide) h (fun h => ?_) (fun h => ?_)
  · refine z_rload_n dX12_readClause_123 rfl 1 rfl ?_
    refine z_iconst dX12_readClause_124 ?_
    refine z_VU (i_M_fails  hs h) vk_X12_fails kt_113 (Nat.le_of_ble_eq_true rfl) rfl ml_X12_325 ⟨Nat.le_of_ble_eq_true rfl, Nat.le_of_ble_eq_true rfl⟩ ⟨Nat.zero_le _, Nat.zero_le _⟩ rfl rfl (Nat.le_of_ble_eq_true rfl) dX12_readClause_125 (fun μ_8 hs h => ?_)
    refine z_sub (lv' := [(0, vr Γ 113), (1, vi s0), (2, vi v2_1)]) [1, 0, 2] rfl ?_
    exact B_M_readClause_128 hs h
  · refine z_sub (lv' := [(0, vr Γ 113), (1, vi s0), (2, vi v2_1)]) [1, 0, 2] rfl ?_
    exact B_M_readClause_128 hs h
theorem B_M_readClause_35 {l : Launch} {Γ : Gam} {g : Nat} {k : Mem → Prop} {v1 : Int} {μ_3 : Mem} (hs : StatR μ_3.2.2) (h : b_M_readClause_35 k v1 μ_3) : SW l Γ yX12_readClause.cls cX12_readClause Y_M_readClause (pV k) g 175 0 0 μ_3 35 [(0, vr Γ 113), (1, vi v1)] [] := by
  unfold b_M_readClause_35 at h
  refine z_rload_n dX12_readClause_35 rfl 0 rfl ?_
  refine z_VE (i_M_isWell ) vk_X12_isWell kt_113 (Nat.le_of_ble_eq_true rfl) rfl ml_X12_316 ⟨Nat.le_of_ble_eq_true rfl, Nat.le_of_ble_eq_true rfl⟩ ⟨Nat.zero_le _, Nat.zero_le _⟩ rfl rfl (Nat.le_of_ble_eq_true rfl) dX12_readClause_36 ?_
  refine z_ifne_b (tgt := 43) dX12_readClause_39 (by decide) h (fun h => ?_) (fun h => ?_)
  · refine z_sipush dX12_readClause_43 (by decide) ?_
    refine z_rload_n dX12_readClause_46 rfl 0 rfl ?_
    refine z_getR (q := 15506) ff_12_42 dX12_readClause_47 kt_113 (Nat.le_of_ble_eq_true rfl) fl_X12_117 rfl (hs.1 _ _ sr_15506) ?_
    refine z_bipush dX12_readClause_50 (by decide) ?_
    refine z_iald dX12_readClause_52 kt_145 (Nat.le_of_ble_eq_true rfl) (by decide) (by decide) ?_
    refine z_iadd dX12_readClause_53 ?_
    refine z_nm (fun v2 ev2 => ?_)
    replace h := h v2 ev2
    refine z_istore_n (lv' := [(2, vi v2), (0, vr Γ 113), (1, vi v1)]) dX12_readClause_54 rfl (Nat.le_of_ble_eq_true rfl) rfl ?_
    refine z_rload_n dX12_readClause_55 rfl 1 rfl ?_
    refine z_getR (q := 15506) ff_12_42 dX12_readClause_56 kt_113 (Nat.le_of_ble_eq_true rfl) fl_X12_117 rfl (hs.1 _ _ sr_15506) ?_
    refine z_bipush dX12_readClause_59 (by decide) ?_
    refine z_dup2 dX12_readClause_61 rfl rfl ?_
    refine z_iald dX12_readClause_62 kt_145 (Nat.le_of_ble_eq_true rfl) (by decide) (by decide) ?_
    refine z_iconst dX12_readClause_63 ?_
    refine z_iadd dX12_readClause_64 ?_
    refine z_iast dX12_readClause_65 kt_145 (Nat.le_of_ble_eq_true rfl) (by decide) (by decide) ?_
    refine z_mm (fun μ_4 eμ_4 => ?_)
    replace h := h μ_4 eμ_4
    replace hs : StatR μ_4.2.2 := by rw [eμ_4]; exact hs
    refine z_rload_n dX12_readClause_66 rfl 1 rfl ?_
    refine z_VU (i_M_next  hs h) vk_X12_next kt_113 (Nat.le_of_ble_eq_true rfl) rfl ml_X12_322 ⟨Nat.le_of_ble_eq_true rfl, Nat.le_of_ble_eq_true rfl⟩ ⟨Nat.zero_le _, Nat.zero_le _⟩ rfl rfl (Nat.le_of_ble_eq_true rfl) dX12_readClause_67 (fun μ_5 hs h => ?_)
    refine z_iload_n dX12_readClause_70 rfl 2 rfl ?_
    refine z_if_ne (tgt := 139) dX12_readClause_71 (by decide) h (fun h => ?_) (fun h => ?_)
    · refine z_rload_n dX12_readClause_74 rfl 1 rfl ?_
      refine z_ldcSw dX12_readClause_75 st_X12_410 ?_
      refine z_VB (i_M_isWord (Nat.le_of_ble_eq_true rfl) hs h) vk_X12_isWord kt_113 (Nat.le_of_ble_eq_true rfl) rfl ml_X12_329 ⟨Nat.le_of_ble_eq_true rfl, Nat.le_of_ble_eq_true rfl⟩ ⟨Nat.zero_le _, Nat.zero_le _⟩ rfl rfl (Nat.le_of_ble_eq_true rfl) dX12_readClause_78 (fun r78 μ_6 hs h => ?_)
      refine z_ifeq_b (tgt := 88) dX12_readClause_81 (by decide) h (fun h => ?_) (fun h => ?_)
      · refine z_iconst dX12_readClause_84 ?_
        refine z_goto (tgt := 117) dX12_readClause_85 (by decide) ?_
        refine z_sub (lv' := [(0, vr Γ 113), (2, vi v2)]) [1, 0] rfl ?_
        exact B_M_readClause_117 hs h
      · refine z_rload_n dX12_readClause_88 rfl 1 rfl ?_
        refine z_ldcSw dX12_readClause_89 st_X12_412 ?_
        refine z_VB (i_M_isWord (Nat.le_of_ble_eq_true rfl) hs h) vk_X12_isWord kt_113 (Nat.le_of_ble_eq_true rfl) rfl ml_X12_329 ⟨Nat.le_of_ble_eq_true rfl, Nat.le_of_ble_eq_true rfl⟩ ⟨Nat.zero_le _, Nat.zero_le _⟩ rfl rfl (Nat.le_of_ble_eq_true rfl) dX12_readClause_92 (fun r92 μ_28 hs h => ?_)
        refine z_ifeq_b (tgt := 102) dX12_readClause_95 (by decide) h (fun h => ?_) (fun h => ?_)
        · refine z_iconst dX12_readClause_98 ?_
          refine z_goto (tgt := 117) dX12_readClause_99 (by decide) ?_
          refine z_sub (lv' := [(0, vr Γ 113), (2, vi v2)]) [1, 0] rfl ?_
          exact B_M_readClause_117 hs h
        · refine z_rload_n dX12_readClause_102 rfl 1 rfl ?_
          refine z_ldcSw dX12_readClause_103 st_X12_414 ?_
          refine z_VB (i_M_isWord (Nat.le_of_ble_eq_true rfl) hs h) vk_X12_isWord kt_113 (Nat.le_of_ble_eq_true rfl) rfl ml_X12_329 ⟨Nat.le_of_ble_eq_true rfl, Nat.le_of_ble_eq_true rfl⟩ ⟨Nat.zero_le _, Nat.zero_le _⟩ rfl rfl (Nat.le_of_ble_eq_true rfl) dX12_readClause_106 (fun r106 μ_29 hs h => ?_)
          refine z_phi 117 [] (fun V9 hv J9 => ?_) h (fun x117 h => ?_)
          · refine z_ifeq_b (tgt := 116) dX12_readClause_109 (by decide) (eq_ite hv) (fun hv => ?_) (fun hv => ?_)
            · refine z_iconst dX12_readClause_112 ?_
              refine z_goto (tgt := 117) dX12_readClause_113 (by decide) ?_
              exact J9 _ hv.symm
            · refine z_iconst dX12_readClause_116 ?_
              exact J9 _ hv.symm
          · refine z_istore_n (lv' := [(1, vi x117), (2, vi v2), (0, vr Γ 113)]) dX12_readClause_117 rfl (Nat.le_of_ble_eq_true rfl) rfl ?_
            refine z_iload_n dX12_readClause_118 rfl 0 rfl ?_
            refine z_iconst dX12_readClause_119 ?_
            refine z_icmp_ne (tgt := 128) dX12_readClause_120 (by decide) h (fun h => ?_) (fun h => ?_)
            · refine z_rload_n dX12_readClause_123 rfl 2 rfl ?_
              refine z_iconst dX12_readClause_124 ?_
              refine z_VU (i_M_fails  hs h) vk_X12_fails kt_113 (Nat.le_of_ble_eq_true rfl) rfl ml_X12_325 ⟨Nat.le_of_ble_eq_true rfl, Nat.le_of_ble_eq_true rfl⟩ ⟨Nat.zero_le _, Nat.zero_le _⟩ rfl rfl (Nat.le_of_ble_eq_true rfl) dX12_readClause_125 (fun μ_30 hs h => ?_)
              refine z_sub (lv' := [(0, vr Γ 113), (1, vi x117), (2, vi v2)]) [2, 0, 1] rfl ?_
              exact B_M_readClause_128 hs h
            · refine z_sub (lv' := [(0, vr Γ 113), (1, vi x117), (2, vi v2)]) [2, 0, 1] rfl ?_
              exact B_M_readClause_128 hs h
    · refine z_sub (lv' := [(0, vr Γ 113), (1, vi v1), (2, vi v2)]) [1, 2, 0] rfl ?_
      exact B_M_readClause_139 hs h
  · exact z_vret rfl dX12_readClause_42 rfl rfl rfl ⟨rfl, hs, h⟩
theorem i_M_readClause {l : Launch} {Γ : Gam} {g : Nat} {μ : Mem} {k : Mem → Prop} (hs : StatR μ.2.2) (h : f_M_readClause  μ k) : CT l Γ yX12_readClause cX12_readClause 3 none 611 3921 0 0 [vr Γ 113] g 175 μ (pV k) := by
  refine SW.ct (by decide) (Nat.le_of_ble_eq_true rfl) ?_
  refine z_sub (lv' := [(0, vr Γ 113)]) [0] rfl ?_
  show SW l Γ yX12_readClause.cls cX12_readClause Y_M_readClause (pV k) g 175 0 0 μ 0 [(0, vr Γ 113)] []
  unfold f_M_readClause at h
  refine z_rload_n dX12_readClause_0 rfl 0 rfl ?_
  refine z_VI (i_M_clauseKind  hs h) vk_X12_clauseKind kt_113 (Nat.le_of_ble_eq_true rfl) rfl ml_X12_407 ⟨Nat.le_of_ble_eq_true rfl, Nat.le_of_ble_eq_true rfl⟩ ⟨Nat.zero_le _, Nat.zero_le _⟩ rfl rfl (Nat.le_of_ble_eq_true rfl) dX12_readClause_1 (fun r1 μ_1 hs h => ?_)
  refine z_istore_n (lv' := [(1, vi r1), (0, vr Γ 113)]) dX12_readClause_4 rfl (Nat.le_of_ble_eq_true rfl) rfl ?_
  refine z_iload_n dX12_readClause_5 rfl 0 rfl ?_
  refine z_iconst dX12_readClause_6 ?_
  refine z_icmp_ne (tgt := 18) dX12_readClause_7 (by decide) h (fun h => ?_) (fun h => ?_)
  · refine z_rload_n dX12_readClause_10 rfl 1 rfl ?_
    refine z_iconst dX12_readClause_11 ?_
    refine z_VU (i_M_fails  hs h) vk_X12_fails kt_113 (Nat.le_of_ble_eq_true rfl) rfl ml_X12_325 ⟨Nat.le_of_ble_eq_true rfl, Nat.le_of_ble_eq_true rfl⟩ ⟨Nat.zero_le _, Nat.zero_le _⟩ rfl rfl (Nat.le_of_ble_eq_true rfl) dX12_readClause_12 (fun μ_2 hs h => ?_)
    refine z_goto (tgt := 35) dX12_readClause_15 (by decide) ?_
    refine z_sub (lv' := [(0, vr Γ 113), (1, vi r1)]) [1, 0] rfl ?_
    exact B_M_readClause_35 hs h
  · refine z_rload_n dX12_readClause_18 rfl 1 rfl ?_
    refine z_getR (q := 15506) ff_12_42 dX12_readClause_19 kt_113 (Nat.le_of_ble_eq_true rfl) fl_X12_117 rfl (hs.1 _ _ sr_15506) ?_
    refine z_bipush dX12_readClause_22 (by decide) ?_
    refine z_iald dX12_readClause_24 kt_145 (Nat.le_of_ble_eq_true rfl) (by decide) (by decide) ?_
    refine z_bipush dX12_readClause_25 (by decide) ?_
    refine z_icmp_ne (tgt := 35) dX12_readClause_27 (by decide) h (fun h => ?_) (fun h => ?_)
    · refine z_rload_n dX12_readClause_30 rfl 1 rfl ?_
      refine z_iconst dX12_readClause_31 ?_
      refine z_VU (i_M_fails  hs h) vk_X12_fails kt_113 (Nat.le_of_ble_eq_true rfl) rfl ml_X12_325 ⟨Nat.le_of_ble_eq_true rfl, Nat.le_of_ble_eq_true rfl⟩ ⟨Nat.zero_le _, Nat.zero_le _⟩ rfl rfl (Nat.le_of_ble_eq_true rfl) dX12_readClause_32 (fun μ_31 hs h => ?_)
      refine z_sub (lv' := [(0, vr Γ 113), (1, vi r1)]) [1, 0] rfl ?_
      exact B_M_readClause_35 hs h
    · refine z_sub (lv' := [(0, vr Γ 113), (1, vi r1)]) [1, 0] rfl ?_
      exact B_M_readClause_35 hs h
abbrev Y_M_starts : Yt := (1, none, yX12_starts.name, { frames := 2, cells := 0, slots := 0, locals := 42 }, 175, 0, 0)
def f_M_starts  (μ : Mem) (k : Mem → Prop) : Prop := ∀ μ_1 : Mem, μ_1 = sI μ 15517 0 0 → ∀ μ_2 : Mem, μ_2 = sI μ_1 15513 0 0 → ∀ μ_3 : Mem, μ_3 = sI μ_2 15520 0 0 → ∀ μ_4 : Mem, μ_4 = sI μ_3 144 (w 10) 0 → ∀ μ_5 : Mem, μ_5 = sI μ_4 145 (w 10) 0 → f_M_next  μ_5 (fun μ_6 => k μ_6)
theorem i_M_starts {l : Launch} {Γ : Gam} {g : Nat} {μ : Mem} {k : Mem → Prop} (hs : StatR μ.2.2) (h : f_M_starts  μ k) : CT l Γ yX12_starts cX12_starts 1 none 2 42 0 0 [vr Γ 113] g 175 μ (pV k) := by
  refine SW.ct (by decide) (Nat.le_of_ble_eq_true rfl) ?_
  refine z_sub (lv' := [(0, vr Γ 113)]) [0] rfl ?_
  show SW l Γ yX12_starts.cls cX12_starts Y_M_starts (pV k) g 175 0 0 μ 0 [(0, vr Γ 113)] []
  unfold f_M_starts at h
  refine z_rload_n dX12_starts_0 rfl 0 rfl ?_
  refine z_iconst dX12_starts_1 ?_
  refine z_putI (q := 15517) ff_12_53 (Or.inl rfl) rfl dX12_starts_2 kt_113 (Nat.le_of_ble_eq_true rfl) fl_X12_310 rfl ?_
  refine z_mm (fun μ_1 eμ_1 => ?_)
  replace h := h μ_1 eμ_1
  replace hs : StatR μ_1.2.2 := by rw [eμ_1]; exact hs
  refine z_rload_n dX12_starts_5 rfl 0 rfl ?_
  refine z_iconst dX12_starts_6 ?_
  refine z_putI (q := 15513) ff_12_49 (Or.inl rfl) rfl dX12_starts_7 kt_113 (Nat.le_of_ble_eq_true rfl) fl_X12_279 rfl ?_
  refine z_mm (fun μ_2 eμ_2 => ?_)
  replace h := h μ_2 eμ_2
  replace hs : StatR μ_2.2.2 := by rw [eμ_2]; exact hs
  refine z_rload_n dX12_starts_10 rfl 0 rfl ?_
  refine z_iconst dX12_starts_11 ?_
  refine z_putI (q := 15520) ff_12_56 (Or.inl rfl) rfl dX12_starts_12 kt_113 (Nat.le_of_ble_eq_true rfl) fl_X12_354 rfl ?_
  refine z_mm (fun μ_3 eμ_3 => ?_)
  replace h := h μ_3 eμ_3
  replace hs : StatR μ_3.2.2 := by rw [eμ_3]; exact hs
  refine z_rload_n dX12_starts_15 rfl 0 rfl ?_
  refine z_getR (q := 15505) ff_12_41 dX12_starts_16 kt_113 (Nat.le_of_ble_eq_true rfl) fl_X12_114 rfl (hs.1 _ _ sr_15505) ?_
  refine z_bipush dX12_starts_19 (by decide) ?_
  refine z_iconst dX12_starts_21 ?_
  refine z_iast dX12_starts_22 kt_144 (Nat.le_of_ble_eq_true rfl) (by decide) (by decide) ?_
  refine z_mm (fun μ_4 eμ_4 => ?_)
  replace h := h μ_4 eμ_4
  replace hs : StatR μ_4.2.2 := by rw [eμ_4]; exact hs
  refine z_rload_n dX12_starts_23 rfl 0 rfl ?_
  refine z_getR (q := 15506) ff_12_42 dX12_starts_24 kt_113 (Nat.le_of_ble_eq_true rfl) fl_X12_117 rfl (hs.1 _ _ sr_15506) ?_
  refine z_bipush dX12_starts_27 (by decide) ?_
  refine z_iconst dX12_starts_29 ?_
  refine z_iast dX12_starts_30 kt_145 (Nat.le_of_ble_eq_true rfl) (by decide) (by decide) ?_
  refine z_mm (fun μ_5 eμ_5 => ?_)
  replace h := h μ_5 eμ_5
  replace hs : StatR μ_5.2.2 := by rw [eμ_5]; exact hs
  refine z_rload_n dX12_starts_31 rfl 0 rfl ?_
  refine z_VU (i_M_next  hs h) vk_X12_next kt_113 (Nat.le_of_ble_eq_true rfl) rfl ml_X12_322 ⟨Nat.le_of_ble_eq_true rfl, Nat.le_of_ble_eq_true rfl⟩ ⟨Nat.zero_le _, Nat.zero_le _⟩ rfl rfl (Nat.le_of_ble_eq_true rfl) dX12_starts_32 (fun μ_6 hs h => ?_)
  exact z_vret rfl dX12_starts_35 rfl rfl rfl ⟨rfl, hs, h⟩
abbrev Y_M_stops : Yt := (1, (some .int), yX12_stops.name, { frames := 1, cells := 0, slots := 0, locals := 20 }, 175, 0, 0)
def f_M_stops  (μ : Mem) (k : Int → Mem → Prop) : Prop := ∀ μ_1 : Mem, μ_1 = sI μ 15512 0 0 → ∀ x21 : Int, x21 = (if (v_M_isWell μ_1) = true then (-1) else (rI μ_1 15518 0)) → ∀ μ_2 : Mem, μ_2 = sI μ_1 15519 0 x21 → ∀ x41 : Int, x41 = (if (v_M_isWell μ_2) = true then 0 else ((-1) - (rI μ_2 15517 0))) → k x41 μ_2
theorem i_M_stops {l : Launch} {Γ : Gam} {g : Nat} {μ : Mem} {k : Int → Mem → Prop} (hs : StatR μ.2.2) (h : f_M_stops  μ k) : CT l Γ yX12_stops cX12_stops 1 (some .int) 1 20 0 0 [vr Γ 113] g 175 μ (pI k) := by
  refine SW.ct (by decide) (Nat.le_of_ble_eq_true rfl) ?_
  refine z_sub (lv' := [(0, vr Γ 113)]) [0] rfl ?_
  show SW l Γ yX12_stops.cls cX12_stops Y_M_stops (pI k) g 175 0 0 μ 0 [(0, vr Γ 113)] []
  unfold f_M_stops at h
  refine z_rload_n dX12_stops_0 rfl 0 rfl ?_
  refine z_iconst dX12_stops_1 ?_
  refine z_putI (q := 15512) ff_12_48 (Or.inl rfl) rfl dX12_stops_2 kt_113 (Nat.le_of_ble_eq_true rfl) fl_X12_276 rfl ?_
  refine z_mm (fun μ_1 eμ_1 => ?_)
  replace h := h μ_1 eμ_1
  replace hs : StatR μ_1.2.2 := by rw [eμ_1]; exact hs
  refine z_rload_n dX12_stops_5 rfl 0 rfl ?_
  refine z_rload_n dX12_stops_6 rfl 0 rfl ?_
  refine z_VE (i_M_isWell ) vk_X12_isWell kt_113 (Nat.le_of_ble_eq_true rfl) rfl ml_X12_316 ⟨Nat.le_of_ble_eq_true rfl, Nat.le_of_ble_eq_true rfl⟩ ⟨Nat.zero_le _, Nat.zero_le _⟩ rfl rfl (Nat.le_of_ble_eq_true rfl) dX12_stops_7 ?_
  refine z_phi 21 [vr Γ 113] (fun V9 hv J9 => ?_) h (fun x21 h => ?_)
  · refine z_ifeq_b (tgt := 17) dX12_stops_10 (by decide) (eq_ite hv) (fun hv => ?_) (fun hv => ?_)
    · refine z_iconst dX12_stops_13 ?_
      refine z_goto (tgt := 21) dX12_stops_14 (by decide) ?_
      exact J9 _ hv.symm
    · refine z_rload_n dX12_stops_17 rfl 0 rfl ?_
      refine z_getI (q := 15518) ff_12_54 dX12_stops_18 kt_113 (Nat.le_of_ble_eq_true rfl) fl_X12_313 rfl ?_
      exact J9 _ hv.symm
  · refine z_putI (q := 15519) ff_12_55 (Or.inl rfl) rfl dX12_stops_21 kt_113 (Nat.le_of_ble_eq_true rfl) fl_X12_136 rfl ?_
    refine z_mm (fun μ_2 eμ_2 => ?_)
    replace h := h μ_2 eμ_2
    replace hs : StatR μ_2.2.2 := by rw [eμ_2]; exact hs
    refine z_rload_n dX12_stops_24 rfl 0 rfl ?_
    refine z_VE (i_M_isWell ) vk_X12_isWell kt_113 (Nat.le_of_ble_eq_true rfl) rfl ml_X12_316 ⟨Nat.le_of_ble_eq_true rfl, Nat.le_of_ble_eq_true rfl⟩ ⟨Nat.zero_le _, Nat.zero_le _⟩ rfl rfl (Nat.le_of_ble_eq_true rfl) dX12_stops_25 ?_
    refine z_phi 41 [] (fun V9 hv J9 => ?_) h (fun x41 h => ?_)
    · refine z_ifeq_b (tgt := 35) dX12_stops_28 (by decide) (eq_ite hv) (fun hv => ?_) (fun hv => ?_)
      · refine z_iconst dX12_stops_31 ?_
        refine z_goto (tgt := 41) dX12_stops_32 (by decide) ?_
        exact J9 _ hv.symm
      · refine z_iconst dX12_stops_35 ?_
        refine z_rload_n dX12_stops_36 rfl 0 rfl ?_
        refine z_getI (q := 15517) ff_12_53 dX12_stops_37 kt_113 (Nat.le_of_ble_eq_true rfl) fl_X12_310 rfl ?_
        refine z_isub dX12_stops_40 ?_
        exact J9 _ hv.symm
    · exact z_iret rfl dX12_stops_41 rfl rfl rfl ⟨_, rfl, hs, h⟩
abbrev Y_M_place : Yt := (1, (some .int), yX12_place.name, { frames := 0, cells := 0, slots := 0, locals := 0 }, 175, 0, 0)
def f_M_place  (μ : Mem) (k : Int → Mem → Prop) : Prop := ∀ μ_1 : Mem, μ_1 = sI μ 15464 0 0 → k (rI μ_1 15519 0) μ_1
theorem i_M_place {l : Launch} {Γ : Gam} {g : Nat} {μ : Mem} {k : Int → Mem → Prop} (hs : StatR μ.2.2) (h : f_M_place  μ k) : CT l Γ yX12_place cX12_place 1 (some .int) 0 0 0 0 [vr Γ 113] g 175 μ (pI k) := by
  refine SW.ct (by decide) (Nat.le_of_ble_eq_true rfl) ?_
  refine z_sub (lv' := [(0, vr Γ 113)]) [0] rfl ?_
  show SW l Γ yX12_place.cls cX12_place Y_M_place (pI k) g 175 0 0 μ 0 [(0, vr Γ 113)] []
  unfold f_M_place at h
  refine z_rload_n dX12_place_0 rfl 0 rfl ?_
  refine z_iconst dX12_place_1 ?_
  refine z_putI (q := 15464) ff_12_0 (Or.inl rfl) rfl dX12_place_2 kt_113 (Nat.le_of_ble_eq_true rfl) fl_X12_1 rfl ?_
  refine z_mm (fun μ_1 eμ_1 => ?_)
  replace h := h μ_1 eμ_1
  replace hs : StatR μ_1.2.2 := by rw [eμ_1]; exact hs
  refine z_rload_n dX12_place_5 rfl 0 rfl ?_
  refine z_getI (q := 15519) ff_12_55 dX12_place_6 kt_113 (Nat.le_of_ble_eq_true rfl) fl_X12_136 rfl ?_
  exact z_iret rfl dX12_place_9 rfl rfl rfl ⟨_, rfl, hs, h⟩
abbrev Y_M_orders : Yt := (5, (some .int), yX12_orders.name, { frames := 612, cells := 0, slots := 0, locals := 3943 }, 175, 0, 0)
def l_M_orders_20 (X_20_41 : Mem → Prop) : Nat → Mem → Prop
  | 0, _ => False
  | fu20 + 1, μ_3 => if (v_M_isWell μ_3) = true then (if w (rI μ_3 15515 0) = 0 then (X_20_41 μ_3) else (f_M_readClause  μ_3 (fun μ_4 => (l_M_orders_20 X_20_41 fu20) μ_4))) else (X_20_41 μ_3)
def l_M_orders_86 (X_86_128 : Mem → Prop) : Nat → Int → Mem → Prop
  | 0, _, _ => False
  | fu86 + 1, v2, μ_9 => if w v2 < w (rI μ_9 144 (w 10)) then (0 ≤ w (3200 + v2) ∧ w (3200 + v2) < ((3520 : Nat) : Int) ∧ 0 ≤ w ((320 * (rI μ_9 15479 0)) + v2) ∧ w ((320 * (rI μ_9 15479 0)) + v2) < ((3520 : Nat) : Int) ∧ ∀ μ_10 : Mem, μ_10 = sI μ_9 143 (w ((320 * (rI μ_9 15479 0)) + v2)) (rI μ_9 143 (w (3200 + v2))) → (l_M_orders_86 X_86_128 fu86) (v2 + 1) μ_10) else (X_86_128 μ_9)
def l_M_orders_130 (X_130_216 : Mem → Prop) : Nat → Int → Mem → Prop
  | 0, _, _ => False
  | fu130 + 1, v2_1, μ_12 => if w v2_1 < w (rI μ_12 145 (w 10)) then (∀ v3 : Int, v3 = 150 + v2_1 → ∀ v4 : Int, v4 = (15 * (rI μ_12 15479 0)) + v2_1 → 0 ≤ w v3 ∧ w v3 < ((165 : Nat) : Int) ∧ 0 ≤ w v4 ∧ w v4 < ((165 : Nat) : Int) ∧ ∀ μ_13 : Mem, μ_13 = sI μ_12 146 (w v4) (rI μ_12 146 (w v3)) → 0 ≤ w v3 ∧ w v3 < ((165 : Nat) : Int) ∧ 0 ≤ w v4 ∧ w v4 < ((165 : Nat) : Int) ∧ ∀ μ_14 : Mem, μ_14 = sI μ_13 147 (w v4) (rI μ_13 147 (w v3)) → 0 ≤ w v3 ∧ w v3 < ((165 : Nat) : Int) ∧ 0 ≤ w v4 ∧ w v4 < ((165 : Nat) : Int) ∧ ∀ μ_15 : Mem, μ_15 = sI μ_14 148 (w v4) (rI μ_14 148 (w v3)) → 0 ≤ w v3 ∧ w v3 < ((165 : Nat) : Int) ∧ 0 ≤ w v4 ∧ w v4 < ((165 : Nat) : Int) ∧ ∀ μ_16 : Mem, μ_16 = sI μ_15 149 (w v4) (rI μ_15 149 (w v3)) → (l_M_orders_130 X_130_216 fu130) (v2_1 + 1) μ_16) else (X_130_216 μ_12)
def f_M_orders  (μ : Mem) (k : Int → Mem → Prop) : Prop := ∀ μ_1 : Mem, μ_1 = sI μ 15464 0 0 → if w (rI μ_1 15479 0) = w 10 then (k (-1) μ_1) else (f_M_starts  μ_1 (fun μ_2 => ∃ m20 : Nat, l_M_orders_20 (fun (μ_5 : Mem) => f_M_stops  μ_5 (fun r42 μ_6 => if w r42 < 0 then (k r42 μ_6) else (0 ≤ w (rI μ_6 15479 0) ∧ w (rI μ_6 15479 0) < ((11 : Nat) : Int) ∧ ∀ μ_7 : Mem, μ_7 = sI μ_6 144 (w (rI μ_6 15479 0)) (rI μ_6 144 (w 10)) → 0 ≤ w (rI μ_7 15479 0) ∧ w (rI μ_7 15479 0) < ((11 : Nat) : Int) ∧ ∀ μ_8 : Mem, μ_8 = sI μ_7 145 (w (rI μ_7 15479 0)) (rI μ_7 145 (w 10)) → ∃ m86 : Nat, l_M_orders_86 (fun (μ_11 : Mem) => ∃ m130 : Nat, l_M_orders_130 (fun (μ_17 : Mem) => ∀ x236 : Int, x236 = (if w (rI μ_17 15479 0) = 0 then 1 else 0) → 0 ≤ w (rI μ_17 15479 0) ∧ w (rI μ_17 15479 0) < ((10 : Nat) : Int) ∧ ∀ μ_18 : Mem, μ_18 = sI μ_17 124 (w (rI μ_17 15479 0)) x236 → if w (rI μ_18 15479 0) = 0 then (∀ μ_19 : Mem, μ_19 = sI μ_18 15480 0 0 → ∀ μ_20 : Mem, μ_20 = sI μ_19 15479 0 ((rI μ_19 15479 0) + 1) → ∀ μ_21 : Mem, μ_21 = sB μ_20 15536 0 false → k ((rI μ_21 15479 0) - 1) μ_21) else (∀ μ_22 : Mem, μ_22 = sI μ_18 15479 0 ((rI μ_18 15479 0) + 1) → ∀ μ_23 : Mem, μ_23 = sB μ_22 15536 0 false → k ((rI μ_23 15479 0) - 1) μ_23)) m130 0 μ_11) m86 0 μ_8))) m20 μ_2))
theorem L_M_orders_20 {l : Launch} {Γ : Gam} {g : Nat} {X_20_41 : Mem → Prop} {k : Int → Mem → Prop} (hX_20_41 : ∀ (ν : Mem), StatR ν.2.2 → X_20_41 ν → SW l Γ yX12_orders.cls cX12_orders Y_M_orders (pI k) g 175 0 0 ν 41 [(0, vr Γ 113)] []) (n9 : Nat) : ∀ (μ_3 : Mem), StatR μ_3.2.2 → l_M_orders_20 X_20_41 n9 μ_3 → SW l Γ yX12_orders.cls cX12_orders Y_M_orders (pI k) g 175 0 0 μ_3 20 [(0, vr Γ 113)] [] := by
  induction n9 with
  | zero =>
    intro μ_3 hs h
    exact h.elim
  | succ n9 hR_20 =>
    intro μ_3 hs h
    rw [l_M_orders_20] at h
    refine z_rload_n dX12_orders_20 rfl 0 rfl ?_
    refine z_VE (i_M_isWell ) vk_X12_isWell kt_113 (Nat.le_of_ble_eq_true rfl) rfl ml_X12_316 ⟨Nat.le_of_ble_eq_true rfl, Nat.le_of_ble_eq_true rfl⟩ ⟨Nat.zero_le _, Nat.zero_le _⟩ rfl rfl (Nat.le_of_ble_eq_true rfl) dX12_orders_21 ?_
    refine z_ifeq_b (tgt := 41) dX12_orders_24 (by decide) h (fun h => ?_) (fun h => ?_)
    · refine z_rload_n dX12_orders_27 rfl 0 rfl ?_
      refine z_getI (q := 15515) ff_12_51 dX12_orders_28 kt_113 (Nat.le_of_ble_eq_true rfl) fl_X12_285 rfl ?_
      refine z_if_eq (tgt := 41) dX12_orders_31 (by decide) h (fun h => ?_) (fun h => ?_)
      · refine z_sub (lv' := [(0, vr Γ 113)]) [0] rfl ?_
        exact hX_20_41 μ_3 hs h
      · refine z_rload_n dX12_orders_34 rfl 0 rfl ?_
        refine z_VU (i_M_readClause  hs h) vk_X12_readClause kt_113 (Nat.le_of_ble_eq_true rfl) rfl ml_X12_427 ⟨Nat.le_of_ble_eq_true rfl, Nat.le_of_ble_eq_true rfl⟩ ⟨Nat.zero_le _, Nat.zero_le _⟩ rfl rfl (Nat.le_of_ble_eq_true rfl) dX12_orders_35 (fun μ_4 hs h => ?_)
        refine z_goto (tgt := 20) dX12_orders_38 (by decide) ?_
        refine z_sub (lv' := [(0, vr Γ 113)]) [0] rfl ?_
        exact hR_20 μ_4 hs h
    · refine z_sub (lv' := [(0, vr Γ 113)]) [0] rfl ?_
      exact hX_20_41 μ_3 hs h
theorem L_M_orders_86 {l : Launch} {Γ : Gam} {g : Nat} {X_86_128 : Mem → Prop} {k : Int → Mem → Prop} (hX_86_128 : ∀ (ν : Mem), StatR ν.2.2 → X_86_128 ν → SW l Γ yX12_orders.cls cX12_orders Y_M_orders (pI k) g 175 0 0 ν 128 [(0, vr Γ 113)] []) (n9 : Nat) : ∀ (v2 : Int) (μ_9 : Mem), StatR μ_9.2.2 → l_M_orders_86 X_86_128 n9 v2 μ_9 → SW l Γ yX12_orders.cls cX12_orders Y_M_orders (pI k) g 175 0 0 μ_9 86 [(0, vr Γ 113), (2, vi v2)] [] := by
  induction n9 with
  | zero =>
    intro v2 μ_9 hs h
    exact h.elim
  | succ n9 hR_86 =>
    intro v2 μ_9 hs h
    rw [l_M_orders_86] at h
    refine z_iload_n dX12_orders_86 rfl 1 rfl ?_
    refine z_rload_n dX12_orders_87 rfl 0 rfl ?_
    refine z_getR (q := 15505) ff_12_41 dX12_orders_88 kt_113 (Nat.le_of_ble_eq_true rfl) fl_X12_114 rfl (hs.1 _ _ sr_15505) ?_
    refine z_bipush dX12_orders_91 (by decide) ?_
    refine z_iald dX12_orders_93 kt_144 (Nat.le_of_ble_eq_true rfl) (by decide) (by decide) ?_
    refine z_icmp_ge (tgt := 128) dX12_orders_94 (by decide) h (fun h => ?_) (fun h => ?_)
    · refine z_rload_n dX12_orders_97 rfl 0 rfl ?_
      refine z_getR (q := 15504) ff_12_40 dX12_orders_98 kt_113 (Nat.le_of_ble_eq_true rfl) fl_X12_111 rfl (hs.1 _ _ sr_15504) ?_
      refine z_sipush dX12_orders_101 (by decide) ?_
      refine z_rload_n dX12_orders_104 rfl 0 rfl ?_
      refine z_getI (q := 15479) ff_12_15 dX12_orders_105 kt_113 (Nat.le_of_ble_eq_true rfl) fl_X12_240 rfl ?_
      refine z_imul dX12_orders_108 ?_
      refine z_iload_n dX12_orders_109 rfl 1 rfl ?_
      refine z_iadd dX12_orders_110 ?_
      refine z_rload_n dX12_orders_111 rfl 0 rfl ?_
      refine z_getR (q := 15504) ff_12_40 dX12_orders_112 kt_113 (Nat.le_of_ble_eq_true rfl) fl_X12_111 rfl (hs.1 _ _ sr_15504) ?_
      refine z_sipush dX12_orders_115 (by decide) ?_
      refine z_iload_n dX12_orders_118 rfl 1 rfl ?_
      refine z_iadd dX12_orders_119 ?_
      obtain ⟨h0, h1, h⟩ := h
      refine z_iald dX12_orders_120 kt_143 (Nat.le_of_ble_eq_true rfl) h0 h1 ?_
      obtain ⟨h0, h1, h⟩ := h
      refine z_iast dX12_orders_121 kt_143 (Nat.le_of_ble_eq_true rfl) h0 h1 ?_
      refine z_mm (fun μ_10 eμ_10 => ?_)
      replace h := h μ_10 eμ_10
      replace hs : StatR μ_10.2.2 := by rw [eμ_10]; exact hs
      refine z_iinc (j := 1) (lv' := [(2, vi (v2 + 1)), (0, vr Γ 113)]) dX12_orders_122 rfl (Nat.le_of_ble_eq_true rfl) rfl ?_
      refine z_goto (tgt := 86) dX12_orders_125 (by decide) ?_
      refine z_sub (lv' := [(0, vr Γ 113), (2, vi (v2 + 1))]) [1, 0] rfl ?_
      exact hR_86 (v2 + 1) μ_10 hs h
    · refine z_sub (lv' := [(0, vr Γ 113)]) [0] rfl ?_
      exact hX_86_128 μ_9 hs h
theorem L_M_orders_130 {l : Launch} {Γ : Gam} {g : Nat} {X_130_216 : Mem → Prop} {k : Int → Mem → Prop} (hX_130_216 : ∀ (ν : Mem), StatR ν.2.2 → X_130_216 ν → SW l Γ yX12_orders.cls cX12_orders Y_M_orders (pI k) g 175 0 0 ν 216 [(0, vr Γ 113)] []) (n9 : Nat) : ∀ (v2_1 : Int) (μ_12 : Mem), StatR μ_12.2.2 → l_M_orders_130 X_130_216 n9 v2_1 μ_12 → SW l Γ yX12_orders.cls cX12_orders Y_M_orders (pI k) g 175 0 0 μ_12 130 [(0, vr Γ 113), (2, vi v2_1)] [] := by
  induction n9 with
  | zero =>
    intro v2_1 μ_12 hs h
    exact h.elim
  | succ n9 hR_130 =>
    intro v2_1 μ_12 hs h
    rw [l_M_orders_130] at h
    refine z_iload_n dX12_orders_130 rfl 1 rfl ?_
    refine z_rload_n dX12_orders_131 rfl 0 rfl ?_
    refine z_getR (q := 15506) ff_12_42 dX12_orders_132 kt_113 (Nat.le_of_ble_eq_true rfl) fl_X12_117 rfl (hs.1 _ _ sr_15506) ?_
    refine z_bipush dX12_orders_135 (by decide) ?_
    refine z_iald dX12_orders_137 kt_145 (Nat.le_of_ble_eq_true rfl) (by decide) (by decide) ?_
    refine z_icmp_ge (tgt := 216) dX12_orders_138 (by decide) h (fun h => ?_) (fun h => ?_)
    · refine z_sipush dX12_orders_141 (by decide) ?_
      refine z_iload_n dX12_orders_144 rfl 1 rfl ?_
      refine z_iadd dX12_orders_145 ?_
      refine z_nm (fun v3 ev3 => ?_)
      replace h := h v3 ev3
      refine z_istore_n (lv' := [(3, vi v3), (0, vr Γ 113), (2, vi v2_1)]) dX12_orders_146 rfl (Nat.le_of_ble_eq_true rfl) rfl ?_
      refine z_bipush dX12_orders_147 (by decide) ?_
      refine z_rload_n dX12_orders_149 rfl 1 rfl ?_
      refine z_getI (q := 15479) ff_12_15 dX12_orders_150 kt_113 (Nat.le_of_ble_eq_true rfl) fl_X12_240 rfl ?_
      refine z_imul dX12_orders_153 ?_
      refine z_iload_n dX12_orders_154 rfl 2 rfl ?_
      refine z_iadd dX12_orders_155 ?_
      refine z_nm (fun v4 ev4 => ?_)
      replace h := h v4 ev4
      refine z_istore (lv' := [(4, vi v4), (3, vi v3), (0, vr Γ 113), (2, vi v2_1)]) dX12_orders_156 (Nat.le_of_ble_eq_true rfl) rfl ?_
      refine z_rload_n dX12_orders_158 rfl 2 rfl ?_
      refine z_getR (q := 15507) ff_12_43 dX12_orders_159 kt_113 (Nat.le_of_ble_eq_true rfl) fl_X12_120 rfl (hs.1 _ _ sr_15507) ?_
      refine z_iload dX12_orders_162 0 rfl ?_
      refine z_rload_n dX12_orders_164 rfl 2 rfl ?_
      refine z_getR (q := 15507) ff_12_43 dX12_orders_165 kt_113 (Nat.le_of_ble_eq_true rfl) fl_X12_120 rfl (hs.1 _ _ sr_15507) ?_
      refine z_iload_n dX12_orders_168 rfl 1 rfl ?_
      obtain ⟨h0, h1, h⟩ := h
      refine z_iald dX12_orders_169 kt_146 (Nat.le_of_ble_eq_true rfl) h0 h1 ?_
      obtain ⟨h0, h1, h⟩ := h
      refine z_iast dX12_orders_170 kt_146 (Nat.le_of_ble_eq_true rfl) h0 h1 ?_
      refine z_mm (fun μ_13 eμ_13 => ?_)
      replace h := h μ_13 eμ_13
      replace hs : StatR μ_13.2.2 := by rw [eμ_13]; exact hs
      refine z_rload_n dX12_orders_171 rfl 2 rfl ?_
      refine z_getR (q := 15508) ff_12_44 dX12_orders_172 kt_113 (Nat.le_of_ble_eq_true rfl) fl_X12_123 rfl (hs.1 _ _ sr_15508) ?_
      refine z_iload dX12_orders_175 0 rfl ?_
      refine z_rload_n dX12_orders_177 rfl 2 rfl ?_
      refine z_getR (q := 15508) ff_12_44 dX12_orders_178 kt_113 (Nat.le_of_ble_eq_true rfl) fl_X12_123 rfl (hs.1 _ _ sr_15508) ?_
      refine z_iload_n dX12_orders_181 rfl 1 rfl ?_
      obtain ⟨h0, h1, h⟩ := h
      refine z_iald dX12_orders_182 kt_147 (Nat.le_of_ble_eq_true rfl) h0 h1 ?_
      obtain ⟨h0, h1, h⟩ := h
      refine z_iast dX12_orders_183 kt_147 (Nat.le_of_ble_eq_true rfl) h0 h1 ?_
      refine z_mm (fun μ_14 eμ_14 => ?_)
      replace h := h μ_14 eμ_14
      replace hs : StatR μ_14.2.2 := by rw [eμ_14]; exact hs
      refine z_rload_n dX12_orders_184 rfl 2 rfl ?_
      refine z_getR (q := 15509) ff_12_45 dX12_orders_185 kt_113 (Nat.le_of_ble_eq_true rfl) fl_X12_126 rfl (hs.1 _ _ sr_15509) ?_
      refine z_iload dX12_orders_188 0 rfl ?_
      refine z_rload_n dX12_orders_190 rfl 2 rfl ?_
      refine z_getR (q := 15509) ff_12_45 dX12_orders_191 kt_113 (Nat.le_of_ble_eq_true rfl) fl_X12_126 rfl (hs.1 _ _ sr_15509) ?_
      refine z_iload_n dX12_orders_194 rfl 1 rfl ?_
      obtain ⟨h0, h1, h⟩ := h
      refine z_iald dX12_orders_195 kt_148 (Nat.le_of_ble_eq_true rfl) h0 h1 ?_
      obtain ⟨h0, h1, h⟩ := h
      refine z_iast dX12_orders_196 kt_148 (Nat.le_of_ble_eq_true rfl) h0 h1 ?_
      refine z_mm (fun μ_15 eμ_15 => ?_)
      replace h := h μ_15 eμ_15
      replace hs : StatR μ_15.2.2 := by rw [eμ_15]; exact hs
      refine z_rload_n dX12_orders_197 rfl 2 rfl ?_
      refine z_getR (q := 15510) ff_12_46 dX12_orders_198 kt_113 (Nat.le_of_ble_eq_true rfl) fl_X12_129 rfl (hs.1 _ _ sr_15510) ?_
      refine z_iload dX12_orders_201 0 rfl ?_
      refine z_rload_n dX12_orders_203 rfl 2 rfl ?_
      refine z_getR (q := 15510) ff_12_46 dX12_orders_204 kt_113 (Nat.le_of_ble_eq_true rfl) fl_X12_129 rfl (hs.1 _ _ sr_15510) ?_
      refine z_iload_n dX12_orders_207 rfl 1 rfl ?_
      obtain ⟨h0, h1, h⟩ := h
      refine z_iald dX12_orders_208 kt_149 (Nat.le_of_ble_eq_true rfl) h0 h1 ?_
      obtain ⟨h0, h1, h⟩ := h
      refine z_iast dX12_orders_209 kt_149 (Nat.le_of_ble_eq_true rfl) h0 h1 ?_
      refine z_mm (fun μ_16 eμ_16 => ?_)
      replace h := h μ_16 eμ_16
      replace hs : StatR μ_16.2.2 := by rw [eμ_16]; exact hs
      refine z_iinc (j := 3) (lv' := [(2, vi (v2_1 + 1)), (4, vi v4), (3, vi v3), (0, vr Γ 113)]) dX12_orders_210 rfl (Nat.le_of_ble_eq_true rfl) rfl ?_
      refine z_goto (tgt := 130) dX12_orders_213 (by decide) ?_
      refine z_sub (lv' := [(0, vr Γ 113), (2, vi (v2_1 + 1))]) [3, 0] rfl ?_
      exact hR_130 (v2_1 + 1) μ_16 hs h
    · refine z_sub (lv' := [(0, vr Γ 113)]) [0] rfl ?_
      exact hX_130_216 μ_12 hs h
theorem i_M_orders {l : Launch} {Γ : Gam} {g : Nat} {μ : Mem} {k : Int → Mem → Prop} (hs : StatR μ.2.2) (h : f_M_orders  μ k) : CT l Γ yX12_orders cX12_orders 5 (some .int) 612 3943 0 0 [vr Γ 113] g 175 μ (pI k) := by
  refine SW.ct (by decide) (Nat.le_of_ble_eq_true rfl) ?_
  refine z_sub (lv' := [(0, vr Γ 113)]) [0] rfl ?_
  show SW l Γ yX12_orders.cls cX12_orders Y_M_orders (pI k) g 175 0 0 μ 0 [(0, vr Γ 113)] []
  unfold f_M_orders at h
  refine z_rload_n dX12_orders_0 rfl 0 rfl ?_
  refine z_iconst dX12_orders_1 ?_
  refine z_putI (q := 15464) ff_12_0 (Or.inl rfl) rfl dX12_orders_2 kt_113 (Nat.le_of_ble_eq_true rfl) fl_X12_1 rfl ?_
  refine z_mm (fun μ_1 eμ_1 => ?_)
  replace h := h μ_1 eμ_1
  replace hs : StatR μ_1.2.2 := by rw [eμ_1]; exact hs
  refine z_rload_n dX12_orders_5 rfl 0 rfl ?_
  refine z_getI (q := 15479) ff_12_15 dX12_orders_6 kt_113 (Nat.le_of_ble_eq_true rfl) fl_X12_240 rfl ?_
  refine z_bipush dX12_orders_9 (by decide) ?_
  refine z_icmp_ne (tgt := 16) dX12_orders_11 (by decide) h (fun h => ?_) (fun h => ?_)
  · refine z_iconst dX12_orders_14 ?_
    exact z_iret rfl dX12_orders_15 rfl rfl rfl ⟨_, rfl, hs, h⟩
  · refine z_rload_n dX12_orders_16 rfl 0 rfl ?_
    refine z_VU (i_M_starts  hs h) vk_X12_starts kt_113 (Nat.le_of_ble_eq_true rfl) rfl ml_X12_424 ⟨Nat.le_of_ble_eq_true rfl, Nat.le_of_ble_eq_true rfl⟩ ⟨Nat.zero_le _, Nat.zero_le _⟩ rfl rfl (Nat.le_of_ble_eq_true rfl) dX12_orders_17 (fun μ_2 hs h => ?_)
    obtain ⟨m20, h⟩ := h
    refine z_sub (lv' := [(0, vr Γ 113)]) [0] rfl ?_
    refine L_M_orders_20 (fun μ_5 hs h => ?_) m20 μ_2 hs h
    refine z_rload_n dX12_orders_41 rfl 0 rfl ?_
    refine z_VI (i_M_stops  hs h) vk_X12_stops kt_113 (Nat.le_of_ble_eq_true rfl) rfl ml_X12_430 ⟨Nat.le_of_ble_eq_true rfl, Nat.le_of_ble_eq_true rfl⟩ ⟨Nat.zero_le _, Nat.zero_le _⟩ rfl rfl (Nat.le_of_ble_eq_true rfl) dX12_orders_42 (fun r42 μ_6 hs h => ?_)
    refine z_istore_n (lv' := [(1, vi r42), (0, vr Γ 113)]) dX12_orders_45 rfl (Nat.le_of_ble_eq_true rfl) rfl ?_
    refine z_iload_n dX12_orders_46 rfl 0 rfl ?_
    refine z_if_ge (tgt := 52) dX12_orders_47 (by decide) h (fun h => ?_) (fun h => ?_)
    · refine z_iload_n dX12_orders_50 rfl 0 rfl ?_
      exact z_iret rfl dX12_orders_51 rfl rfl rfl ⟨_, rfl, hs, h⟩
    · refine z_rload_n dX12_orders_52 rfl 1 rfl ?_
      refine z_getR (q := 15505) ff_12_41 dX12_orders_53 kt_113 (Nat.le_of_ble_eq_true rfl) fl_X12_114 rfl (hs.1 _ _ sr_15505) ?_
      refine z_rload_n dX12_orders_56 rfl 1 rfl ?_
      refine z_getI (q := 15479) ff_12_15 dX12_orders_57 kt_113 (Nat.le_of_ble_eq_true rfl) fl_X12_240 rfl ?_
      refine z_rload_n dX12_orders_60 rfl 1 rfl ?_
      refine z_getR (q := 15505) ff_12_41 dX12_orders_61 kt_113 (Nat.le_of_ble_eq_true rfl) fl_X12_114 rfl (hs.1 _ _ sr_15505) ?_
      refine z_bipush dX12_orders_64 (by decide) ?_
      refine z_iald dX12_orders_66 kt_144 (Nat.le_of_ble_eq_true rfl) (by decide) (by decide) ?_
      obtain ⟨h0, h1, h⟩ := h
      refine z_iast dX12_orders_67 kt_144 (Nat.le_of_ble_eq_true rfl) h0 h1 ?_
      refine z_mm (fun μ_7 eμ_7 => ?_)
      replace h := h μ_7 eμ_7
      replace hs : StatR μ_7.2.2 := by rw [eμ_7]; exact hs
      refine z_rload_n dX12_orders_68 rfl 1 rfl ?_
      refine z_getR (q := 15506) ff_12_42 dX12_orders_69 kt_113 (Nat.le_of_ble_eq_true rfl) fl_X12_117 rfl (hs.1 _ _ sr_15506) ?_
      refine z_rload_n dX12_orders_72 rfl 1 rfl ?_
      refine z_getI (q := 15479) ff_12_15 dX12_orders_73 kt_113 (Nat.le_of_ble_eq_true rfl) fl_X12_240 rfl ?_
      refine z_rload_n dX12_orders_76 rfl 1 rfl ?_
      refine z_getR (q := 15506) ff_12_42 dX12_orders_77 kt_113 (Nat.le_of_ble_eq_true rfl) fl_X12_117 rfl (hs.1 _ _ sr_15506) ?_
      refine z_bipush dX12_orders_80 (by decide) ?_
      refine z_iald dX12_orders_82 kt_145 (Nat.le_of_ble_eq_true rfl) (by decide) (by decide) ?_
      obtain ⟨h0, h1, h⟩ := h
      refine z_iast dX12_orders_83 kt_145 (Nat.le_of_ble_eq_true rfl) h0 h1 ?_
      refine z_mm (fun μ_8 eμ_8 => ?_)
      replace h := h μ_8 eμ_8
      replace hs : StatR μ_8.2.2 := by rw [eμ_8]; exact hs
      refine z_iconst dX12_orders_84 ?_
      refine z_istore_n (lv' := [(2, vi 0), (1, vi r42), (0, vr Γ 113)]) dX12_orders_85 rfl (Nat.le_of_ble_eq_true rfl) rfl ?_
      obtain ⟨m86, h⟩ := h
      refine z_sub (lv' := [(0, vr Γ 113), (2, vi 0)]) [2, 0] rfl ?_
      refine L_M_orders_86 (fun μ_11 hs h => ?_) m86 0 μ_8 hs h
      refine z_iconst dX12_orders_128 ?_
      refine z_istore_n (lv' := [(2, vi 0), (0, vr Γ 113)]) dX12_orders_129 rfl (Nat.le_of_ble_eq_true rfl) rfl ?_
      obtain ⟨m130, h⟩ := h
      refine z_sub (lv' := [(0, vr Γ 113), (2, vi 0)]) [1, 0] rfl ?_
      refine L_M_orders_130 (fun μ_17 hs h => ?_) m130 0 μ_11 hs h
      refine z_rload_n dX12_orders_216 rfl 0 rfl ?_
      refine z_getR (q := 15483) ff_12_19 dX12_orders_217 kt_113 (Nat.le_of_ble_eq_true rfl) fl_X12_50 rfl (hs.1 _ _ sr_15483) ?_
      refine z_rload_n dX12_orders_220 rfl 0 rfl ?_
      refine z_getI (q := 15479) ff_12_15 dX12_orders_221 kt_113 (Nat.le_of_ble_eq_true rfl) fl_X12_240 rfl ?_
      refine z_rload_n dX12_orders_224 rfl 0 rfl ?_
      refine z_getI (q := 15479) ff_12_15 dX12_orders_225 kt_113 (Nat.le_of_ble_eq_true rfl) fl_X12_240 rfl ?_
      refine z_phi 236 [vi (rI μ_17 15479 0), vr Γ 124] (fun V9 hv J9 => ?_) h (fun x236 h => ?_)
      · refine z_if_ne (tgt := 235) dX12_orders_228 (by decide) (eq_ite hv) (fun hv => ?_) (fun hv => ?_)
        · refine z_iconst dX12_orders_231 ?_
          refine z_goto (tgt := 236) dX12_orders_232 (by decide) ?_
          exact J9 _ hv.symm
        · refine z_iconst dX12_orders_235 ?_
          exact J9 _ hv.symm
      · obtain ⟨h0, h1, h⟩ := h
        refine z_iast dX12_orders_236 kt_124 (Nat.le_of_ble_eq_true rfl) h0 h1 ?_
        refine z_mm (fun μ_18 eμ_18 => ?_)
        replace h := h μ_18 eμ_18
        replace hs : StatR μ_18.2.2 := by rw [eμ_18]; exact hs
        refine z_rload_n dX12_orders_237 rfl 0 rfl ?_
        refine z_getI (q := 15479) ff_12_15 dX12_orders_238 kt_113 (Nat.le_of_ble_eq_true rfl) fl_X12_240 rfl ?_
        refine z_if_ne (tgt := 249) dX12_orders_241 (by decide) h (fun h => ?_) (fun h => ?_)
        · refine z_rload_n dX12_orders_244 rfl 0 rfl ?_
          refine z_iconst dX12_orders_245 ?_
          refine z_putI (q := 15480) ff_12_16 (Or.inl rfl) rfl dX12_orders_246 kt_113 (Nat.le_of_ble_eq_true rfl) fl_X12_41 rfl ?_
          refine z_mm (fun μ_19 eμ_19 => ?_)
          replace h := h μ_19 eμ_19
          replace hs : StatR μ_19.2.2 := by rw [eμ_19]; exact hs
          refine z_rload_n dX12_orders_249 rfl 0 rfl ?_
          refine z_dup dX12_orders_250 rfl ?_
          refine z_getI (q := 15479) ff_12_15 dX12_orders_251 kt_113 (Nat.le_of_ble_eq_true rfl) fl_X12_240 rfl ?_
          refine z_iconst dX12_orders_254 ?_
          refine z_iadd dX12_orders_255 ?_
          refine z_putI (q := 15479) ff_12_15 (Or.inl rfl) rfl dX12_orders_256 kt_113 (Nat.le_of_ble_eq_true rfl) fl_X12_240 rfl ?_
          refine z_mm (fun μ_20 eμ_20 => ?_)
          replace h := h μ_20 eμ_20
          replace hs : StatR μ_20.2.2 := by rw [eμ_20]; exact hs
          refine z_rload_n dX12_orders_259 rfl 0 rfl ?_
          refine z_iconst dX12_orders_260 ?_
          refine z_putZ (b := false) (q := 15536) ff_12_72 (Or.inl rfl) rfl dX12_orders_261 kt_113 (Nat.le_of_ble_eq_true rfl) fl_X12_433 rfl ?_
          refine z_mm (fun μ_21 eμ_21 => ?_)
          replace h := h μ_21 eμ_21
          replace hs : StatR μ_21.2.2 := by rw [eμ_21]; exact hs
          refine z_rload_n dX12_orders_264 rfl 0 rfl ?_
          refine z_getI (q := 15479) ff_12_15 dX12_orders_265 kt_113 (Nat.le_of_ble_eq_true rfl) fl_X12_240 rfl ?_
          refine z_iconst dX12_orders_268 ?_
          refine z_isub dX12_orders_269 ?_
          exact z_iret rfl dX12_orders_270 rfl rfl rfl ⟨_, rfl, hs, h⟩
        · refine z_rload_n dX12_orders_249 rfl 0 rfl ?_
          refine z_dup dX12_orders_250 rfl ?_
          refine z_getI (q := 15479) ff_12_15 dX12_orders_251 kt_113 (Nat.le_of_ble_eq_true rfl) fl_X12_240 rfl ?_
          refine z_iconst dX12_orders_254 ?_
          refine z_iadd dX12_orders_255 ?_
          refine z_putI (q := 15479) ff_12_15 (Or.inl rfl) rfl dX12_orders_256 kt_113 (Nat.le_of_ble_eq_true rfl) fl_X12_240 rfl ?_
          refine z_mm (fun μ_22 eμ_22 => ?_)
          replace h := h μ_22 eμ_22
          replace hs : StatR μ_22.2.2 := by rw [eμ_22]; exact hs
          refine z_rload_n dX12_orders_259 rfl 0 rfl ?_
          refine z_iconst dX12_orders_260 ?_
          refine z_putZ (b := false) (q := 15536) ff_12_72 (Or.inl rfl) rfl dX12_orders_261 kt_113 (Nat.le_of_ble_eq_true rfl) fl_X12_433 rfl ?_
          refine z_mm (fun μ_23 eμ_23 => ?_)
          replace h := h μ_23 eμ_23
          replace hs : StatR μ_23.2.2 := by rw [eμ_23]; exact hs
          refine z_rload_n dX12_orders_264 rfl 0 rfl ?_
          refine z_getI (q := 15479) ff_12_15 dX12_orders_265 kt_113 (Nat.le_of_ble_eq_true rfl) fl_X12_240 rfl ?_
          refine z_iconst dX12_orders_268 ?_
          refine z_isub dX12_orders_269 ?_
          exact z_iret rfl dX12_orders_270 rfl rfl rfl ⟨_, rfl, hs, h⟩
abbrev Y_M_length : Yt := (2, (some .int), yX12_length.name, { frames := 1, cells := 0, slots := 0, locals := 23 }, 175, 0, 0)
def f_M_length  (μ : Mem) (k : Int → Mem → Prop) : Prop := f_M_clause 5 μ (fun r2 μ_1 => if w r2 = w (-1) then (k 12 μ_1) else (0 ≤ w r2 ∧ w r2 < ((165 : Nat) : Int) ∧ k (rI μ_1 147 (w r2)) μ_1))
theorem i_M_length {l : Launch} {Γ : Gam} {g : Nat} {μ : Mem} {k : Int → Mem → Prop} (hs : StatR μ.2.2) (h : f_M_length  μ k) : CT l Γ yX12_length cX12_length 2 (some .int) 1 23 0 0 [vr Γ 113] g 175 μ (pI k) := by
  refine SW.ct (by decide) (Nat.le_of_ble_eq_true rfl) ?_
  refine z_sub (lv' := [(0, vr Γ 113)]) [0] rfl ?_
  show SW l Γ yX12_length.cls cX12_length Y_M_length (pI k) g 175 0 0 μ 0 [(0, vr Γ 113)] []
  unfold f_M_length at h
  refine z_rload_n dX12_length_0 rfl 0 rfl ?_
  refine z_iconst dX12_length_1 ?_
  refine z_VI (i_M_clause  hs h) vk_X12_clause kt_113 (Nat.le_of_ble_eq_true rfl) rfl ml_X12_437 ⟨Nat.le_of_ble_eq_true rfl, Nat.le_of_ble_eq_true rfl⟩ ⟨Nat.zero_le _, Nat.zero_le _⟩ rfl rfl (Nat.le_of_ble_eq_true rfl) dX12_length_2 (fun r2 μ_1 hs h => ?_)
  refine z_istore_n (lv' := [(1, vi r2), (0, vr Γ 113)]) dX12_length_5 rfl (Nat.le_of_ble_eq_true rfl) rfl ?_
  refine z_iload_n dX12_length_6 rfl 0 rfl ?_
  refine z_iconst dX12_length_7 ?_
  refine z_icmp_ne (tgt := 16) dX12_length_8 (by decide) h (fun h => ?_) (fun h => ?_)
  · refine z_bipush dX12_length_11 (by decide) ?_
    refine z_goto (tgt := 22) dX12_length_13 (by decide) ?_
    exact z_iret rfl dX12_length_22 rfl rfl rfl ⟨_, rfl, hs, h⟩
  · refine z_rload_n dX12_length_16 rfl 1 rfl ?_
    refine z_getR (q := 15508) ff_12_44 dX12_length_17 kt_113 (Nat.le_of_ble_eq_true rfl) fl_X12_123 rfl (hs.1 _ _ sr_15508) ?_
    refine z_iload_n dX12_length_20 rfl 0 rfl ?_
    obtain ⟨h0, h1, h⟩ := h
    refine z_iald dX12_length_21 kt_147 (Nat.le_of_ble_eq_true rfl) h0 h1 ?_
    exact z_iret rfl dX12_length_22 rfl rfl rfl ⟨_, rfl, hs, h⟩
def v_M_bounded (a1 : Int64) : Int := if 1000000000 < a1 then 1000000000 else (if a1 < (-1000000000) then (-1000000000) else (w_l2i a1))
theorem i_M_bounded {l : Launch} {Γ : Gam} {g : Nat} {μ : Mem} {a1 : Int64} : CT l Γ yX12_bounded cX12_bounded 2 (some .int) 0 0 0 0 [vl a1] g 175 μ (pE (vi (v_M_bounded a1)) μ) := by
  refine SW.ct (by decide) (Nat.le_of_ble_eq_true rfl) ?_
  refine z_sub (lv' := [(0, vl a1)]) [0] rfl ?_
  have hv : v_M_bounded a1 = v_M_bounded a1 := rfl
  refine z_lload_n dX12_bounded_0 rfl 0 rfl ?_
  refine z_ldc2 (v := 1000000000) dX12_bounded_1 cl_X12_440 ?_
  refine z_lcmp_le (tgt := 14) dX12_bounded_4 dX12_bounded_5 (by decide) (eq_ite hv) (fun hv => ?_) (fun hv => ?_)
  · refine z_ldcw (x := 1000000000) dX12_bounded_8 cs_X12_442 ?_
    refine z_goto (tgt := 30) dX12_bounded_11 (by decide) ?_
    exact z_iret rfl dX12_bounded_30 rfl rfl rfl ⟨by first | (rw [hv]; done) | rfl, rfl⟩
  · refine z_lload_n dX12_bounded_14 rfl 0 rfl ?_
    refine z_ldc2 (v := (-1000000000)) dX12_bounded_15 cl_X12_443 ?_
    refine z_lcmp_ge (tgt := 28) dX12_bounded_18 dX12_bounded_19 (by decide) (eq_ite hv) (fun hv => ?_) (fun hv => ?_)
    · refine z_ldcw (x := (-1000000000)) dX12_bounded_22 cs_X12_445 ?_
      refine z_goto (tgt := 30) dX12_bounded_25 (by decide) ?_
      exact z_iret rfl dX12_bounded_30 rfl rfl rfl ⟨by first | (rw [hv]; done) | rfl, rfl⟩
    · refine z_lload_n dX12_bounded_28 rfl 0 rfl ?_
      refine z_l2i dX12_bounded_29 ?_
      exact z_iret rfl dX12_bounded_30 rfl rfl rfl ⟨by first | (rw [hv]; done) | rfl, rfl⟩
abbrev Y_M_joined : Yt := (3, (some .int), yX12_joined.name, { frames := 1, cells := 0, slots := 0, locals := 21 }, 175, 0, 0)
def f_M_joined (a1 : Int) (a2 : Int) (a3 : Int) (μ : Mem) (k : Int → Mem → Prop) : Prop := if w a1 = (-10) then (if w a3 = 0 then (k 0 μ) else (¬ w a3 = 0 ∧ k (w_idiv a2 a3) μ)) else (if w a1 = (-9) then (∀ x143 : Int, x143 = (if 0 < w (a2 + a3) then 1 else 0) → k x143 μ) else (if w a1 = (-8) then (∀ x143_1 : Int, x143_1 = (if 0 < w (a2 + a3) then 1 else 0) → k x143_1 μ) else (if w a1 = (-7) then (k (a2 * a3) μ) else (if w a1 = (-6) then (∀ x127 : Int, x127 = (if w a2 = w a3 then 1 else 0) → k x127 μ) else (if w a1 = (-5) then (∀ x116 : Int, x116 = (if w a3 < w a2 then 1 else 0) → k x116 μ) else (if w a1 = (-4) then (∀ x105 : Int, x105 = (if w a2 < w a3 then 1 else 0) → k x105 μ) else (if w a1 = (-3) then (k (v_M_bounded ((w_i2l a2) * (w_i2l a3))) μ) else (if w a1 = (-2) then (k (v_M_bounded ((w_i2l a2) - (w_i2l a3))) μ) else (if w a1 = (-1) then (k (v_M_bounded ((w_i2l a2) + (w_i2l a3))) μ) else (∀ x143_2 : Int, x143_2 = (if 0 < w (a2 + a3) then 1 else 0) → k x143_2 μ))))))))))
theorem i_M_joined {l : Launch} {Γ : Gam} {g : Nat} {a1 : Int} {a2 : Int} {a3 : Int} {μ : Mem} {k : Int → Mem → Prop} (hs : StatR μ.2.2) (h : f_M_joined a1 a2 a3 μ k) : CT l Γ yX12_joined cX12_joined 3 (some .int) 1 21 0 0 [vi a1, vi a2, vi a3] g 175 μ (pI k) := by
  refine SW.ct (by decide) (Nat.le_of_ble_eq_true rfl) ?_
  refine z_sub (lv' := [(0, vi a1), (1, vi a2), (2, vi a3)]) [0, 1, 2] rfl ?_
  show SW l Γ yX12_joined.cls cX12_joined Y_M_joined (pI k) g 175 0 0 μ 0 [(0, vi a1), (1, vi a2), (2, vi a3)] []
  unfold f_M_joined at h
  refine z_iload_n dX12_joined_0 rfl 0 rfl ?_
  by_cases hc0 : w a1 = (-10)
  · rw [if_pos hc0] at h
    refine z_tcase (tgt := 83) (-10) hc0 dX12_joined_1 (by decide) (by decide) rfl (by decide) ?_
    refine z_iload_n dX12_joined_83 rfl 2 rfl ?_
    refine z_if_ne (tgt := 91) dX12_joined_84 (by decide) h (fun h => ?_) (fun h => ?_)
    · refine z_iconst dX12_joined_87 ?_
      refine z_goto (tgt := 94) dX12_joined_88 (by decide) ?_
      exact z_iret rfl dX12_joined_94 rfl rfl rfl ⟨_, rfl, hs, h⟩
    · refine z_iload_n dX12_joined_91 rfl 1 rfl ?_
      refine z_iload_n dX12_joined_92 rfl 2 rfl ?_
      obtain ⟨h0, h⟩ := h
      refine z_idiv dX12_joined_93 h0 ?_
      exact z_iret rfl dX12_joined_94 rfl rfl rfl ⟨_, rfl, hs, h⟩
  · rw [if_neg hc0] at h
    by_cases hc1 : w a1 = (-9)
    · rw [if_pos hc1] at h
      refine z_tcase (tgt := 132) (-9) hc1 dX12_joined_1 (by decide) (by decide) rfl (by decide) ?_
      refine z_iload_n dX12_joined_132 rfl 1 rfl ?_
      refine z_iload_n dX12_joined_133 rfl 2 rfl ?_
      refine z_iadd dX12_joined_134 ?_
      refine z_phi 143 [] (fun V9 hv J9 => ?_) h (fun x143 h => ?_)
      · refine z_if_le (tgt := 142) dX12_joined_135 (by decide) (eq_ite hv) (fun hv => ?_) (fun hv => ?_)
        · refine z_iconst dX12_joined_138 ?_
          refine z_goto (tgt := 143) dX12_joined_139 (by decide) ?_
          exact J9 _ hv.symm
        · refine z_iconst dX12_joined_142 ?_
          exact J9 _ hv.symm
      · exact z_iret rfl dX12_joined_143 rfl rfl rfl ⟨_, rfl, hs, h⟩
    · rw [if_neg hc1] at h
      by_cases hc2 : w a1 = (-8)
      · rw [if_pos hc2] at h
        refine z_tcase (tgt := 132) (-8) hc2 dX12_joined_1 (by decide) (by decide) rfl (by decide) ?_
        refine z_iload_n dX12_joined_132 rfl 1 rfl ?_
        refine z_iload_n dX12_joined_133 rfl 2 rfl ?_
        refine z_iadd dX12_joined_134 ?_
        refine z_phi 143 [] (fun V9 hv J9 => ?_) h (fun x143_1 h => ?_)
        · refine z_if_le (tgt := 142) dX12_joined_135 (by decide) (eq_ite hv) (fun hv => ?_) (fun hv => ?_)
          · refine z_iconst dX12_joined_138 ?_
            refine z_goto (tgt := 143) dX12_joined_139 (by decide) ?_
            exact J9 _ hv.symm
          · refine z_iconst dX12_joined_142 ?_
            exact J9 _ hv.symm
        · exact z_iret rfl dX12_joined_143 rfl rfl rfl ⟨_, rfl, hs, h⟩
      · rw [if_neg hc2] at h
        by_cases hc3 : w a1 = (-7)
        · rw [if_pos hc3] at h
          refine z_tcase (tgt := 128) (-7) hc3 dX12_joined_1 (by decide) (by decide) rfl (by decide) ?_
          refine z_iload_n dX12_joined_128 rfl 1 rfl ?_
          refine z_iload_n dX12_joined_129 rfl 2 rfl ?_
          refine z_imul dX12_joined_130 ?_
          exact z_iret rfl dX12_joined_131 rfl rfl rfl ⟨_, rfl, hs, h⟩
        · rw [if_neg hc3] at h
          by_cases hc4 : w a1 = (-6)
          · rw [if_pos hc4] at h
            refine z_tcase (tgt := 117) (-6) hc4 dX12_joined_1 (by decide) (by decide) rfl (by decide) ?_
            refine z_iload_n dX12_joined_117 rfl 1 rfl ?_
            refine z_iload_n dX12_joined_118 rfl 2 rfl ?_
            refine z_phi 127 [] (fun V9 hv J9 => ?_) h (fun x127 h => ?_)
            · refine z_icmp_ne (tgt := 126) dX12_joined_119 (by decide) (eq_ite hv) (fun hv => ?_) (fun hv => ?_)
              · refine z_iconst dX12_joined_122 ?_
                refine z_goto (tgt := 127) dX12_joined_123 (by decide) ?_
                exact J9 _ hv.symm
              · refine z_iconst dX12_joined_126 ?_
                exact J9 _ hv.symm
            · exact z_iret rfl dX12_joined_127 rfl rfl rfl ⟨_, rfl, hs, h⟩
          · rw [if_neg hc4] at h
            by_cases hc5 : w a1 = (-5)
            · rw [if_pos hc5] at h
              refine z_tcase (tgt := 106) (-5) hc5 dX12_joined_1 (by decide) (by decide) rfl (by decide) ?_
              refine z_iload_n dX12_joined_106 rfl 1 rfl ?_
              refine z_iload_n dX12_joined_107 rfl 2 rfl ?_
              refine z_phi 116 [] (fun V9 hv J9 => ?_) h (fun x116 h => ?_)
              · refine z_icmp_le (tgt := 115) dX12_joined_108 (by decide) (eq_ite hv) (fun hv => ?_) (fun hv => ?_)
                · refine z_iconst dX12_joined_111 ?_
                  refine z_goto (tgt := 116) dX12_joined_112 (by decide) ?_
                  exact J9 _ hv.symm
                · refine z_iconst dX12_joined_115 ?_
                  exact J9 _ hv.symm
              · exact z_iret rfl dX12_joined_116 rfl rfl rfl ⟨_, rfl, hs, h⟩
            · rw [if_neg hc5] at h
              by_cases hc6 : w a1 = (-4)
              · rw [if_pos hc6] at h
                refine z_tcase (tgt := 95) (-4) hc6 dX12_joined_1 (by decide) (by decide) rfl (by decide) ?_
                refine z_iload_n dX12_joined_95 rfl 1 rfl ?_
                refine z_iload_n dX12_joined_96 rfl 2 rfl ?_
                refine z_phi 105 [] (fun V9 hv J9 => ?_) h (fun x105 h => ?_)
                · refine z_icmp_ge (tgt := 104) dX12_joined_97 (by decide) (eq_ite hv) (fun hv => ?_) (fun hv => ?_)
                  · refine z_iconst dX12_joined_100 ?_
                    refine z_goto (tgt := 105) dX12_joined_101 (by decide) ?_
                    exact J9 _ hv.symm
                  · refine z_iconst dX12_joined_104 ?_
                    exact J9 _ hv.symm
                · exact z_iret rfl dX12_joined_105 rfl rfl rfl ⟨_, rfl, hs, h⟩
              · rw [if_neg hc6] at h
                by_cases hc7 : w a1 = (-3)
                · rw [if_pos hc7] at h
                  refine z_tcase (tgt := 74) (-3) hc7 dX12_joined_1 (by decide) (by decide) rfl (by decide) ?_
                  refine z_iload_n dX12_joined_74 rfl 1 rfl ?_
                  refine z_i2l dX12_joined_75 ?_
                  refine z_iload_n dX12_joined_76 rfl 2 rfl ?_
                  refine z_i2l dX12_joined_77 ?_
                  refine z_lmul dX12_joined_78 ?_
                  refine z_SE (i_M_bounded ) sk_X12_bounded ml_X12_446 ⟨Nat.le_of_ble_eq_true rfl, Nat.le_of_ble_eq_true rfl⟩ ⟨Nat.zero_le _, Nat.zero_le _⟩ rfl rfl (Nat.le_of_ble_eq_true rfl) dX12_joined_79 ?_
                  exact z_iret rfl dX12_joined_82 rfl rfl rfl ⟨_, rfl, hs, h⟩
                · rw [if_neg hc7] at h
                  by_cases hc8 : w a1 = (-2)
                  · rw [if_pos hc8] at h
                    refine z_tcase (tgt := 65) (-2) hc8 dX12_joined_1 (by decide) (by decide) rfl (by decide) ?_
                    refine z_iload_n dX12_joined_65 rfl 1 rfl ?_
                    refine z_i2l dX12_joined_66 ?_
                    refine z_iload_n dX12_joined_67 rfl 2 rfl ?_
                    refine z_i2l dX12_joined_68 ?_
                    refine z_lsub dX12_joined_69 ?_
                    refine z_SE (i_M_bounded ) sk_X12_bounded ml_X12_446 ⟨Nat.le_of_ble_eq_true rfl, Nat.le_of_ble_eq_true rfl⟩ ⟨Nat.zero_le _, Nat.zero_le _⟩ rfl rfl (Nat.le_of_ble_eq_true rfl) dX12_joined_70 ?_
                    exact z_iret rfl dX12_joined_73 rfl rfl rfl ⟨_, rfl, hs, h⟩
                  · rw [if_neg hc8] at h
                    by_cases hc9 : w a1 = (-1)
                    · rw [if_pos hc9] at h
                      refine z_tcase (tgt := 56) (-1) hc9 dX12_joined_1 (by decide) (by decide) rfl (by decide) ?_
                      refine z_iload_n dX12_joined_56 rfl 1 rfl ?_
                      refine z_i2l dX12_joined_57 ?_
                      refine z_iload_n dX12_joined_58 rfl 2 rfl ?_
                      refine z_i2l dX12_joined_59 ?_
                      refine z_ladd dX12_joined_60 ?_
                      refine z_SE (i_M_bounded ) sk_X12_bounded ml_X12_446 ⟨Nat.le_of_ble_eq_true rfl, Nat.le_of_ble_eq_true rfl⟩ ⟨Nat.zero_le _, Nat.zero_le _⟩ rfl rfl (Nat.le_of_ble_eq_true rfl) dX12_joined_61 ?_
                      exact z_iret rfl dX12_joined_64 rfl rfl rfl ⟨_, rfl, hs, h⟩
                    · rw [if_neg hc9] at h
                      refine z_tdef (tgt := 132) (by omega) dX12_joined_1 (by decide) ?_
                      refine z_iload_n dX12_joined_132 rfl 1 rfl ?_
                      refine z_iload_n dX12_joined_133 rfl 2 rfl ?_
                      refine z_iadd dX12_joined_134 ?_
                      refine z_phi 143 [] (fun V9 hv J9 => ?_) h (fun x143_2 h => ?_)
                      · refine z_if_le (tgt := 142) dX12_joined_135 (by decide) (eq_ite hv) (fun hv => ?_) (fun hv => ?_)
                        · refine z_iconst dX12_joined_138 ?_
                          refine z_goto (tgt := 143) dX12_joined_139 (by decide) ?_
                          exact J9 _ hv.symm
                        · refine z_iconst dX12_joined_142 ?_
                          exact J9 _ hv.symm
                      · exact z_iret rfl dX12_joined_143 rfl rfl rfl ⟨_, rfl, hs, h⟩
abbrev Y_M_works : Yt := (6, (some .int), yX12_works.name, { frames := 2, cells := 0, slots := 0, locals := 43 }, 175, 0, 0)
def l_M_works_19 (a1 : Int) (v3 : Int) (X_19_146 : Mem → Prop) : Nat → Int → Int → Mem → Prop
  | 0, _, _, _ => False
  | fu19 + 1, v2, v4_1, μ_1 => 0 ≤ w a1 ∧ w a1 < ((165 : Nat) : Int) ∧ if w v4_1 < w (rI μ_1 149 (w a1)) then (0 ≤ w (v3 + v4_1) ∧ w (v3 + v4_1) < ((3520 : Nat) : Int) ∧ ∀ v5 : Int, v5 = rI μ_1 143 (w (v3 + v4_1)) → if w v5 < 0 then (if w v5 = w (-9) then (0 ≤ w (v2 - 1) ∧ w (v2 - 1) < ((320 : Nat) : Int) ∧ 0 ≤ w (v2 - 1) ∧ w (v2 - 1) < ((320 : Nat) : Int) ∧ ∀ μ_2 : Mem, μ_2 = sI μ_1 152 (w (v2 - 1)) (1 - (rI μ_1 152 (w (v2 - 1)))) → (l_M_works_19 a1 v3 X_19_146 fu19) v2 (v4_1 + 1) μ_2) else (0 ≤ w ((v2 + (-1)) - 1) ∧ w ((v2 + (-1)) - 1) < ((320 : Nat) : Int) ∧ 0 ≤ w (v2 + (-1)) ∧ w (v2 + (-1)) < ((320 : Nat) : Int) ∧ f_M_joined v5 (rI μ_1 152 (w ((v2 + (-1)) - 1))) (rI μ_1 152 (w (v2 + (-1)))) μ_1 (fun r136 μ_3 => 0 ≤ w ((v2 + (-1)) - 1) ∧ w ((v2 + (-1)) - 1) < ((320 : Nat) : Int) ∧ ∀ μ_4 : Mem, μ_4 = sI μ_3 152 (w ((v2 + (-1)) - 1)) r136 → (l_M_works_19 a1 v3 X_19_146 fu19) (v2 + (-1)) (v4_1 + 1) μ_4))) else (if w v5 < w 10000 then (0 ≤ w v2 ∧ w v2 < ((320 : Nat) : Int) ∧ ∀ μ_5 : Mem, μ_5 = sI μ_1 152 (w v2) v5 → (l_M_works_19 a1 v3 X_19_146 fu19) (v2 + 1) (v4_1 + 1) μ_5) else (0 ≤ w (v5 - 10000) ∧ w (v5 - 10000) < ((13 : Nat) : Int) ∧ 0 ≤ w v2 ∧ w v2 < ((320 : Nat) : Int) ∧ ∀ μ_6 : Mem, μ_6 = sI μ_1 152 (w v2) (rI μ_1 151 (w (v5 - 10000))) → (l_M_works_19 a1 v3 X_19_146 fu19) (v2 + 1) (v4_1 + 1) μ_6))) else (X_19_146 μ_1)
def f_M_works (a1 : Int) (μ : Mem) (k : Int → Mem → Prop) : Prop := ∀ v3 : Int, v3 = 320 * (w_idiv a1 15) → 0 ≤ w a1 ∧ w a1 < ((165 : Nat) : Int) ∧ ∀ v4 : Int, v4 = rI μ 148 (w a1) → ∃ m19 : Nat, l_M_works_19 a1 v3 (fun (μ_7 : Mem) => k (rI μ_7 152 (w 0)) μ_7) m19 0 v4 μ
theorem L_M_works_19 {l : Launch} {Γ : Gam} {g : Nat} {a1 : Int} {v3 : Int} {X_19_146 : Mem → Prop} {k : Int → Mem → Prop} (hX_19_146 : ∀ (ν : Mem), StatR ν.2.2 → X_19_146 ν → SW l Γ yX12_works.cls cX12_works Y_M_works (pI k) g 175 0 0 ν 146 [(0, vr Γ 113)] []) (n9 : Nat) : ∀ (v2 : Int) (v4_1 : Int) (μ_1 : Mem), StatR μ_1.2.2 → l_M_works_19 a1 v3 X_19_146 n9 v2 v4_1 μ_1 → SW l Γ yX12_works.cls cX12_works Y_M_works (pI k) g 175 0 0 μ_1 19 [(0, vr Γ 113), (1, vi a1), (2, vi v2), (3, vi v3), (4, vi v4_1)] [] := by
  induction n9 with
  | zero =>
    intro v2 v4_1 μ_1 hs h
    exact h.elim
  | succ n9 hR_19 =>
    intro v2 v4_1 μ_1 hs h
    rw [l_M_works_19] at h
    refine z_iload dX12_works_19 4 rfl ?_
    refine z_rload_n dX12_works_21 rfl 0 rfl ?_
    refine z_getR (q := 15510) ff_12_46 dX12_works_22 kt_113 (Nat.le_of_ble_eq_true rfl) fl_X12_129 rfl (hs.1 _ _ sr_15510) ?_
    refine z_iload_n dX12_works_25 rfl 1 rfl ?_
    obtain ⟨h0, h1, h⟩ := h
    refine z_iald dX12_works_26 kt_149 (Nat.le_of_ble_eq_true rfl) h0 h1 ?_
    refine z_icmp_ge (tgt := 146) dX12_works_27 (by decide) h (fun h => ?_) (fun h => ?_)
    · refine z_rload_n dX12_works_30 rfl 0 rfl ?_
      refine z_getR (q := 15504) ff_12_40 dX12_works_31 kt_113 (Nat.le_of_ble_eq_true rfl) fl_X12_111 rfl (hs.1 _ _ sr_15504) ?_
      refine z_iload_n dX12_works_34 rfl 3 rfl ?_
      refine z_iload dX12_works_35 4 rfl ?_
      refine z_iadd dX12_works_37 ?_
      obtain ⟨h0, h1, h⟩ := h
      refine z_iald dX12_works_38 kt_143 (Nat.le_of_ble_eq_true rfl) h0 h1 ?_
      refine z_nm (fun v5 ev5 => ?_)
      replace h := h v5 ev5
      refine z_istore (lv' := [(5, vi v5), (0, vr Γ 113), (1, vi a1), (2, vi v2), (3, vi v3), (4, vi v4_1)]) dX12_works_39 (Nat.le_of_ble_eq_true rfl) rfl ?_
      refine z_iload dX12_works_41 0 rfl ?_
      refine z_if_lt (tgt := 82) dX12_works_43 (by decide) h (fun h => ?_) (fun h => ?_)
      · refine z_iload dX12_works_82 0 rfl ?_
        refine z_bipush dX12_works_84 (by decide) ?_
        refine z_icmp_ne (tgt := 110) dX12_works_86 (by decide) h (fun h => ?_) (fun h => ?_)
        · refine z_rload_n dX12_works_89 rfl 1 rfl ?_
          refine z_getR (q := 15523) ff_12_59 dX12_works_90 kt_113 (Nat.le_of_ble_eq_true rfl) fl_X12_142 rfl (hs.1 _ _ sr_15523) ?_
          refine z_iload_n dX12_works_93 rfl 3 rfl ?_
          refine z_iconst dX12_works_94 ?_
          refine z_isub dX12_works_95 ?_
          refine z_iconst dX12_works_96 ?_
          refine z_rload_n dX12_works_97 rfl 1 rfl ?_
          refine z_getR (q := 15523) ff_12_59 dX12_works_98 kt_113 (Nat.le_of_ble_eq_true rfl) fl_X12_142 rfl (hs.1 _ _ sr_15523) ?_
          refine z_iload_n dX12_works_101 rfl 3 rfl ?_
          refine z_iconst dX12_works_102 ?_
          refine z_isub dX12_works_103 ?_
          obtain ⟨h0, h1, h⟩ := h
          refine z_iald dX12_works_104 kt_152 (Nat.le_of_ble_eq_true rfl) h0 h1 ?_
          refine z_isub dX12_works_105 ?_
          obtain ⟨h0, h1, h⟩ := h
          refine z_iast dX12_works_106 kt_152 (Nat.le_of_ble_eq_true rfl) h0 h1 ?_
          refine z_mm (fun μ_2 eμ_2 => ?_)
          replace h := h μ_2 eμ_2
          replace hs : StatR μ_2.2.2 := by rw [eμ_2]; exact hs
          refine z_goto (tgt := 140) dX12_works_107 (by decide) ?_
          refine z_iinc (j := 5) (lv' := [(4, vi (v4_1 + 1)), (5, vi v5), (0, vr Γ 113), (1, vi a1), (2, vi v2), (3, vi v3)]) dX12_works_140 rfl (Nat.le_of_ble_eq_true rfl) rfl ?_
          refine z_goto (tgt := 19) dX12_works_143 (by decide) ?_
          refine z_sub (lv' := [(0, vr Γ 113), (1, vi a1), (2, vi v2), (3, vi v3), (4, vi (v4_1 + 1))]) [2, 3, 4, 5, 0] rfl ?_
          exact hR_19 v2 (v4_1 + 1) μ_2 hs h
        · refine z_iinc (j := 3) (lv' := [(2, vi (v2 + (-1))), (5, vi v5), (0, vr Γ 113), (1, vi a1), (3, vi v3), (4, vi v4_1)]) dX12_works_110 rfl (Nat.le_of_ble_eq_true rfl) rfl ?_
          refine z_rload_n dX12_works_113 rfl 2 rfl ?_
          refine z_getR (q := 15523) ff_12_59 dX12_works_114 kt_113 (Nat.le_of_ble_eq_true rfl) fl_X12_142 rfl (hs.1 _ _ sr_15523) ?_
          refine z_iload_n dX12_works_117 rfl 0 rfl ?_
          refine z_iconst dX12_works_118 ?_
          refine z_isub dX12_works_119 ?_
          refine z_iload dX12_works_120 1 rfl ?_
          refine z_rload_n dX12_works_122 rfl 2 rfl ?_
          refine z_getR (q := 15523) ff_12_59 dX12_works_123 kt_113 (Nat.le_of_ble_eq_true rfl) fl_X12_142 rfl (hs.1 _ _ sr_15523) ?_
          refine z_iload_n dX12_works_126 rfl 0 rfl ?_
          refine z_iconst dX12_works_127 ?_
          refine z_isub dX12_works_128 ?_
          obtain ⟨h0, h1, h⟩ := h
          refine z_iald dX12_works_129 kt_152 (Nat.le_of_ble_eq_true rfl) h0 h1 ?_
          refine z_rload_n dX12_works_130 rfl 2 rfl ?_
          refine z_getR (q := 15523) ff_12_59 dX12_works_131 kt_113 (Nat.le_of_ble_eq_true rfl) fl_X12_142 rfl (hs.1 _ _ sr_15523) ?_
          refine z_iload_n dX12_works_134 rfl 0 rfl ?_
          obtain ⟨h0, h1, h⟩ := h
          refine z_iald dX12_works_135 kt_152 (Nat.le_of_ble_eq_true rfl) h0 h1 ?_
          refine z_SI (i_M_joined  hs h) sk_X12_joined ml_X12_450 ⟨Nat.le_of_ble_eq_true rfl, Nat.le_of_ble_eq_true rfl⟩ ⟨Nat.zero_le _, Nat.zero_le _⟩ rfl rfl (Nat.le_of_ble_eq_true rfl) dX12_works_136 (fun r136 μ_3 hs h => ?_)
          obtain ⟨h0, h1, h⟩ := h
          refine z_iast dX12_works_139 kt_152 (Nat.le_of_ble_eq_true rfl) h0 h1 ?_
          refine z_mm (fun μ_4 eμ_4 => ?_)
          replace h := h μ_4 eμ_4
          replace hs : StatR μ_4.2.2 := by rw [eμ_4]; exact hs
          refine z_iinc (j := 5) (lv' := [(4, vi (v4_1 + 1)), (2, vi (v2 + (-1))), (5, vi v5), (0, vr Γ 113), (1, vi a1), (3, vi v3)]) dX12_works_140 rfl (Nat.le_of_ble_eq_true rfl) rfl ?_
          refine z_goto (tgt := 19) dX12_works_143 (by decide) ?_
          refine z_sub (lv' := [(0, vr Γ 113), (1, vi a1), (2, vi (v2 + (-1))), (3, vi v3), (4, vi (v4_1 + 1))]) [3, 4, 1, 5, 0] rfl ?_
          exact hR_19 (v2 + (-1)) (v4_1 + 1) μ_4 hs h
      · refine z_rload_n dX12_works_46 rfl 1 rfl ?_
        refine z_getR (q := 15523) ff_12_59 dX12_works_47 kt_113 (Nat.le_of_ble_eq_true rfl) fl_X12_142 rfl (hs.1 _ _ sr_15523) ?_
        refine z_iload_n dX12_works_50 rfl 3 rfl ?_
        refine z_iload dX12_works_51 0 rfl ?_
        refine z_sipush dX12_works_53 (by decide) ?_
        refine z_icmp_lt (tgt := 73) dX12_works_56 (by decide) h (fun h => ?_) (fun h => ?_)
        · refine z_iload dX12_works_73 0 rfl ?_
          obtain ⟨h0, h1, h⟩ := h
          refine z_iast dX12_works_75 kt_152 (Nat.le_of_ble_eq_true rfl) h0 h1 ?_
          refine z_mm (fun μ_5 eμ_5 => ?_)
          replace h := h μ_5 eμ_5
          replace hs : StatR μ_5.2.2 := by rw [eμ_5]; exact hs
          refine z_iinc (j := 3) (lv' := [(2, vi (v2 + 1)), (5, vi v5), (0, vr Γ 113), (1, vi a1), (3, vi v3), (4, vi v4_1)]) dX12_works_76 rfl (Nat.le_of_ble_eq_true rfl) rfl ?_
          refine z_goto (tgt := 140) dX12_works_79 (by decide) ?_
          refine z_iinc (j := 5) (lv' := [(4, vi (v4_1 + 1)), (2, vi (v2 + 1)), (5, vi v5), (0, vr Γ 113), (1, vi a1), (3, vi v3)]) dX12_works_140 rfl (Nat.le_of_ble_eq_true rfl) rfl ?_
          refine z_goto (tgt := 19) dX12_works_143 (by decide) ?_
          refine z_sub (lv' := [(0, vr Γ 113), (1, vi a1), (2, vi (v2 + 1)), (3, vi v3), (4, vi (v4_1 + 1))]) [3, 4, 1, 5, 0] rfl ?_
          exact hR_19 (v2 + 1) (v4_1 + 1) μ_5 hs h
        · refine z_rload_n dX12_works_59 rfl 1 rfl ?_
          refine z_getR (q := 15522) ff_12_58 dX12_works_60 kt_113 (Nat.le_of_ble_eq_true rfl) fl_X12_139 rfl (hs.1 _ _ sr_15522) ?_
          refine z_iload dX12_works_63 0 rfl ?_
          refine z_sipush dX12_works_65 (by decide) ?_
          refine z_isub dX12_works_68 ?_
          obtain ⟨h0, h1, h⟩ := h
          refine z_iald dX12_works_69 kt_151 (Nat.le_of_ble_eq_true rfl) h0 h1 ?_
          refine z_goto (tgt := 75) dX12_works_70 (by decide) ?_
          obtain ⟨h0, h1, h⟩ := h
          refine z_iast dX12_works_75 kt_152 (Nat.le_of_ble_eq_true rfl) h0 h1 ?_
          refine z_mm (fun μ_6 eμ_6 => ?_)
          replace h := h μ_6 eμ_6
          replace hs : StatR μ_6.2.2 := by rw [eμ_6]; exact hs
          refine z_iinc (j := 3) (lv' := [(2, vi (v2 + 1)), (5, vi v5), (0, vr Γ 113), (1, vi a1), (3, vi v3), (4, vi v4_1)]) dX12_works_76 rfl (Nat.le_of_ble_eq_true rfl) rfl ?_
          refine z_goto (tgt := 140) dX12_works_79 (by decide) ?_
          refine z_iinc (j := 5) (lv' := [(4, vi (v4_1 + 1)), (2, vi (v2 + 1)), (5, vi v5), (0, vr Γ 113), (1, vi a1), (3, vi v3)]) dX12_works_140 rfl (Nat.le_of_ble_eq_true rfl) rfl ?_
          refine z_goto (tgt := 19) dX12_works_143 (by decide) ?_
          refine z_sub (lv' := [(0, vr Γ 113), (1, vi a1), (2, vi (v2 + 1)), (3, vi v3), (4, vi (v4_1 + 1))]) [3, 4, 1, 5, 0] rfl ?_
          exact hR_19 (v2 + 1) (v4_1 + 1) μ_6 hs h
    · refine z_sub (lv' := [(0, vr Γ 113)]) [0] rfl ?_
      exact hX_19_146 μ_1 hs h
theorem i_M_works {l : Launch} {Γ : Gam} {g : Nat} {a1 : Int} {μ : Mem} {k : Int → Mem → Prop} (hs : StatR μ.2.2) (h : f_M_works a1 μ k) : CT l Γ yX12_works cX12_works 6 (some .int) 2 43 0 0 [vr Γ 113, vi a1] g 175 μ (pI k) := by
  refine SW.ct (by decide) (Nat.le_of_ble_eq_true rfl) ?_
  refine z_sub (lv' := [(0, vr Γ 113), (1, vi a1)]) [0, 1] rfl ?_
  show SW l Γ yX12_works.cls cX12_works Y_M_works (pI k) g 175 0 0 μ 0 [(0, vr Γ 113), (1, vi a1)] []
  unfold f_M_works at h
  refine z_iconst dX12_works_0 ?_
  refine z_istore_n (lv' := [(2, vi 0), (0, vr Γ 113), (1, vi a1)]) dX12_works_1 rfl (Nat.le_of_ble_eq_true rfl) rfl ?_
  refine z_sipush dX12_works_2 (by decide) ?_
  refine z_iload_n dX12_works_5 rfl 2 rfl ?_
  refine z_bipush dX12_works_6 (by decide) ?_
  refine z_idiv dX12_works_8 (by decide) ?_
  refine z_imul dX12_works_9 ?_
  refine z_nm (fun v3 ev3 => ?_)
  replace h := h v3 ev3
  refine z_istore_n (lv' := [(3, vi v3), (2, vi 0), (0, vr Γ 113), (1, vi a1)]) dX12_works_10 rfl (Nat.le_of_ble_eq_true rfl) rfl ?_
  refine z_rload_n dX12_works_11 rfl 2 rfl ?_
  refine z_getR (q := 15509) ff_12_45 dX12_works_12 kt_113 (Nat.le_of_ble_eq_true rfl) fl_X12_126 rfl (hs.1 _ _ sr_15509) ?_
  refine z_iload_n dX12_works_15 rfl 3 rfl ?_
  obtain ⟨h0, h1, h⟩ := h
  refine z_iald dX12_works_16 kt_148 (Nat.le_of_ble_eq_true rfl) h0 h1 ?_
  refine z_nm (fun v4 ev4 => ?_)
  replace h := h v4 ev4
  refine z_istore (lv' := [(4, vi v4), (3, vi v3), (2, vi 0), (0, vr Γ 113), (1, vi a1)]) dX12_works_17 (Nat.le_of_ble_eq_true rfl) rfl ?_
  obtain ⟨m19, h⟩ := h
  refine z_sub (lv' := [(0, vr Γ 113), (1, vi a1), (2, vi 0), (3, vi v3), (4, vi v4)]) [3, 4, 2, 1, 0] rfl ?_
  refine L_M_works_19 (fun μ_7 hs h => ?_) m19 0 v4 μ hs h
  refine z_rload_n dX12_works_146 rfl 0 rfl ?_
  refine z_getR (q := 15523) ff_12_59 dX12_works_147 kt_113 (Nat.le_of_ble_eq_true rfl) fl_X12_142 rfl (hs.1 _ _ sr_15523) ?_
  refine z_iconst dX12_works_150 ?_
  refine z_iald dX12_works_151 kt_152 (Nat.le_of_ble_eq_true rfl) (by decide) (by decide) ?_
  exact z_iret rfl dX12_works_152 rfl rfl rfl ⟨_, rfl, hs, h⟩
abbrev Y_M_paidOf : Yt := (6, (some .int), yX12_paidOf.name, { frames := 1, cells := 0, slots := 0, locals := 26 }, 175, 0, 0)
def f_M_paidOf (a1 : Int) (a2 : Int) (μ : Mem) (k : Int → Mem → Prop) : Prop := f_M_clause 4 μ (fun r2 μ_1 => f_M_toldBy 0 a1 0 a2 0 μ_1 (fun r12 μ_2 => f_M_toldBy 1 a1 0 a2 0 μ_2 (fun r23 μ_3 => if w r2 = w (-1) then (∀ v5 : Int, v5 = w_idiv r23 10 → ∀ x59 : Int, x59 = (if w r12 < w v5 then r12 else v5) → k x59 μ_3) else (0 ≤ w r2 ∧ w r2 < ((165 : Nat) : Int) ∧ ¬ w (rI μ_3 147 (w r2)) = 0 ∧ ∀ v5_1 : Int, v5_1 = w_idiv r23 (rI μ_3 147 (w r2)) → ∀ x59_1 : Int, x59_1 = (if w r12 < w v5_1 then r12 else v5_1) → k x59_1 μ_3))))
theorem i_M_paidOf {l : Launch} {Γ : Gam} {g : Nat} {a1 : Int} {a2 : Int} {μ : Mem} {k : Int → Mem → Prop} (hs : StatR μ.2.2) (h : f_M_paidOf a1 a2 μ k) : CT l Γ yX12_paidOf cX12_paidOf 6 (some .int) 1 26 0 0 [vr Γ 113, vi a1, vi a2] g 175 μ (pI k) := by
  refine SW.ct (by decide) (Nat.le_of_ble_eq_true rfl) ?_
  refine z_sub (lv' := [(0, vr Γ 113), (1, vi a1), (2, vi a2)]) [0, 1, 2] rfl ?_
  show SW l Γ yX12_paidOf.cls cX12_paidOf Y_M_paidOf (pI k) g 175 0 0 μ 0 [(0, vr Γ 113), (1, vi a1), (2, vi a2)] []
  unfold f_M_paidOf at h
  refine z_rload_n dX12_paidOf_0 rfl 0 rfl ?_
  refine z_iconst dX12_paidOf_1 ?_
  refine z_VI (i_M_clause  hs h) vk_X12_clause kt_113 (Nat.le_of_ble_eq_true rfl) rfl ml_X12_437 ⟨Nat.le_of_ble_eq_true rfl, Nat.le_of_ble_eq_true rfl⟩ ⟨Nat.zero_le _, Nat.zero_le _⟩ rfl rfl (Nat.le_of_ble_eq_true rfl) dX12_paidOf_2 (fun r2 μ_1 hs h => ?_)
  refine z_istore_n (lv' := [(3, vi r2), (0, vr Γ 113), (1, vi a1), (2, vi a2)]) dX12_paidOf_5 rfl (Nat.le_of_ble_eq_true rfl) rfl ?_
  refine z_rload_n dX12_paidOf_6 rfl 1 rfl ?_
  refine z_iconst dX12_paidOf_7 ?_
  refine z_iload_n dX12_paidOf_8 rfl 2 rfl ?_
  refine z_iconst dX12_paidOf_9 ?_
  refine z_iload_n dX12_paidOf_10 rfl 3 rfl ?_
  refine z_iconst dX12_paidOf_11 ?_
  refine z_VI (i_M_toldBy  hs h) vk_X12_toldBy kt_113 (Nat.le_of_ble_eq_true rfl) rfl ml_X12_258 ⟨Nat.le_of_ble_eq_true rfl, Nat.le_of_ble_eq_true rfl⟩ ⟨Nat.zero_le _, Nat.zero_le _⟩ rfl rfl (Nat.le_of_ble_eq_true rfl) dX12_paidOf_12 (fun r12 μ_2 hs h => ?_)
  refine z_istore (lv' := [(4, vi r12), (3, vi r2), (0, vr Γ 113), (1, vi a1), (2, vi a2)]) dX12_paidOf_15 (Nat.le_of_ble_eq_true rfl) rfl ?_
  refine z_rload_n dX12_paidOf_17 rfl 2 rfl ?_
  refine z_iconst dX12_paidOf_18 ?_
  refine z_iload_n dX12_paidOf_19 rfl 3 rfl ?_
  refine z_iconst dX12_paidOf_20 ?_
  refine z_iload_n dX12_paidOf_21 rfl 4 rfl ?_
  refine z_iconst dX12_paidOf_22 ?_
  refine z_VI (i_M_toldBy  hs h) vk_X12_toldBy kt_113 (Nat.le_of_ble_eq_true rfl) rfl ml_X12_258 ⟨Nat.le_of_ble_eq_true rfl, Nat.le_of_ble_eq_true rfl⟩ ⟨Nat.zero_le _, Nat.zero_le _⟩ rfl rfl (Nat.le_of_ble_eq_true rfl) dX12_paidOf_23 (fun r23 μ_3 hs h => ?_)
  refine z_iload_n dX12_paidOf_26 rfl 1 rfl ?_
  refine z_iconst dX12_paidOf_27 ?_
  refine z_icmp_ne (tgt := 36) dX12_paidOf_28 (by decide) h (fun h => ?_) (fun h => ?_)
  · refine z_bipush dX12_paidOf_31 (by decide) ?_
    refine z_goto (tgt := 42) dX12_paidOf_33 (by decide) ?_
    refine z_idiv dX12_paidOf_42 (by decide) ?_
    refine z_nm (fun v5 ev5 => ?_)
    replace h := h v5 ev5
    refine z_istore (lv' := [(5, vi v5), (4, vi r12), (3, vi r2), (0, vr Γ 113), (1, vi a1), (2, vi a2)]) dX12_paidOf_43 (Nat.le_of_ble_eq_true rfl) rfl ?_
    refine z_iload dX12_paidOf_45 1 rfl ?_
    refine z_iload dX12_paidOf_47 0 rfl ?_
    refine z_phi 59 [] (fun V9 hv J9 => ?_) h (fun x59 h => ?_)
    · refine z_icmp_ge (tgt := 57) dX12_paidOf_49 (by decide) (eq_ite hv) (fun hv => ?_) (fun hv => ?_)
      · refine z_iload dX12_paidOf_52 1 rfl ?_
        refine z_goto (tgt := 59) dX12_paidOf_54 (by decide) ?_
        exact J9 _ hv.symm
      · refine z_iload dX12_paidOf_57 0 rfl ?_
        exact J9 _ hv.symm
    · exact z_iret rfl dX12_paidOf_59 rfl rfl rfl ⟨_, rfl, hs, h⟩
  · refine z_rload_n dX12_paidOf_36 rfl 2 rfl ?_
    refine z_getR (q := 15508) ff_12_44 dX12_paidOf_37 kt_113 (Nat.le_of_ble_eq_true rfl) fl_X12_123 rfl (hs.1 _ _ sr_15508) ?_
    refine z_iload_n dX12_paidOf_40 rfl 1 rfl ?_
    obtain ⟨h0, h1, h⟩ := h
    refine z_iald dX12_paidOf_41 kt_147 (Nat.le_of_ble_eq_true rfl) h0 h1 ?_
    obtain ⟨h0, h⟩ := h
    refine z_idiv dX12_paidOf_42 h0 ?_
    refine z_nm (fun v5_1 ev5_1 => ?_)
    replace h := h v5_1 ev5_1
    refine z_istore (lv' := [(5, vi v5_1), (4, vi r12), (3, vi r2), (0, vr Γ 113), (1, vi a1), (2, vi a2)]) dX12_paidOf_43 (Nat.le_of_ble_eq_true rfl) rfl ?_
    refine z_iload dX12_paidOf_45 1 rfl ?_
    refine z_iload dX12_paidOf_47 0 rfl ?_
    refine z_phi 59 [] (fun V9 hv J9 => ?_) h (fun x59_1 h => ?_)
    · refine z_icmp_ge (tgt := 57) dX12_paidOf_49 (by decide) (eq_ite hv) (fun hv => ?_) (fun hv => ?_)
      · refine z_iload dX12_paidOf_52 1 rfl ?_
        refine z_goto (tgt := 59) dX12_paidOf_54 (by decide) ?_
        exact J9 _ hv.symm
      · refine z_iload dX12_paidOf_57 0 rfl ?_
        exact J9 _ hv.symm
    · exact z_iret rfl dX12_paidOf_59 rfl rfl rfl ⟨_, rfl, hs, h⟩
