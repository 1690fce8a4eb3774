abbrev Y_M_name : Yt := (1, (some .int), yX12_name.name, { frames := 6, cells := 0, slots := 0, locals := 143 }, 175, 0, 0)
def f_M_name  (μ : Mem) (k : Int → Mem → Prop) : Prop := if w (rI μ 15521 0) = w 3 then (f_M_isWord 11 μ (fun r12 μ_1 => if r12 = true then (k 6 μ_1) else (f_M_isWord 12 μ_1 (fun r27 μ_2 => if r27 = true then (k 7 μ_2) else (f_M_isWord 13 μ_2 (fun r42 μ_3 => if r42 = true then (k 8 μ_3) else (f_M_isWord 14 μ_3 (fun r57 μ_4 => ∀ x69 : Int, x69 = (if r57 = true then 9 else (-1)) → k x69 μ_4)))))))) else (if w (rI μ 15521 0) = w 7 then (f_M_isWord 11 μ (fun r83 μ_5 => if r83 = true then (k 10 μ_5) else (f_M_isWord 15 μ_5 (fun r98 μ_6 => if r98 = true then (k 11 μ_6) else (f_M_isWord 16 μ_6 (fun r113 μ_7 => ∀ x125 : Int, x125 = (if r113 = true then 12 else (-1)) → k x125 μ_7)))))) else (f_M_isWord 17 μ (fun r130 μ_8 => if r130 = true then (k 0 μ_8) else (f_M_isWord 18 μ_8 (fun r144 μ_9 => if r144 = true then (k 1 μ_9) else (f_M_isWord 19 μ_9 (fun r158 μ_10 => if r158 = true then (k 2 μ_10) else (f_M_isWord 20 μ_10 (fun r172 μ_11 => if r172 = true then (k 3 μ_11) else (f_M_isWord 21 μ_11 (fun r186 μ_12 => if r186 = true then (k 4 μ_12) else (f_M_isWord 16 μ_12 (fun r200 μ_13 => ∀ x211 : Int, x211 = (if r200 = true then 5 else (-1)) → k x211 μ_13)))))))))))))
theorem i_M_name {l : Launch} {Γ : Gam} {g : Nat} {μ : Mem} {k : Int → Mem → Prop} (hs : StatR μ.2.2) (h : f_M_name  μ k) : CT l Γ yX12_name cX12_name 1 (some .int) 6 143 0 0 [vr Γ 113] g 175 μ (pI k) := by
  refine SW.ct (by decide) (Nat.le_of_ble_eq_true rfl) ?_
  refine z_sub (lv' := [(0, vr Γ 113)]) [0] rfl ?_
  show SW l Γ yX12_name.cls cX12_name Y_M_name (pI k) g 175 0 0 μ 0 [(0, vr Γ 113)] []
  unfold f_M_name at h
  refine z_rload_n dX12_name_0 rfl 0 rfl ?_
  refine z_getI (q := 15521) ff_12_57 dX12_name_1 kt_113 (Nat.le_of_ble_eq_true rfl) fl_X12_333 rfl ?_
  refine z_iconst dX12_name_4 ?_
  refine z_icmp_ne (tgt := 70) dX12_name_5 (by decide) h (fun h => ?_) (fun h => ?_)
  · refine z_rload_n dX12_name_8 rfl 0 rfl ?_
    refine z_ldcSw dX12_name_9 st_X12_336 ?_
    refine z_VB (i_M_isWord (Nat.le_of_ble_eq_true rfl) hs h) vk_X12_isWord kt_113 (Nat.le_of_ble_eq_true rfl) rfl ml_X12_329 ⟨Nat.le_of_ble_eq_true rfl, Nat.le_of_ble_eq_true rfl⟩ ⟨Nat.zero_le _, Nat.zero_le _⟩ rfl rfl (Nat.le_of_ble_eq_true rfl) dX12_name_12 (fun r12 μ_1 hs h => ?_)
    refine z_ifeq_b (tgt := 23) dX12_name_15 (by decide) h (fun h => ?_) (fun h => ?_)
    · refine z_bipush dX12_name_18 (by decide) ?_
      refine z_goto (tgt := 69) dX12_name_20 (by decide) ?_
      exact z_iret rfl dX12_name_69 rfl rfl rfl ⟨_, rfl, hs, h⟩
    · refine z_rload_n dX12_name_23 rfl 0 rfl ?_
      refine z_ldcSw dX12_name_24 st_X12_338 ?_
      refine z_VB (i_M_isWord (Nat.le_of_ble_eq_true rfl) hs h) vk_X12_isWord kt_113 (Nat.le_of_ble_eq_true rfl) rfl ml_X12_329 ⟨Nat.le_of_ble_eq_true rfl, Nat.le_of_ble_eq_true rfl⟩ ⟨Nat.zero_le _, Nat.zero_le _⟩ rfl rfl (Nat.le_of_ble_eq_true rfl) dX12_name_27 (fun r27 μ_2 hs h => ?_)
      refine z_ifeq_b (tgt := 38) dX12_name_30 (by decide) h (fun h => ?_) (fun h => ?_)
      · refine z_bipush dX12_name_33 (by decide) ?_
        refine z_goto (tgt := 69) dX12_name_35 (by decide) ?_
        exact z_iret rfl dX12_name_69 rfl rfl rfl ⟨_, rfl, hs, h⟩
      · refine z_rload_n dX12_name_38 rfl 0 rfl ?_
        refine z_ldcSw dX12_name_39 st_X12_339 ?_
        refine z_VB (i_M_isWord (Nat.le_of_ble_eq_true rfl) hs h) vk_X12_isWord kt_113 (Nat.le_of_ble_eq_true rfl) rfl ml_X12_329 ⟨Nat.le_of_ble_eq_true rfl, Nat.le_of_ble_eq_true rfl⟩ ⟨Nat.zero_le _, Nat.zero_le _⟩ rfl rfl (Nat.le_of_ble_eq_true rfl) dX12_name_42 (fun r42 μ_3 hs h => ?_)
        refine z_ifeq_b (tgt := 53) dX12_name_45 (by decide) h (fun h => ?_) (fun h => ?_)
        · refine z_bipush dX12_name_48 (by decide) ?_
          refine z_goto (tgt := 69) dX12_name_50 (by decide) ?_
          exact z_iret rfl dX12_name_69 rfl rfl rfl ⟨_, rfl, hs, h⟩
        · refine z_rload_n dX12_name_53 rfl 0 rfl ?_
          refine z_ldcSw dX12_name_54 st_X12_340 ?_
          refine z_VB (i_M_isWord (Nat.le_of_ble_eq_true rfl) hs h) vk_X12_isWord kt_113 (Nat.le_of_ble_eq_true rfl) rfl ml_X12_329 ⟨Nat.le_of_ble_eq_true rfl, Nat.le_of_ble_eq_true rfl⟩ ⟨Nat.zero_le _, Nat.zero_le _⟩ rfl rfl (Nat.le_of_ble_eq_true rfl) dX12_name_57 (fun r57 μ_4 hs h => ?_)
          refine z_phi 69 [] (fun V9 hv J9 => ?_) h (fun x69 h => ?_)
          · refine z_ifeq_b (tgt := 68) dX12_name_60 (by decide) (eq_ite hv) (fun hv => ?_) (fun hv => ?_)
            · refine z_bipush dX12_name_63 (by decide) ?_
              refine z_goto (tgt := 69) dX12_name_65 (by decide) ?_
              exact J9 _ hv.symm
            · refine z_iconst dX12_name_68 ?_
              exact J9 _ hv.symm
          · exact z_iret rfl dX12_name_69 rfl rfl rfl ⟨_, rfl, hs, h⟩
  · refine z_rload_n dX12_name_70 rfl 0 rfl ?_
    refine z_getI (q := 15521) ff_12_57 dX12_name_71 kt_113 (Nat.le_of_ble_eq_true rfl) fl_X12_333 rfl ?_
    refine z_bipush dX12_name_74 (by decide) ?_
    refine z_icmp_ne (tgt := 126) dX12_name_76 (by decide) h (fun h => ?_) (fun h => ?_)
    · refine z_rload_n dX12_name_79 rfl 0 rfl ?_
      refine z_ldcSw dX12_name_80 st_X12_336 ?_
      refine z_VB (i_M_isWord (Nat.le_of_ble_eq_true rfl) hs h) vk_X12_isWord kt_113 (Nat.le_of_ble_eq_true rfl) rfl ml_X12_329 ⟨Nat.le_of_ble_eq_true rfl, Nat.le_of_ble_eq_true rfl⟩ ⟨Nat.zero_le _, Nat.zero_le _⟩ rfl rfl (Nat.le_of_ble_eq_true rfl) dX12_name_83 (fun r83 μ_5 hs h => ?_)
      refine z_ifeq_b (tgt := 94) dX12_name_86 (by decide) h (fun h => ?_) (fun h => ?_)
      · refine z_bipush dX12_name_89 (by decide) ?_
        refine z_goto (tgt := 125) dX12_name_91 (by decide) ?_
        exact z_iret rfl dX12_name_125 rfl rfl rfl ⟨_, rfl, hs, h⟩
      · refine z_rload_n dX12_name_94 rfl 0 rfl ?_
        refine z_ldcSw dX12_name_95 st_X12_341 ?_
        refine z_VB (i_M_isWord (Nat.le_of_ble_eq_true rfl) hs h) vk_X12_isWord kt_113 (Nat.le_of_ble_eq_true rfl) rfl ml_X12_329 ⟨Nat.le_of_ble_eq_true rfl, Nat.le_of_ble_eq_true rfl⟩ ⟨Nat.zero_le _, Nat.zero_le _⟩ rfl rfl (Nat.le_of_ble_eq_true rfl) dX12_name_98 (fun r98 μ_6 hs h => ?_)
        refine z_ifeq_b (tgt := 109) dX12_name_101 (by decide) h (fun h => ?_) (fun h => ?_)
        · refine z_bipush dX12_name_104 (by decide) ?_
          refine z_goto (tgt := 125) dX12_name_106 (by decide) ?_
          exact z_iret rfl dX12_name_125 rfl rfl rfl ⟨_, rfl, hs, h⟩
        · refine z_rload_n dX12_name_109 rfl 0 rfl ?_
          refine z_ldcSw dX12_name_110 st_X12_342 ?_
          refine z_VB (i_M_isWord (Nat.le_of_ble_eq_true rfl) hs h) vk_X12_isWord kt_113 (Nat.le_of_ble_eq_true rfl) rfl ml_X12_329 ⟨Nat.le_of_ble_eq_true rfl, Nat.le_of_ble_eq_true rfl⟩ ⟨Nat.zero_le _, Nat.zero_le _⟩ rfl rfl (Nat.le_of_ble_eq_true rfl) dX12_name_113 (fun r113 μ_7 hs h => ?_)
          refine z_phi 125 [] (fun V9 hv J9 => ?_) h (fun x125 h => ?_)
          · refine z_ifeq_b (tgt := 124) dX12_name_116 (by decide) (eq_ite hv) (fun hv => ?_) (fun hv => ?_)
            · refine z_bipush dX12_name_119 (by decide) ?_
              refine z_goto (tgt := 125) dX12_name_121 (by decide) ?_
              exact J9 _ hv.symm
            · refine z_iconst dX12_name_124 ?_
              exact J9 _ hv.symm
          · exact z_iret rfl dX12_name_125 rfl rfl rfl ⟨_, rfl, hs, h⟩
    · refine z_rload_n dX12_name_126 rfl 0 rfl ?_
      refine z_ldcSw dX12_name_127 st_X12_344 ?_
      refine z_VB (i_M_isWord (Nat.le_of_ble_eq_true rfl) hs h) vk_X12_isWord kt_113 (Nat.le_of_ble_eq_true rfl) rfl ml_X12_329 ⟨Nat.le_of_ble_eq_true rfl, Nat.le_of_ble_eq_true rfl⟩ ⟨Nat.zero_le _, Nat.zero_le _⟩ rfl rfl (Nat.le_of_ble_eq_true rfl) dX12_name_130 (fun r130 μ_8 hs h => ?_)
      refine z_ifeq_b (tgt := 140) dX12_name_133 (by decide) h (fun h => ?_) (fun h => ?_)
      · refine z_iconst dX12_name_136 ?_
        refine z_goto (tgt := 211) dX12_name_137 (by decide) ?_
        exact z_iret rfl dX12_name_211 rfl rfl rfl ⟨_, rfl, hs, h⟩
      · refine z_rload_n dX12_name_140 rfl 0 rfl ?_
        refine z_ldcSw dX12_name_141 st_X12_346 ?_
        refine z_VB (i_M_isWord (Nat.le_of_ble_eq_true rfl) hs h) vk_X12_isWord kt_113 (Nat.le_of_ble_eq_true rfl) rfl ml_X12_329 ⟨Nat.le_of_ble_eq_true rfl, Nat.le_of_ble_eq_true rfl⟩ ⟨Nat.zero_le _, Nat.zero_le _⟩ rfl rfl (Nat.le_of_ble_eq_true rfl) dX12_name_144 (fun r144 μ_9 hs h => ?_)
        refine z_ifeq_b (tgt := 154) dX12_name_147 (by decide) h (fun h => ?_) (fun h => ?_)
        · refine z_iconst dX12_name_150 ?_
          refine z_goto (tgt := 211) dX12_name_151 (by decide) ?_
          exact z_iret rfl dX12_name_211 rfl rfl rfl ⟨_, rfl, hs, h⟩
        · refine z_rload_n dX12_name_154 rfl 0 rfl ?_
          refine z_ldcSw dX12_name_155 st_X12_348 ?_
          refine z_VB (i_M_isWord (Nat.le_of_ble_eq_true rfl) hs h) vk_X12_isWord kt_113 (Nat.le_of_ble_eq_true rfl) rfl ml_X12_329 ⟨Nat.le_of_ble_eq_true rfl, Nat.le_of_ble_eq_true rfl⟩ ⟨Nat.zero_le _, Nat.zero_le _⟩ rfl rfl (Nat.le_of_ble_eq_true rfl) dX12_name_158 (fun r158 μ_10 hs h => ?_)
          refine z_ifeq_b (tgt := 168) dX12_name_161 (by decide) h (fun h => ?_) (fun h => ?_)
          · refine z_iconst dX12_name_164 ?_
            refine z_goto (tgt := 211) dX12_name_165 (by decide) ?_
            exact z_iret rfl dX12_name_211 rfl rfl rfl ⟨_, rfl, hs, h⟩
          · refine z_rload_n dX12_name_168 rfl 0 rfl ?_
            refine z_ldcSw dX12_name_169 st_X12_350 ?_
            refine z_VB (i_M_isWord (Nat.le_of_ble_eq_true rfl) hs h) vk_X12_isWord kt_113 (Nat.le_of_ble_eq_true rfl) rfl ml_X12_329 ⟨Nat.le_of_ble_eq_true rfl, Nat.le_of_ble_eq_true rfl⟩ ⟨Nat.zero_le _, Nat.zero_le _⟩ rfl rfl (Nat.le_of_ble_eq_true rfl) dX12_name_172 (fun r172 μ_11 hs h => ?_)
            refine z_ifeq_b (tgt := 182) dX12_name_175 (by decide) h (fun h => ?_) (fun h => ?_)
            · refine z_iconst dX12_name_178 ?_
              refine z_goto (tgt := 211) dX12_name_179 (by decide) ?_
              exact z_iret rfl dX12_name_211 rfl rfl rfl ⟨_, rfl, hs, h⟩
            · refine z_rload_n dX12_name_182 rfl 0 rfl ?_
              refine z_ldcSw dX12_name_183 st_X12_352 ?_
              refine z_VB (i_M_isWord (Nat.le_of_ble_eq_true rfl) hs h) vk_X12_isWord kt_113 (Nat.le_of_ble_eq_true rfl) rfl ml_X12_329 ⟨Nat.le_of_ble_eq_true rfl, Nat.le_of_ble_eq_true rfl⟩ ⟨Nat.zero_le _, Nat.zero_le _⟩ rfl rfl (Nat.le_of_ble_eq_true rfl) dX12_name_186 (fun r186 μ_12 hs h => ?_)
              refine z_ifeq_b (tgt := 196) dX12_name_189 (by decide) h (fun h => ?_) (fun h => ?_)
              · refine z_iconst dX12_name_192 ?_
                refine z_goto (tgt := 211) dX12_name_193 (by decide) ?_
                exact z_iret rfl dX12_name_211 rfl rfl rfl ⟨_, rfl, hs, h⟩
              · refine z_rload_n dX12_name_196 rfl 0 rfl ?_
                refine z_ldcSw dX12_name_197 st_X12_342 ?_
                refine z_VB (i_M_isWord (Nat.le_of_ble_eq_true rfl) hs h) vk_X12_isWord kt_113 (Nat.le_of_ble_eq_true rfl) rfl ml_X12_329 ⟨Nat.le_of_ble_eq_true rfl, Nat.le_of_ble_eq_true rfl⟩ ⟨Nat.zero_le _, Nat.zero_le _⟩ rfl rfl (Nat.le_of_ble_eq_true rfl) dX12_name_200 (fun r200 μ_13 hs h => ?_)
                refine z_phi 211 [] (fun V9 hv J9 => ?_) h (fun x211 h => ?_)
                · refine z_ifeq_b (tgt := 210) dX12_name_203 (by decide) (eq_ite hv) (fun hv => ?_) (fun hv => ?_)
                  · refine z_iconst dX12_name_206 ?_
                    refine z_goto (tgt := 211) dX12_name_207 (by decide) ?_
                    exact J9 _ hv.symm
                  · refine z_iconst dX12_name_210 ?_
                    exact J9 _ hv.symm
                · exact z_iret rfl dX12_name_211 rfl rfl rfl ⟨_, rfl, hs, h⟩
abbrev Y_M_emits : Yt := (2, none, yX12_emits.name, { frames := 1, cells := 0, slots := 0, locals := 20 }, 175, 0, 0)
def f_M_emits (a1 : Int) (μ : Mem) (k : Mem → Prop) : Prop := if (v_M_isWell μ) = true then (0 ≤ w (3200 + (rI μ 144 (w 10))) ∧ w (3200 + (rI μ 144 (w 10))) < ((3520 : Nat) : Int) ∧ ∀ μ_1 : Mem, μ_1 = sI μ 143 (w (3200 + (rI μ 144 (w 10)))) a1 → ∀ μ_2 : Mem, μ_2 = sI μ_1 144 (w 10) ((rI μ_1 144 (w 10)) + 1) → k μ_2) else (k μ)
theorem i_M_emits {l : Launch} {Γ : Gam} {g : Nat} {a1 : Int} {μ : Mem} {k : Mem → Prop} (hs : StatR μ.2.2) (h : f_M_emits a1 μ k) : CT l Γ yX12_emits cX12_emits 2 none 1 20 0 0 [vr Γ 113, vi a1] g 175 μ (pV k) := by
  refine SW.ct (by decide) (Nat.le_of_ble_eq_true rfl) ?_
  refine z_sub (lv' := [(0, vr Γ 113), (1, vi a1)]) [0, 1] rfl ?_
  show SW l Γ yX12_emits.cls cX12_emits Y_M_emits (pV k) g 175 0 0 μ 0 [(0, vr Γ 113), (1, vi a1)] []
  unfold f_M_emits at h
  refine z_rload_n dX12_emits_0 rfl 0 rfl ?_
  refine z_VE (i_M_isWell ) vk_X12_isWell kt_113 (Nat.le_of_ble_eq_true rfl) rfl ml_X12_316 ⟨Nat.le_of_ble_eq_true rfl, Nat.le_of_ble_eq_true rfl⟩ ⟨Nat.zero_le _, Nat.zero_le _⟩ rfl rfl (Nat.le_of_ble_eq_true rfl) dX12_emits_1 ?_
  refine z_ifne_b (tgt := 8) dX12_emits_4 (by decide) h (fun h => ?_) (fun h => ?_)
  · refine z_rload_n dX12_emits_8 rfl 0 rfl ?_
    refine z_getR (q := 15504) ff_12_40 dX12_emits_9 kt_113 (Nat.le_of_ble_eq_true rfl) fl_X12_111 rfl (hs.1 _ _ sr_15504) ?_
    refine z_sipush dX12_emits_12 (by decide) ?_
    refine z_rload_n dX12_emits_15 rfl 0 rfl ?_
    refine z_getR (q := 15505) ff_12_41 dX12_emits_16 kt_113 (Nat.le_of_ble_eq_true rfl) fl_X12_114 rfl (hs.1 _ _ sr_15505) ?_
    refine z_bipush dX12_emits_19 (by decide) ?_
    refine z_iald dX12_emits_21 kt_144 (Nat.le_of_ble_eq_true rfl) (by decide) (by decide) ?_
    refine z_iadd dX12_emits_22 ?_
    refine z_iload_n dX12_emits_23 rfl 1 rfl ?_
    obtain ⟨h0, h1, h⟩ := h
    refine z_iast dX12_emits_24 kt_143 (Nat.le_of_ble_eq_true rfl) h0 h1 ?_
    refine z_mm (fun μ_1 eμ_1 => ?_)
    replace h := h μ_1 eμ_1
    replace hs : StatR μ_1.2.2 := by rw [eμ_1]; exact hs
    refine z_rload_n dX12_emits_25 rfl 0 rfl ?_
    refine z_getR (q := 15505) ff_12_41 dX12_emits_26 kt_113 (Nat.le_of_ble_eq_true rfl) fl_X12_114 rfl (hs.1 _ _ sr_15505) ?_
    refine z_bipush dX12_emits_29 (by decide) ?_
    refine z_dup2 dX12_emits_31 rfl rfl ?_
    refine z_iald dX12_emits_32 kt_144 (Nat.le_of_ble_eq_true rfl) (by decide) (by decide) ?_
    refine z_iconst dX12_emits_33 ?_
    refine z_iadd dX12_emits_34 ?_
    refine z_iast dX12_emits_35 kt_144 (Nat.le_of_ble_eq_true rfl) (by decide) (by decide) ?_
    refine z_mm (fun μ_2 eμ_2 => ?_)
    replace h := h μ_2 eμ_2
    replace hs : StatR μ_2.2.2 := by rw [eμ_2]; exact hs
    exact z_vret rfl dX12_emits_36 rfl rfl rfl ⟨rfl, hs, h⟩
  · exact z_vret rfl dX12_emits_7 rfl rfl rfl ⟨rfl, hs, h⟩
abbrev Y_M_opens : Yt := (1, none, yX12_opens.name, { frames := 2, cells := 0, slots := 0, locals := 42 }, 175, 0, 0)
def f_M_opens  (μ : Mem) (k : Mem → Prop) : Prop := if w (rI μ 15520 0) = w 4 then (f_M_fails 4 μ (fun μ_1 => if (v_M_isWell μ_1) = true then (∀ μ_2 : Mem, μ_2 = sI μ_1 15520 0 ((rI μ_1 15520 0) + 1) → f_M_next  μ_2 (fun μ_3 => k μ_3)) else (k μ_1))) else (if (v_M_isWell μ) = true then (∀ μ_4 : Mem, μ_4 = sI μ 15520 0 ((rI μ 15520 0) + 1) → f_M_next  μ_4 (fun μ_5 => k μ_5)) else (k μ))
theorem i_M_opens {l : Launch} {Γ : Gam} {g : Nat} {μ : Mem} {k : Mem → Prop} (hs : StatR μ.2.2) (h : f_M_opens  μ k) : CT l Γ yX12_opens cX12_opens 1 none 2 42 0 0 [vr Γ 113] g 175 μ (pV k) := by
  refine SW.ct (by decide) (Nat.le_of_ble_eq_true rfl) ?_
  refine z_sub (lv' := [(0, vr Γ 113)]) [0] rfl ?_
  show SW l Γ yX12_opens.cls cX12_opens Y_M_opens (pV k) g 175 0 0 μ 0 [(0, vr Γ 113)] []
  unfold f_M_opens at h
  refine z_rload_n dX12_opens_0 rfl 0 rfl ?_
  refine z_getI (q := 15520) ff_12_56 dX12_opens_1 kt_113 (Nat.le_of_ble_eq_true rfl) fl_X12_354 rfl ?_
  refine z_iconst dX12_opens_4 ?_
  refine z_icmp_ne (tgt := 13) dX12_opens_5 (by decide) h (fun h => ?_) (fun h => ?_)
  · refine z_rload_n dX12_opens_8 rfl 0 rfl ?_
    refine z_iconst dX12_opens_9 ?_
    refine z_VU (i_M_fails  hs h) vk_X12_fails kt_113 (Nat.le_of_ble_eq_true rfl) rfl ml_X12_325 ⟨Nat.le_of_ble_eq_true rfl, Nat.le_of_ble_eq_true rfl⟩ ⟨Nat.zero_le _, Nat.zero_le _⟩ rfl rfl (Nat.le_of_ble_eq_true rfl) dX12_opens_10 (fun μ_1 hs h => ?_)
    refine z_rload_n dX12_opens_13 rfl 0 rfl ?_
    refine z_VE (i_M_isWell ) vk_X12_isWell kt_113 (Nat.le_of_ble_eq_true rfl) rfl ml_X12_316 ⟨Nat.le_of_ble_eq_true rfl, Nat.le_of_ble_eq_true rfl⟩ ⟨Nat.zero_le _, Nat.zero_le _⟩ rfl rfl (Nat.le_of_ble_eq_true rfl) dX12_opens_14 ?_
    refine z_ifne_b (tgt := 21) dX12_opens_17 (by decide) h (fun h => ?_) (fun h => ?_)
    · refine z_rload_n dX12_opens_21 rfl 0 rfl ?_
      refine z_dup dX12_opens_22 rfl ?_
      refine z_getI (q := 15520) ff_12_56 dX12_opens_23 kt_113 (Nat.le_of_ble_eq_true rfl) fl_X12_354 rfl ?_
      refine z_iconst dX12_opens_26 ?_
      refine z_iadd dX12_opens_27 ?_
      refine z_putI (q := 15520) ff_12_56 (Or.inl rfl) rfl dX12_opens_28 kt_113 (Nat.le_of_ble_eq_true rfl) fl_X12_354 rfl ?_
      refine z_mm (fun μ_2 eμ_2 => ?_)
      replace h := h μ_2 eμ_2
      replace hs : StatR μ_2.2.2 := by rw [eμ_2]; exact hs
      refine z_rload_n dX12_opens_31 rfl 0 rfl ?_
      refine z_VU (i_M_next  hs h) vk_X12_next kt_113 (Nat.le_of_ble_eq_true rfl) rfl ml_X12_322 ⟨Nat.le_of_ble_eq_true rfl, Nat.le_of_ble_eq_true rfl⟩ ⟨Nat.zero_le _, Nat.zero_le _⟩ rfl rfl (Nat.le_of_ble_eq_true rfl) dX12_opens_32 (fun μ_3 hs h => ?_)
      exact z_vret rfl dX12_opens_35 rfl rfl rfl ⟨rfl, hs, h⟩
    · exact z_vret rfl dX12_opens_20 rfl rfl rfl ⟨rfl, hs, h⟩
  · refine z_rload_n dX12_opens_13 rfl 0 rfl ?_
    refine z_VE (i_M_isWell ) vk_X12_isWell kt_113 (Nat.le_of_ble_eq_true rfl) rfl ml_X12_316 ⟨Nat.le_of_ble_eq_true rfl, Nat.le_of_ble_eq_true rfl⟩ ⟨Nat.zero_le _, Nat.zero_le _⟩ rfl rfl (Nat.le_of_ble_eq_true rfl) dX12_opens_14 ?_
    refine z_ifne_b (tgt := 21) dX12_opens_17 (by decide) h (fun h => ?_) (fun h => ?_)
    · refine z_rload_n dX12_opens_21 rfl 0 rfl ?_
      refine z_dup dX12_opens_22 rfl ?_
      refine z_getI (q := 15520) ff_12_56 dX12_opens_23 kt_113 (Nat.le_of_ble_eq_true rfl) fl_X12_354 rfl ?_
      refine z_iconst dX12_opens_26 ?_
      refine z_iadd dX12_opens_27 ?_
      refine z_putI (q := 15520) ff_12_56 (Or.inl rfl) rfl dX12_opens_28 kt_113 (Nat.le_of_ble_eq_true rfl) fl_X12_354 rfl ?_
      refine z_mm (fun μ_4 eμ_4 => ?_)
      replace h := h μ_4 eμ_4
      replace hs : StatR μ_4.2.2 := by rw [eμ_4]; exact hs
      refine z_rload_n dX12_opens_31 rfl 0 rfl ?_
      refine z_VU (i_M_next  hs h) vk_X12_next kt_113 (Nat.le_of_ble_eq_true rfl) rfl ml_X12_322 ⟨Nat.le_of_ble_eq_true rfl, Nat.le_of_ble_eq_true rfl⟩ ⟨Nat.zero_le _, Nat.zero_le _⟩ rfl rfl (Nat.le_of_ble_eq_true rfl) dX12_opens_32 (fun μ_5 hs h => ?_)
      exact z_vret rfl dX12_opens_35 rfl rfl rfl ⟨rfl, hs, h⟩
    · exact z_vret rfl dX12_opens_20 rfl rfl rfl ⟨rfl, hs, h⟩
abbrev Y_M_cond (d : Nat) : Yt := (1, none, yX12_cond.name, { frames := 10 * (d + 1) + 10, cells := 0, slots := 0, locals := 60 * (d + 1) + 300 }, 175, 0, 0)
def l_M_cond_4 (X_4_38 : Mem → Prop) (rec : Nat → Mem → (Mem → Prop) → Prop) : Nat → Mem → Prop
  | 0, _ => False
  | fu4 + 1, μ_2 => if (v_M_isWell μ_2) = true then (f_M_isWord 23 μ_2 (fun r15 μ_3 => if r15 = true then (f_M_next  μ_3 (fun μ_4 => rec 1  μ_4 (fun μ_5 => f_M_emits (-8) μ_5 (fun μ_6 => (l_M_cond_4 X_4_38 rec fu4) μ_6)))) else (X_4_38 μ_3))) else (X_4_38 μ_2)
def f_M_cond (rec : Nat → Mem → (Mem → Prop) → Prop)  (μ : Mem) (k : Mem → Prop) : Prop := rec 1  μ (fun μ_1 => ∃ m4 : Nat, l_M_cond_4 (fun (μ_7 : Mem) => k μ_7) rec m4 μ_1)
theorem L_M_cond_4 {l : Launch} {Γ : Gam} {g : Nat} {X_4_38 : Mem → Prop} {k : Mem → Prop} {d : Nat} {rec : Nat → Mem → (Mem → Prop) → Prop} (H : H_P l Γ g rec d) (hX_4_38 : ∀ (ν : Mem), StatR ν.2.2 → X_4_38 ν → SW l Γ yX12_cond.cls cX12_cond (Y_M_cond d) (pV k) g 175 0 0 ν 38 [] []) (n9 : Nat) : ∀ (μ_2 : Mem), StatR μ_2.2.2 → l_M_cond_4 X_4_38 rec n9 μ_2 → SW l Γ yX12_cond.cls cX12_cond (Y_M_cond d) (pV k) g 175 0 0 μ_2 4 [(0, vr Γ 113)] [] := by
  induction n9 with
  | zero =>
    intro μ_2 hs h
    exact h.elim
  | succ n9 hR_4 =>
    intro μ_2 hs h
    rw [l_M_cond_4] at h
    refine z_rload_n dX12_cond_4 rfl 0 rfl ?_
    refine z_VE (i_M_isWell ) vk_X12_isWell kt_113 (Nat.le_of_ble_eq_true rfl) rfl ml_X12_316 (rm_P (by decide)) ⟨Nat.zero_le _, Nat.zero_le _⟩ rfl rfl (Nat.le_of_ble_eq_true rfl) dX12_cond_5 ?_
    refine z_ifeq_b (tgt := 38) dX12_cond_8 (by decide) h (fun h => ?_) (fun h => ?_)
    · refine z_rload_n dX12_cond_11 rfl 0 rfl ?_
      refine z_ldcSw dX12_cond_12 st_X12_394 ?_
      refine z_VB (i_M_isWord (Nat.le_of_ble_eq_true rfl) hs h) vk_X12_isWord kt_113 (Nat.le_of_ble_eq_true rfl) rfl ml_X12_329 (rm_P (by decide)) ⟨Nat.zero_le _, Nat.zero_le _⟩ rfl rfl (Nat.le_of_ble_eq_true rfl) dX12_cond_15 (fun r15 μ_3 hs h => ?_)
      refine z_ifeq_b (tgt := 38) dX12_cond_18 (by decide) h (fun h => ?_) (fun h => ?_)
      · refine z_rload_n dX12_cond_21 rfl 0 rfl ?_
        refine z_VU (i_M_next  hs h) vk_X12_next kt_113 (Nat.le_of_ble_eq_true rfl) rfl ml_X12_322 (rm_P (by decide)) ⟨Nat.zero_le _, Nat.zero_le _⟩ rfl rfl (Nat.le_of_ble_eq_true rfl) dX12_cond_22 (fun μ_4 hs h => ?_)
        refine z_rload_n dX12_cond_25 rfl 0 rfl ?_
        refine z_VU ((H _ _ hs).2.1 h) vk_X12_both kt_113 (Nat.le_of_ble_eq_true rfl) rfl ml_X12_391 (rm_PR (by decide)) ⟨Nat.zero_le _, Nat.zero_le _⟩ rfl rfl (Nat.le_of_ble_eq_true rfl) dX12_cond_26 (fun μ_5 hs h => ?_)
        refine z_rload_n dX12_cond_29 rfl 0 rfl ?_
        refine z_bipush dX12_cond_30 (by decide) ?_
        refine z_VU (i_M_emits  hs h) vk_X12_emits kt_113 (Nat.le_of_ble_eq_true rfl) rfl ml_X12_357 (rm_P (by decide)) ⟨Nat.zero_le _, Nat.zero_le _⟩ rfl rfl (Nat.le_of_ble_eq_true rfl) dX12_cond_32 (fun μ_6 hs h => ?_)
        refine z_goto (tgt := 4) dX12_cond_35 (by decide) ?_
        refine z_sub (lv' := [(0, vr Γ 113)]) [0] rfl ?_
        exact hR_4 μ_6 hs h
      · refine z_sub (lv' := []) [] rfl ?_
        exact hX_4_38 μ_3 hs h
    · refine z_sub (lv' := []) [] rfl ?_
      exact hX_4_38 μ_2 hs h
theorem i_M_cond {l : Launch} {Γ : Gam} {g : Nat} {μ : Mem} {d : Nat} {rec : Nat → Mem → (Mem → Prop) → Prop} {k : Mem → Prop} (H : H_P l Γ g rec d) (hs : StatR μ.2.2) (h : f_M_cond rec  μ k) : CT l Γ yX12_cond cX12_cond 1 none (10 * (d + 1) + 10) (60 * (d + 1) + 300) 0 0 [vr Γ 113] g 175 μ (pV k) := by
  refine SW.ct (by decide) (Nat.le_of_ble_eq_true rfl) ?_
  refine z_sub (lv' := [(0, vr Γ 113)]) [0] rfl ?_
  show SW l Γ yX12_cond.cls cX12_cond (Y_M_cond d) (pV k) g 175 0 0 μ 0 [(0, vr Γ 113)] []
  unfold f_M_cond at h
  refine z_rload_n dX12_cond_0 rfl 0 rfl ?_
  refine z_VU ((H _ _ hs).2.1 h) vk_X12_both kt_113 (Nat.le_of_ble_eq_true rfl) rfl ml_X12_391 (rm_PR (by decide)) ⟨Nat.zero_le _, Nat.zero_le _⟩ rfl rfl (Nat.le_of_ble_eq_true rfl) dX12_cond_1 (fun μ_1 hs h => ?_)
  obtain ⟨m4, h⟩ := h
  refine z_sub (lv' := [(0, vr Γ 113)]) [0] rfl ?_
  refine L_M_cond_4 H (fun μ_7 hs h => ?_) m4 μ_1 hs h
  exact z_vret rfl dX12_cond_38 rfl rfl rfl ⟨rfl, hs, h⟩
abbrev Y_M_both (d : Nat) : Yt := (1, none, yX12_both.name, { frames := 10 * (d + 1) + 10, cells := 0, slots := 0, locals := 60 * (d + 1) + 300 }, 175, 0, 0)
def l_M_both_4 (X_4_38 : Mem → Prop) (rec : Nat → Mem → (Mem → Prop) → Prop) : Nat → Mem → Prop
  | 0, _ => False
  | fu4 + 1, μ_2 => if (v_M_isWell μ_2) = true then (f_M_isWord 22 μ_2 (fun r15 μ_3 => if r15 = true then (f_M_next  μ_3 (fun μ_4 => rec 2  μ_4 (fun μ_5 => f_M_emits (-7) μ_5 (fun μ_6 => (l_M_both_4 X_4_38 rec fu4) μ_6)))) else (X_4_38 μ_3))) else (X_4_38 μ_2)
def f_M_both (rec : Nat → Mem → (Mem → Prop) → Prop)  (μ : Mem) (k : Mem → Prop) : Prop := rec 2  μ (fun μ_1 => ∃ m4 : Nat, l_M_both_4 (fun (μ_7 : Mem) => k μ_7) rec m4 μ_1)
theorem L_M_both_4 {l : Launch} {Γ : Gam} {g : Nat} {X_4_38 : Mem → Prop} {k : Mem → Prop} {d : Nat} {rec : Nat → Mem → (Mem → Prop) → Prop} (H : H_P l Γ g rec d) (hX_4_38 : ∀ (ν : Mem), StatR ν.2.2 → X_4_38 ν → SW l Γ yX12_both.cls cX12_both (Y_M_both d) (pV k) g 175 0 0 ν 38 [] []) (n9 : Nat) : ∀ (μ_2 : Mem), StatR μ_2.2.2 → l_M_both_4 X_4_38 rec n9 μ_2 → SW l Γ yX12_both.cls cX12_both (Y_M_both d) (pV k) g 175 0 0 μ_2 4 [(0, vr Γ 113)] [] := by
  induction n9 with
  | zero =>
    intro μ_2 hs h
    exact h.elim
  | succ n9 hR_4 =>
    intro μ_2 hs h
    rw [l_M_both_4] at h
    refine z_rload_n dX12_both_4 rfl 0 rfl ?_
    refine z_VE (i_M_isWell ) vk_X12_isWell kt_113 (Nat.le_of_ble_eq_true rfl) rfl ml_X12_316 (rm_P (by decide)) ⟨Nat.zero_le _, Nat.zero_le _⟩ rfl rfl (Nat.le_of_ble_eq_true rfl) dX12_both_5 ?_
    refine z_ifeq_b (tgt := 38) dX12_both_8 (by decide) h (fun h => ?_) (fun h => ?_)
    · refine z_rload_n dX12_both_11 rfl 0 rfl ?_
      refine z_ldcSw dX12_both_12 st_X12_389 ?_
      refine z_VB (i_M_isWord (Nat.le_of_ble_eq_true rfl) hs h) vk_X12_isWord kt_113 (Nat.le_of_ble_eq_true rfl) rfl ml_X12_329 (rm_P (by decide)) ⟨Nat.zero_le _, Nat.zero_le _⟩ rfl rfl (Nat.le_of_ble_eq_true rfl) dX12_both_15 (fun r15 μ_3 hs h => ?_)
      refine z_ifeq_b (tgt := 38) dX12_both_18 (by decide) h (fun h => ?_) (fun h => ?_)
      · refine z_rload_n dX12_both_21 rfl 0 rfl ?_
        refine z_VU (i_M_next  hs h) vk_X12_next kt_113 (Nat.le_of_ble_eq_true rfl) rfl ml_X12_322 (rm_P (by decide)) ⟨Nat.zero_le _, Nat.zero_le _⟩ rfl rfl (Nat.le_of_ble_eq_true rfl) dX12_both_22 (fun μ_4 hs h => ?_)
        refine z_rload_n dX12_both_25 rfl 0 rfl ?_
        refine z_VU ((H _ _ hs).2.2.1 h) vk_X12_part kt_113 (Nat.le_of_ble_eq_true rfl) rfl ml_X12_386 (rm_PR (by decide)) ⟨Nat.zero_le _, Nat.zero_le _⟩ rfl rfl (Nat.le_of_ble_eq_true rfl) dX12_both_26 (fun μ_5 hs h => ?_)
        refine z_rload_n dX12_both_29 rfl 0 rfl ?_
        refine z_bipush dX12_both_30 (by decide) ?_
        refine z_VU (i_M_emits  hs h) vk_X12_emits kt_113 (Nat.le_of_ble_eq_true rfl) rfl ml_X12_357 (rm_P (by decide)) ⟨Nat.zero_le _, Nat.zero_le _⟩ rfl rfl (Nat.le_of_ble_eq_true rfl) dX12_both_32 (fun μ_6 hs h => ?_)
        refine z_goto (tgt := 4) dX12_both_35 (by decide) ?_
        refine z_sub (lv' := [(0, vr Γ 113)]) [0] rfl ?_
        exact hR_4 μ_6 hs h
      · refine z_sub (lv' := []) [] rfl ?_
        exact hX_4_38 μ_3 hs h
    · refine z_sub (lv' := []) [] rfl ?_
      exact hX_4_38 μ_2 hs h
theorem i_M_both {l : Launch} {Γ : Gam} {g : Nat} {μ : Mem} {d : Nat} {rec : Nat → Mem → (Mem → Prop) → Prop} {k : Mem → Prop} (H : H_P l Γ g rec d) (hs : StatR μ.2.2) (h : f_M_both rec  μ k) : CT l Γ yX12_both cX12_both 1 none (10 * (d + 1) + 10) (60 * (d + 1) + 300) 0 0 [vr Γ 113] g 175 μ (pV k) := by
  refine SW.ct (by decide) (Nat.le_of_ble_eq_true rfl) ?_
  refine z_sub (lv' := [(0, vr Γ 113)]) [0] rfl ?_
  show SW l Γ yX12_both.cls cX12_both (Y_M_both d) (pV k) g 175 0 0 μ 0 [(0, vr Γ 113)] []
  unfold f_M_both at h
  refine z_rload_n dX12_both_0 rfl 0 rfl ?_
  refine z_VU ((H _ _ hs).2.2.1 h) vk_X12_part kt_113 (Nat.le_of_ble_eq_true rfl) rfl ml_X12_386 (rm_PR (by decide)) ⟨Nat.zero_le _, Nat.zero_le _⟩ rfl rfl (Nat.le_of_ble_eq_true rfl) dX12_both_1 (fun μ_1 hs h => ?_)
  obtain ⟨m4, h⟩ := h
  refine z_sub (lv' := [(0, vr Γ 113)]) [0] rfl ?_
  refine L_M_both_4 H (fun μ_7 hs h => ?_) m4 μ_1 hs h
  exact z_vret rfl dX12_both_38 rfl rfl rfl ⟨rfl, hs, h⟩
abbrev Y_M_part (d : Nat) : Yt := (2, none, yX12_part.name, { frames := 10 * (d + 1) + 10, cells := 0, slots := 0, locals := 60 * (d + 1) + 300 }, 175, 0, 0)
def l_M_part_2 (X_2_36 : Int → Mem → Prop) : Nat → Int → Mem → Prop
  | 0, _, _ => False
  | fu2 + 1, v1, μ_1 => if (v_M_isWell μ_1) = true then (f_M_isWord 10 μ_1 (fun r13 μ_2 => if r13 = true then (f_M_next  μ_2 (fun μ_3 => ∀ x32 : Bool, x32 = (if w v1 = 0 then true else false) → (l_M_part_2 X_2_36 fu2) (b2i x32) μ_3)) else (X_2_36 v1 μ_2))) else (X_2_36 v1 μ_1)
def f_M_part (rec : Nat → Mem → (Mem → Prop) → Prop)  (μ : Mem) (k : Mem → Prop) : Prop := ∃ m2 : Nat, l_M_part_2 (fun (v1_1 : Int) (μ_4 : Mem) => if (v_M_isWell μ_4) = true then (if (v_M_isSign 91 μ_4) = true then (f_M_opens  μ_4 (fun μ_5 => rec 0  μ_5 (fun μ_6 => f_M_wantSign 93 μ_6 (fun μ_7 => ∀ μ_8 : Mem, μ_8 = sI μ_7 15520 0 ((rI μ_7 15520 0) - 1) → if w v1_1 = 0 then (k μ_8) else (f_M_emits (-9) μ_8 (fun μ_9 => k μ_9)))))) else (rec 3  μ_4 (fun μ_10 => if w v1_1 = 0 then (k μ_10) else (f_M_emits (-9) μ_10 (fun μ_11 => k μ_11))))) else (k μ_4)) m2 0 μ
theorem L_M_part_2 {l : Launch} {Γ : Gam} {g : Nat} {X_2_36 : Int → Mem → Prop} {k : Mem → Prop} {d : Nat} (hX_2_36 : ∀ (u1 : Int) (ν : Mem), StatR ν.2.2 → X_2_36 u1 ν → SW l Γ yX12_part.cls cX12_part (Y_M_part d) (pV k) g 175 0 0 ν 36 [(0, vr Γ 113), (1, vi u1)] []) (n9 : Nat) : ∀ (v1 : Int) (μ_1 : Mem), StatR μ_1.2.2 → l_M_part_2 X_2_36 n9 v1 μ_1 → SW l Γ yX12_part.cls cX12_part (Y_M_part d) (pV k) g 175 0 0 μ_1 2 [(0, vr Γ 113), (1, vi v1)] [] := by
  induction n9 with
  | zero =>
    intro v1 μ_1 hs h
    exact h.elim
  | succ n9 hR_2 =>
    intro v1 μ_1 hs h
    rw [l_M_part_2] at h
    refine z_rload_n dX12_part_2 rfl 0 rfl ?_
    refine z_VE (i_M_isWell ) vk_X12_isWell kt_113 (Nat.le_of_ble_eq_true rfl) rfl ml_X12_316 (rm_P (by decide)) ⟨Nat.zero_le _, Nat.zero_le _⟩ rfl rfl (Nat.le_of_ble_eq_true rfl) dX12_part_3 ?_
    refine z_ifeq_b (tgt := 36) dX12_part_6 (by decide) h (fun h => ?_) (fun h => ?_)
    · refine z_rload_n dX12_part_9 rfl 0 rfl ?_
      refine z_ldcSw dX12_part_10 st_X12_378 ?_
      refine z_VB (i_M_isWord (Nat.le_of_ble_eq_true rfl) hs h) vk_X12_isWord kt_113 (Nat.le_of_ble_eq_true rfl) rfl ml_X12_329 (rm_P (by decide)) ⟨Nat.zero_le _, Nat.zero_le _⟩ rfl rfl (Nat.le_of_ble_eq_true rfl) dX12_part_13 (fun r13 μ_2 hs h => ?_)
      refine z_ifeq_b (tgt := 36) dX12_part_16 (by decide) h (fun h => ?_) (fun h => ?_)
      · refine z_rload_n dX12_part_19 rfl 0 rfl ?_
        refine z_VU (i_M_next  hs h) vk_X12_next kt_113 (Nat.le_of_ble_eq_true rfl) rfl ml_X12_322 (rm_P (by decide)) ⟨Nat.zero_le _, Nat.zero_le _⟩ rfl rfl (Nat.le_of_ble_eq_true rfl) dX12_part_20 (fun μ_3 hs h => ?_)
        refine z_iload_n dX12_part_23 rfl 1 rfl ?_
        refine z_phiB 32 [] (fun V9 hv J9 => ?_) h (fun x32 h => ?_)
        · refine z_if_ne (tgt := 31) dX12_part_24 (by decide) (eq_ite hv) (fun hv => ?_) (fun hv => ?_)
          · refine z_iconst dX12_part_27 ?_
            refine z_goto (tgt := 32) dX12_part_28 (by decide) ?_
            exact J9 true hv.symm
          · refine z_iconst dX12_part_31 ?_
            exact J9 false hv.symm
        · refine z_istore_n (lv' := [(1, vi (b2i x32)), (0, vr Γ 113)]) dX12_part_32 rfl (Nat.le_of_ble_eq_true rfl) rfl ?_
          refine z_goto (tgt := 2) dX12_part_33 (by decide) ?_
          refine z_sub (lv' := [(0, vr Γ 113), (1, vi (b2i x32))]) [1, 0] rfl ?_
          exact hR_2 (b2i x32) μ_3 hs h
      · refine z_sub (lv' := [(0, vr Γ 113), (1, vi v1)]) [0, 1] rfl ?_
        exact hX_2_36 v1 μ_2 hs h
    · refine z_sub (lv' := [(0, vr Γ 113), (1, vi v1)]) [0, 1] rfl ?_
      exact hX_2_36 v1 μ_1 hs h
theorem i_M_part {l : Launch} {Γ : Gam} {g : Nat} {μ : Mem} {d : Nat} {rec : Nat → Mem → (Mem → Prop) → Prop} {k : Mem → Prop} (H : H_P l Γ g rec d) (hs : StatR μ.2.2) (h : f_M_part rec  μ k) : CT l Γ yX12_part cX12_part 2 none (10 * (d + 1) + 10) (60 * (d + 1) + 300) 0 0 [vr Γ 113] g 175 μ (pV k) := by
  refine SW.ct (by decide) (Nat.le_of_ble_eq_true rfl) ?_
  refine z_sub (lv' := [(0, vr Γ 113)]) [0] rfl ?_
  show SW l Γ yX12_part.cls cX12_part (Y_M_part d) (pV k) g 175 0 0 μ 0 [(0, vr Γ 113)] []
  unfold f_M_part at h
  refine z_iconst dX12_part_0 ?_
  refine z_istore_n (lv' := [(1, vi 0), (0, vr Γ 113)]) dX12_part_1 rfl (Nat.le_of_ble_eq_true rfl) rfl ?_
  obtain ⟨m2, h⟩ := h
  refine z_sub (lv' := [(0, vr Γ 113), (1, vi 0)]) [1, 0] rfl ?_
  refine L_M_part_2 (fun v1_1 μ_4 hs h => ?_) m2 0 μ hs h
  refine z_rload_n dX12_part_36 rfl 0 rfl ?_
  refine z_VE (i_M_isWell ) vk_X12_isWell kt_113 (Nat.le_of_ble_eq_true rfl) rfl ml_X12_316 (rm_P (by decide)) ⟨Nat.zero_le _, Nat.zero_le _⟩ rfl rfl (Nat.le_of_ble_eq_true rfl) dX12_part_37 ?_
  refine z_ifne_b (tgt := 44) dX12_part_40 (by decide) h (fun h => ?_) (fun h => ?_)
  · refine z_rload_n dX12_part_44 rfl 0 rfl ?_
    refine z_bipush dX12_part_45 (by decide) ?_
    refine z_VE (i_M_isSign ) vk_X12_isSign kt_113 (Nat.le_of_ble_eq_true rfl) rfl ml_X12_319 (rm_P (by decide)) ⟨Nat.zero_le _, Nat.zero_le _⟩ rfl rfl (Nat.le_of_ble_eq_true rfl) dX12_part_47 ?_
    refine z_ifeq_b (tgt := 80) dX12_part_50 (by decide) h (fun h => ?_) (fun h => ?_)
    · refine z_rload_n dX12_part_53 rfl 0 rfl ?_
      refine z_VU (i_M_opens  hs h) vk_X12_opens kt_113 (Nat.le_of_ble_eq_true rfl) rfl ml_X12_363 (rm_P (by decide)) ⟨Nat.zero_le _, Nat.zero_le _⟩ rfl rfl (Nat.le_of_ble_eq_true rfl) dX12_part_54 (fun μ_5 hs h => ?_)
      refine z_rload_n dX12_part_57 rfl 0 rfl ?_
      refine z_VU ((H _ _ hs).1 h) vk_X12_cond kt_113 (Nat.le_of_ble_eq_true rfl) rfl ml_X12_380 (rm_PR (by decide)) ⟨Nat.zero_le _, Nat.zero_le _⟩ rfl rfl (Nat.le_of_ble_eq_true rfl) dX12_part_58 (fun μ_6 hs h => ?_)
      refine z_rload_n dX12_part_61 rfl 0 rfl ?_
      refine z_bipush dX12_part_62 (by decide) ?_
      refine z_VU (i_M_wantSign  hs h) vk_X12_wantSign kt_113 (Nat.le_of_ble_eq_true rfl) rfl ml_X12_369 (rm_P (by decide)) ⟨Nat.zero_le _, Nat.zero_le _⟩ rfl rfl (Nat.le_of_ble_eq_true rfl) dX12_part_64 (fun μ_7 hs h => ?_)
      refine z_rload_n dX12_part_67 rfl 0 rfl ?_
      refine z_dup dX12_part_68 rfl ?_
      refine z_getI (q := 15520) ff_12_56 dX12_part_69 kt_113 (Nat.le_of_ble_eq_true rfl) fl_X12_354 rfl ?_
      refine z_iconst dX12_part_72 ?_
      refine z_isub dX12_part_73 ?_
      refine z_putI (q := 15520) ff_12_56 (Or.inl rfl) rfl dX12_part_74 kt_113 (Nat.le_of_ble_eq_true rfl) fl_X12_354 rfl ?_
      refine z_mm (fun μ_8 eμ_8 => ?_)
      replace h := h μ_8 eμ_8
      replace hs : StatR μ_8.2.2 := by rw [eμ_8]; exact hs
      refine z_goto (tgt := 84) dX12_part_77 (by decide) ?_
      refine z_iload_n dX12_part_84 rfl 1 rfl ?_
      refine z_if_eq (tgt := 94) dX12_part_85 (by decide) h (fun h => ?_) (fun h => ?_)
      · exact z_vret rfl dX12_part_94 rfl rfl rfl ⟨rfl, hs, h⟩
      · refine z_rload_n dX12_part_88 rfl 0 rfl ?_
        refine z_bipush dX12_part_89 (by decide) ?_
        refine z_VU (i_M_emits  hs h) vk_X12_emits kt_113 (Nat.le_of_ble_eq_true rfl) rfl ml_X12_357 (rm_P (by decide)) ⟨Nat.zero_le _, Nat.zero_le _⟩ rfl rfl (Nat.le_of_ble_eq_true rfl) dX12_part_91 (fun μ_9 hs h => ?_)
        exact z_vret rfl dX12_part_94 rfl rfl rfl ⟨rfl, hs, h⟩
    · refine z_rload_n dX12_part_80 rfl 0 rfl ?_
      refine z_VU ((H _ _ hs).2.2.2.1 h) vk_X12_compares kt_113 (Nat.le_of_ble_eq_true rfl) rfl ml_X12_383 (rm_PR (by decide)) ⟨Nat.zero_le _, Nat.zero_le _⟩ rfl rfl (Nat.le_of_ble_eq_true rfl) dX12_part_81 (fun μ_10 hs h => ?_)
      refine z_iload_n dX12_part_84 rfl 1 rfl ?_
      refine z_if_eq (tgt := 94) dX12_part_85 (by decide) h (fun h => ?_) (fun h => ?_)
      · exact z_vret rfl dX12_part_94 rfl rfl rfl ⟨rfl, hs, h⟩
      · refine z_rload_n dX12_part_88 rfl 0 rfl ?_
        refine z_bipush dX12_part_89 (by decide) ?_
        refine z_VU (i_M_emits  hs h) vk_X12_emits kt_113 (Nat.le_of_ble_eq_true rfl) rfl ml_X12_357 (rm_P (by decide)) ⟨Nat.zero_le _, Nat.zero_le _⟩ rfl rfl (Nat.le_of_ble_eq_true rfl) dX12_part_91 (fun μ_11 hs h => ?_)
        exact z_vret rfl dX12_part_94 rfl rfl rfl ⟨rfl, hs, h⟩
  · exact z_vret rfl dX12_part_43 rfl rfl rfl ⟨rfl, hs, h⟩
abbrev Y_M_compares (d : Nat) : Yt := (2, none, yX12_compares.name, { frames := 10 * (d + 1) + 10, cells := 0, slots := 0, locals := 60 * (d + 1) + 300 }, 175, 0, 0)
def f_M_compares (rec : Nat → Mem → (Mem → Prop) → Prop)  (μ : Mem) (k : Mem → Prop) : Prop := rec 4  μ (fun μ_1 => if (v_M_isWell μ_1) = true then (∀ x55 : Int, x55 = (if (v_M_isSign 60 μ_1) = true then (-4) else (if (v_M_isSign 62 μ_1) = true then (-5) else (if (v_M_isSign 61 μ_1) = true then (-6) else 0))) → if w x55 = 0 then (f_M_fails 1 μ_1 (fun μ_2 => if (v_M_isWell μ_2) = true then (f_M_next  μ_2 (fun μ_3 => rec 4  μ_3 (fun μ_4 => f_M_emits x55 μ_4 (fun μ_5 => k μ_5)))) else (k μ_2))) else (if (v_M_isWell μ_1) = true then (f_M_next  μ_1 (fun μ_6 => rec 4  μ_6 (fun μ_7 => f_M_emits x55 μ_7 (fun μ_8 => k μ_8)))) else (k μ_1))) else (k μ_1))
theorem i_M_compares {l : Launch} {Γ : Gam} {g : Nat} {μ : Mem} {d : Nat} {rec : Nat → Mem → (Mem → Prop) → Prop} {k : Mem → Prop} (H : H_P l Γ g rec d) (hs : StatR μ.2.2) (h : f_M_compares rec  μ k) : CT l Γ yX12_compares cX12_compares 2 none (10 * (d + 1) + 10) (60 * (d + 1) + 300) 0 0 [vr Γ 113] g 175 μ (pV k) := by
  refine SW.ct (by decide) (Nat.le_of_ble_eq_true rfl) ?_
  refine z_sub (lv' := [(0, vr Γ 113)]) [0] rfl ?_
  show SW l Γ yX12_compares.cls cX12_compares (Y_M_compares d) (pV k) g 175 0 0 μ 0 [(0, vr Γ 113)] []
  unfold f_M_compares at h
  refine z_rload_n dX12_compares_0 rfl 0 rfl ?_
  refine z_VU ((H _ _ hs).2.2.2.2.1 h) vk_X12_sum kt_113 (Nat.le_of_ble_eq_true rfl) rfl ml_X12_366 (rm_PR (by decide)) ⟨Nat.zero_le _, Nat.zero_le _⟩ rfl rfl (Nat.le_of_ble_eq_true rfl) dX12_compares_1 (fun μ_1 hs h => ?_)
  refine z_rload_n dX12_compares_4 rfl 0 rfl ?_
  refine z_VE (i_M_isWell ) vk_X12_isWell kt_113 (Nat.le_of_ble_eq_true rfl) rfl ml_X12_316 (rm_P (by decide)) ⟨Nat.zero_le _, Nat.zero_le _⟩ rfl rfl (Nat.le_of_ble_eq_true rfl) dX12_compares_5 ?_
  refine z_ifne_b (tgt := 12) dX12_compares_8 (by decide) h (fun h => ?_) (fun h => ?_)
  · refine z_rload_n dX12_compares_12 rfl 0 rfl ?_
    refine z_bipush dX12_compares_13 (by decide) ?_
    refine z_VE (i_M_isSign ) vk_X12_isSign kt_113 (Nat.le_of_ble_eq_true rfl) rfl ml_X12_319 (rm_P (by decide)) ⟨Nat.zero_le _, Nat.zero_le _⟩ rfl rfl (Nat.le_of_ble_eq_true rfl) dX12_compares_15 ?_
    refine z_phi 55 [] (fun V9 hv J9 => ?_) h (fun x55 h => ?_)
    · refine z_ifeq_b (tgt := 26) dX12_compares_18 (by decide) (eq_ite hv) (fun hv => ?_) (fun hv => ?_)
      · refine z_bipush dX12_compares_21 (by decide) ?_
        refine z_goto (tgt := 55) dX12_compares_23 (by decide) ?_
        exact J9 _ hv.symm
      · refine z_rload_n dX12_compares_26 rfl 0 rfl ?_
        refine z_bipush dX12_compares_27 (by decide) ?_
        refine z_VE (i_M_isSign ) vk_X12_isSign kt_113 (Nat.le_of_ble_eq_true rfl) rfl ml_X12_319 (rm_P (by decide)) ⟨Nat.zero_le _, Nat.zero_le _⟩ rfl rfl (Nat.le_of_ble_eq_true rfl) dX12_compares_29 ?_
        refine z_ifeq_b (tgt := 40) dX12_compares_32 (by decide) (eq_ite hv) (fun hv => ?_) (fun hv => ?_)
        · refine z_bipush dX12_compares_35 (by decide) ?_
          refine z_goto (tgt := 55) dX12_compares_37 (by decide) ?_
          exact J9 _ hv.symm
        · refine z_rload_n dX12_compares_40 rfl 0 rfl ?_
          refine z_bipush dX12_compares_41 (by decide) ?_
          refine z_VE (i_M_isSign ) vk_X12_isSign kt_113 (Nat.le_of_ble_eq_true rfl) rfl ml_X12_319 (rm_P (by decide)) ⟨Nat.zero_le _, Nat.zero_le _⟩ rfl rfl (Nat.le_of_ble_eq_true rfl) dX12_compares_43 ?_
          refine z_ifeq_b (tgt := 54) dX12_compares_46 (by decide) (eq_ite hv) (fun hv => ?_) (fun hv => ?_)
          · refine z_bipush dX12_compares_49 (by decide) ?_
            refine z_goto (tgt := 55) dX12_compares_51 (by decide) ?_
            exact J9 _ hv.symm
          · refine z_iconst dX12_compares_54 ?_
            exact J9 _ hv.symm
    · refine z_istore_n (lv' := [(1, vi x55), (0, vr Γ 113)]) dX12_compares_55 rfl (Nat.le_of_ble_eq_true rfl) rfl ?_
      refine z_iload_n dX12_compares_56 rfl 0 rfl ?_
      refine z_if_ne (tgt := 65) dX12_compares_57 (by decide) h (fun h => ?_) (fun h => ?_)
      · refine z_rload_n dX12_compares_60 rfl 1 rfl ?_
        refine z_iconst dX12_compares_61 ?_
        refine z_VU (i_M_fails  hs h) vk_X12_fails kt_113 (Nat.le_of_ble_eq_true rfl) rfl ml_X12_325 (rm_P (by decide)) ⟨Nat.zero_le _, Nat.zero_le _⟩ rfl rfl (Nat.le_of_ble_eq_true rfl) dX12_compares_62 (fun μ_2 hs h => ?_)
        refine z_rload_n dX12_compares_65 rfl 1 rfl ?_
        refine z_VE (i_M_isWell ) vk_X12_isWell kt_113 (Nat.le_of_ble_eq_true rfl) rfl ml_X12_316 (rm_P (by decide)) ⟨Nat.zero_le _, Nat.zero_le _⟩ rfl rfl (Nat.le_of_ble_eq_true rfl) dX12_compares_66 ?_
        refine z_ifne_b (tgt := 73) dX12_compares_69 (by decide) h (fun h => ?_) (fun h => ?_)
        · refine z_rload_n dX12_compares_73 rfl 1 rfl ?_
          refine z_VU (i_M_next  hs h) vk_X12_next kt_113 (Nat.le_of_ble_eq_true rfl) rfl ml_X12_322 (rm_P (by decide)) ⟨Nat.zero_le _, Nat.zero_le _⟩ rfl rfl (Nat.le_of_ble_eq_true rfl) dX12_compares_74 (fun μ_3 hs h => ?_)
          refine z_rload_n dX12_compares_77 rfl 1 rfl ?_
          refine z_VU ((H _ _ hs).2.2.2.2.1 h) vk_X12_sum kt_113 (Nat.le_of_ble_eq_true rfl) rfl ml_X12_366 (rm_PR (by decide)) ⟨Nat.zero_le _, Nat.zero_le _⟩ rfl rfl (Nat.le_of_ble_eq_true rfl) dX12_compares_78 (fun μ_4 hs h => ?_)
          refine z_rload_n dX12_compares_81 rfl 1 rfl ?_
          refine z_iload_n dX12_compares_82 rfl 0 rfl ?_
          refine z_VU (i_M_emits  hs h) vk_X12_emits kt_113 (Nat.le_of_ble_eq_true rfl) rfl ml_X12_357 (rm_P (by decide)) ⟨Nat.zero_le _, Nat.zero_le _⟩ rfl rfl (Nat.le_of_ble_eq_true rfl) dX12_compares_83 (fun μ_5 hs h => ?_)
          exact z_vret rfl dX12_compares_86 rfl rfl rfl ⟨rfl, hs, h⟩
        · exact z_vret rfl dX12_compares_72 rfl rfl rfl ⟨rfl, hs, h⟩
      · refine z_rload_n dX12_compares_65 rfl 1 rfl ?_
        refine z_VE (i_M_isWell ) vk_X12_isWell kt_113 (Nat.le_of_ble_eq_true rfl) rfl ml_X12_316 (rm_P (by decide)) ⟨Nat.zero_le _, Nat.zero_le _⟩ rfl rfl (Nat.le_of_ble_eq_true rfl) dX12_compares_66 ?_
        refine z_ifne_b (tgt := 73) dX12_compares_69 (by decide) h (fun h => ?_) (fun h => ?_)
        · refine z_rload_n dX12_compares_73 rfl 1 rfl ?_
          refine z_VU (i_M_next  hs h) vk_X12_next kt_113 (Nat.le_of_ble_eq_true rfl) rfl ml_X12_322 (rm_P (by decide)) ⟨Nat.zero_le _, Nat.zero_le _⟩ rfl rfl (Nat.le_of_ble_eq_true rfl) dX12_compares_74 (fun μ_6 hs h => ?_)
          refine z_rload_n dX12_compares_77 rfl 1 rfl ?_
          refine z_VU ((H _ _ hs).2.2.2.2.1 h) vk_X12_sum kt_113 (Nat.le_of_ble_eq_true rfl) rfl ml_X12_366 (rm_PR (by decide)) ⟨Nat.zero_le _, Nat.zero_le _⟩ rfl rfl (Nat.le_of_ble_eq_true rfl) dX12_compares_78 (fun μ_7 hs h => ?_)
          refine z_rload_n dX12_compares_81 rfl 1 rfl ?_
          refine z_iload_n dX12_compares_82 rfl 0 rfl ?_
          refine z_VU (i_M_emits  hs h) vk_X12_emits kt_113 (Nat.le_of_ble_eq_true rfl) rfl ml_X12_357 (rm_P (by decide)) ⟨Nat.zero_le _, Nat.zero_le _⟩ rfl rfl (Nat.le_of_ble_eq_true rfl) dX12_compares_83 (fun μ_8 hs h => ?_)
          exact z_vret rfl dX12_compares_86 rfl rfl rfl ⟨rfl, hs, h⟩
        · exact z_vret rfl dX12_compares_72 rfl rfl rfl ⟨rfl, hs, h⟩
  · exact z_vret rfl dX12_compares_11 rfl rfl rfl ⟨rfl, hs, h⟩
abbrev Y_M_sum (d : Nat) : Yt := (2, none, yX12_sum.name, { frames := 10 * (d + 1) + 10, cells := 0, slots := 0, locals := 60 * (d + 1) + 300 }, 175, 0, 0)
def b_M_sum_29 (R_4 : Mem → Prop) (rec : Nat → Mem → (Mem → Prop) → Prop) (μ_3 : Mem) : Prop := ∀ v1 : Bool, v1 = v_M_isSign 43 μ_3 → f_M_next  μ_3 (fun μ_4 => rec 5  μ_4 (fun μ_5 => ∀ x55 : Int, x55 = (if v1 = true then (-1) else (-2)) → f_M_emits x55 μ_5 (fun μ_6 => R_4 μ_6)))
def l_M_sum_4 (X_4_61 : Mem → Prop) (rec : Nat → Mem → (Mem → Prop) → Prop) : Nat → Mem → Prop
  | 0, _ => False
  | fu4 + 1, μ_2 => if (v_M_isWell μ_2) = true then (if (v_M_isSign 43 μ_2) = true then (b_M_sum_29 (l_M_sum_4 X_4_61 rec fu4) rec μ_2) else (if (v_M_isSign 45 μ_2) = true then (b_M_sum_29 (l_M_sum_4 X_4_61 rec fu4) rec μ_2) else (X_4_61 μ_2))) else (X_4_61 μ_2)
def f_M_sum (rec : Nat → Mem → (Mem → Prop) → Prop)  (μ : Mem) (k : Mem → Prop) : Prop := rec 5  μ (fun μ_1 => ∃ m4 : Nat, l_M_sum_4 (fun (μ_7 : Mem) => k μ_7) rec m4 μ_1)
theorem B_M_sum_29 {l : Launch} {Γ : Gam} {g : Nat} {R_4 : Mem → Prop} {k : Mem → Prop} {d : Nat} {rec : Nat → Mem → (Mem → Prop) → Prop} {μ_3 : Mem} (H : H_P l Γ g rec d) (hR_4 : ∀ (ν : Mem), StatR ν.2.2 → R_4 ν → SW l Γ yX12_sum.cls cX12_sum (Y_M_sum d) (pV k) g 175 0 0 ν 4 [(0, vr Γ 113)] []) (hs : StatR μ_3.2.2) (h : b_M_sum_29 R_4 rec μ_3) : SW l Γ yX12_sum.cls cX12_sum (Y_M_sum d) (pV k) g 175 0 0 μ_3 29 [(0, vr Γ 113)] [] := by
  unfold b_M_sum_29 at h
  refine z_rload_n dX12_sum_29 rfl 0 rfl ?_
  refine z_bipush dX12_sum_30 (by decide) ?_
  refine z_VE (i_M_isSign ) vk_X12_isSign kt_113 (Nat.le_of_ble_eq_true rfl) rfl ml_X12_319 (rm_P (by decide)) ⟨Nat.zero_le _, Nat.zero_le _⟩ rfl rfl (Nat.le_of_ble_eq_true rfl) dX12_sum_32 ?_
  refine z_nmB (fun v1 ev1 => ?_)
  replace h := h v1 ev1
  refine z_istore_n (lv' := [(1, vi (b2i v1)), (0, vr Γ 113)]) dX12_sum_35 rfl (Nat.le_of_ble_eq_true rfl) rfl ?_
  refine z_rload_n dX12_sum_36 rfl 1 rfl ?_
  refine z_VU (i_M_next  hs h) vk_X12_next kt_113 (Nat.le_of_ble_eq_true rfl) rfl ml_X12_322 (rm_P (by decide)) ⟨Nat.zero_le _, Nat.zero_le _⟩ rfl rfl (Nat.le_of_ble_eq_true rfl) dX12_sum_37 (fun μ_4 hs h => ?_)
  refine z_rload_n dX12_sum_40 rfl 1 rfl ?_
  refine z_VU ((H _ _ hs).2.2.2.2.2.1 h) vk_X12_product kt_113 (Nat.le_of_ble_eq_true rfl) rfl ml_X12_375 (rm_PR (by decide)) ⟨Nat.zero_le _, Nat.zero_le _⟩ rfl rfl (Nat.le_of_ble_eq_true rfl) dX12_sum_41 (fun μ_5 hs h => ?_)
  refine z_rload_n dX12_sum_44 rfl 1 rfl ?_
  refine z_iload_n dX12_sum_45 rfl 0 rfl ?_
  refine z_phi 55 [vr Γ 113] (fun V9 hv J9 => ?_) h (fun x55 h => ?_)
  · refine z_ifeq_b (tgt := 53) dX12_sum_46 (by decide) (eq_ite hv) (fun hv => ?_) (fun hv => ?_)
    · refine z_iconst dX12_sum_49 ?_
      refine z_goto (tgt := 55) dX12_sum_50 (by decide) ?_
      exact J9 _ hv.symm
    · refine z_bipush dX12_sum_53 (by decide) ?_
      exact J9 _ hv.symm
  · refine z_VU (i_M_emits  hs h) vk_X12_emits kt_113 (Nat.le_of_ble_eq_true rfl) rfl ml_X12_357 (rm_P (by decide)) ⟨Nat.zero_le _, Nat.zero_le _⟩ rfl rfl (Nat.le_of_ble_eq_true rfl) dX12_sum_55 (fun μ_6 hs h => ?_)
    refine z_goto (tgt := 4) dX12_sum_58 (by decide) ?_
    refine z_sub (lv' := [(0, vr Γ 113)]) [1] rfl ?_
    exact hR_4 μ_6 hs h
theorem L_M_sum_4 {l : Launch} {Γ : Gam} {g : Nat} {X_4_61 : Mem → Prop} {k : Mem → Prop} {d : Nat} {rec : Nat → Mem → (Mem → Prop) → Prop} (H : H_P l Γ g rec d) (hX_4_61 : ∀ (ν : Mem), StatR ν.2.2 → X_4_61 ν → SW l Γ yX12_sum.cls cX12_sum (Y_M_sum d) (pV k) g 175 0 0 ν 61 [] []) (n9 : Nat) : ∀ (μ_2 : Mem), StatR μ_2.2.2 → l_M_sum_4 X_4_61 rec n9 μ_2 → SW l Γ yX12_sum.cls cX12_sum (Y_M_sum d) (pV k) g 175 0 0 μ_2 4 [(0, vr Γ 113)] [] := by
  induction n9 with
  | zero =>
    intro μ_2 hs h
    exact h.elim
  | succ n9 hR_4 =>
    intro μ_2 hs h
    rw [l_M_sum_4] at h
    refine z_rload_n dX12_sum_4 rfl 0 rfl ?_
    refine z_VE (i_M_isWell ) vk_X12_isWell kt_113 (Nat.le_of_ble_eq_true rfl) rfl ml_X12_316 (rm_P (by decide)) ⟨Nat.zero_le _, Nat.zero_le _⟩ rfl rfl (Nat.le_of_ble_eq_true rfl) dX12_sum_5 ?_
    refine z_ifeq_b (tgt := 61) dX12_sum_8 (by decide) h (fun h => ?_) (fun h => ?_)
    · refine z_rload_n dX12_sum_11 rfl 0 rfl ?_
      refine z_bipush dX12_sum_12 (by decide) ?_
      refine z_VE (i_M_isSign ) vk_X12_isSign kt_113 (Nat.le_of_ble_eq_true rfl) rfl ml_X12_319 (rm_P (by decide)) ⟨Nat.zero_le _, Nat.zero_le _⟩ rfl rfl (Nat.le_of_ble_eq_true rfl) dX12_sum_14 ?_
      refine z_ifne_b (tgt := 29) dX12_sum_17 (by decide) h (fun h => ?_) (fun h => ?_)
      · refine z_sub (lv' := [(0, vr Γ 113)]) [0] rfl ?_
        exact B_M_sum_29 H hR_4 hs h
      · refine z_rload_n dX12_sum_20 rfl 0 rfl ?_
        refine z_bipush dX12_sum_21 (by decide) ?_
        refine z_VE (i_M_isSign ) vk_X12_isSign kt_113 (Nat.le_of_ble_eq_true rfl) rfl ml_X12_319 (rm_P (by decide)) ⟨Nat.zero_le _, Nat.zero_le _⟩ rfl rfl (Nat.le_of_ble_eq_true rfl) dX12_sum_23 ?_
        refine z_ifeq_b (tgt := 61) dX12_sum_26 (by decide) h (fun h => ?_) (fun h => ?_)
        · refine z_sub (lv' := [(0, vr Γ 113)]) [0] rfl ?_
          exact B_M_sum_29 H hR_4 hs h
        · refine z_sub (lv' := []) [] rfl ?_
          exact hX_4_61 μ_2 hs h
    · refine z_sub (lv' := []) [] rfl ?_
      exact hX_4_61 μ_2 hs h
theorem i_M_sum {l : Launch} {Γ : Gam} {g : Nat} {μ : Mem} {d : Nat} {rec : Nat → Mem → (Mem → Prop) → Prop} {k : Mem → Prop} (H : H_P l Γ g rec d) (hs : StatR μ.2.2) (h : f_M_sum rec  μ k) : CT l Γ yX12_sum cX12_sum 2 none (10 * (d + 1) + 10) (60 * (d + 1) + 300) 0 0 [vr Γ 113] g 175 μ (pV k) := by
  refine SW.ct (by decide) (Nat.le_of_ble_eq_true rfl) ?_
  refine z_sub (lv' := [(0, vr Γ 113)]) [0] rfl ?_
  show SW l Γ yX12_sum.cls cX12_sum (Y_M_sum d) (pV k) g 175 0 0 μ 0 [(0, vr Γ 113)] []
  unfold f_M_sum at h
  refine z_rload_n dX12_sum_0 rfl 0 rfl ?_
  refine z_VU ((H _ _ hs).2.2.2.2.2.1 h) vk_X12_product kt_113 (Nat.le_of_ble_eq_true rfl) rfl ml_X12_375 (rm_PR (by decide)) ⟨Nat.zero_le _, Nat.zero_le _⟩ rfl rfl (Nat.le_of_ble_eq_true rfl) dX12_sum_1 (fun μ_1 hs h => ?_)
  obtain ⟨m4, h⟩ := h
  refine z_sub (lv' := [(0, vr Γ 113)]) [0] rfl ?_
  refine L_M_sum_4 H (fun μ_7 hs h => ?_) m4 μ_1 hs h
  exact z_vret rfl dX12_sum_61 rfl rfl rfl ⟨rfl, hs, h⟩
abbrev Y_M_product (d : Nat) : Yt := (2, none, yX12_product.name, { frames := 10 * (d + 1) + 10, cells := 0, slots := 0, locals := 60 * (d + 1) + 300 }, 175, 0, 0)
def b_M_product_29 (R_4 : Mem → Prop) (rec : Nat → Mem → (Mem → Prop) → Prop) (μ_3 : Mem) : Prop := ∀ v1 : Bool, v1 = v_M_isSign 42 μ_3 → f_M_next  μ_3 (fun μ_4 => rec 6  μ_4 (fun μ_5 => ∀ x56 : Int, x56 = (if v1 = true then (-3) else (-10)) → f_M_emits x56 μ_5 (fun μ_6 => R_4 μ_6)))
def l_M_product_4 (X_4_62 : Mem → Prop) (rec : Nat → Mem → (Mem → Prop) → Prop) : Nat → Mem → Prop
  | 0, _ => False
  | fu4 + 1, μ_2 => if (v_M_isWell μ_2) = true then (if (v_M_isSign 42 μ_2) = true then (b_M_product_29 (l_M_product_4 X_4_62 rec fu4) rec μ_2) else (if (v_M_isSign 47 μ_2) = true then (b_M_product_29 (l_M_product_4 X_4_62 rec fu4) rec μ_2) else (X_4_62 μ_2))) else (X_4_62 μ_2)
def f_M_product (rec : Nat → Mem → (Mem → Prop) → Prop)  (μ : Mem) (k : Mem → Prop) : Prop := rec 6  μ (fun μ_1 => ∃ m4 : Nat, l_M_product_4 (fun (μ_7 : Mem) => k μ_7) rec m4 μ_1)
theorem B_M_product_29 {l : Launch} {Γ : Gam} {g : Nat} {R_4 : Mem → Prop} {k : Mem → Prop} {d : Nat} {rec : Nat → Mem → (Mem → Prop) → Prop} {μ_3 : Mem} (H : H_P l Γ g rec d) (hR_4 : ∀ (ν : Mem), StatR ν.2.2 → R_4 ν → SW l Γ yX12_product.cls cX12_product (Y_M_product d) (pV k) g 175 0 0 ν 4 [(0, vr Γ 113)] []) (hs : StatR μ_3.2.2) (h : b_M_product_29 R_4 rec μ_3) : SW l Γ yX12_product.cls cX12_product (Y_M_product d) (pV k) g 175 0 0 μ_3 29 [(0, vr Γ 113)] [] := by
  unfold b_M_product_29 at h
  refine z_rload_n dX12_product_29 rfl 0 rfl ?_
  refine z_bipush dX12_product_30 (by decide) ?_
  refine z_VE (i_M_isSign ) vk_X12_isSign kt_113 (Nat.le_of_ble_eq_true rfl) rfl ml_X12_319 (rm_P (by decide)) ⟨Nat.zero_le _, Nat.zero_le _⟩ rfl rfl (Nat.le_of_ble_eq_true rfl) dX12_product_32 ?_
  refine z_nmB (fun v1 ev1 => ?_)
  replace h := h v1 ev1
  refine z_istore_n (lv' := [(1, vi (b2i v1)), (0, vr Γ 113)]) dX12_product_35 rfl (Nat.le_of_ble_eq_true rfl) rfl ?_
  refine z_rload_n dX12_product_36 rfl 1 rfl ?_
  refine z_VU (i_M_next  hs h) vk_X12_next kt_113 (Nat.le_of_ble_eq_true rfl) rfl ml_X12_322 (rm_P (by decide)) ⟨Nat.zero_le _, Nat.zero_le _⟩ rfl rfl (Nat.le_of_ble_eq_true rfl) dX12_product_37 (fun μ_4 hs h => ?_)
  refine z_rload_n dX12_product_40 rfl 1 rfl ?_
  refine z_VU ((H _ _ hs).2.2.2.2.2.2 h) vk_X12_factor kt_113 (Nat.le_of_ble_eq_true rfl) rfl ml_X12_372 (rm_PR (by decide)) ⟨Nat.zero_le _, Nat.zero_le _⟩ rfl rfl (Nat.le_of_ble_eq_true rfl) dX12_product_41 (fun μ_5 hs h => ?_)
  refine z_rload_n dX12_product_44 rfl 1 rfl ?_
  refine z_iload_n dX12_product_45 rfl 0 rfl ?_
  refine z_phi 56 [vr Γ 113] (fun V9 hv J9 => ?_) h (fun x56 h => ?_)
  · refine z_ifeq_b (tgt := 54) dX12_product_46 (by decide) (eq_ite hv) (fun hv => ?_) (fun hv => ?_)
    · refine z_bipush dX12_product_49 (by decide) ?_
      refine z_goto (tgt := 56) dX12_product_51 (by decide) ?_
      exact J9 _ hv.symm
    · refine z_bipush dX12_product_54 (by decide) ?_
      exact J9 _ hv.symm
  · refine z_VU (i_M_emits  hs h) vk_X12_emits kt_113 (Nat.le_of_ble_eq_true rfl) rfl ml_X12_357 (rm_P (by decide)) ⟨Nat.zero_le _, Nat.zero_le _⟩ rfl rfl (Nat.le_of_ble_eq_true rfl) dX12_product_56 (fun μ_6 hs h => ?_)
    refine z_goto (tgt := 4) dX12_product_59 (by decide) ?_
    refine z_sub (lv' := [(0, vr Γ 113)]) [1] rfl ?_
    exact hR_4 μ_6 hs h
theorem L_M_product_4 {l : Launch} {Γ : Gam} {g : Nat} {X_4_62 : Mem → Prop} {k : Mem → Prop} {d : Nat} {rec : Nat → Mem → (Mem → Prop) → Prop} (H : H_P l Γ g rec d) (hX_4_62 : ∀ (ν : Mem), StatR ν.2.2 → X_4_62 ν → SW l Γ yX12_product.cls cX12_product (Y_M_product d) (pV k) g 175 0 0 ν 62 [] []) (n9 : Nat) : ∀ (μ_2 : Mem), StatR μ_2.2.2 → l_M_product_4 X_4_62 rec n9 μ_2 → SW l Γ yX12_product.cls cX12_product (Y_M_product d) (pV k) g 175 0 0 μ_2 4 [(0, vr Γ 113)] [] := by
  induction n9 with
  | zero =>
    intro μ_2 hs h
    exact h.elim
  | succ n9 hR_4 =>
    intro μ_2 hs h
    rw [l_M_product_4] at h
    refine z_rload_n dX12_product_4 rfl 0 rfl ?_
    refine z_VE (i_M_isWell ) vk_X12_isWell kt_113 (Nat.le_of_ble_eq_true rfl) rfl ml_X12_316 (rm_P (by decide)) ⟨Nat.zero_le _, Nat.zero_le _⟩ rfl rfl (Nat.le_of_ble_eq_true rfl) dX12_product_5 ?_
    refine z_ifeq_b (tgt := 62) dX12_product_8 (by decide) h (fun h => ?_) (fun h => ?_)
    · refine z_rload_n dX12_product_11 rfl 0 rfl ?_
      refine z_bipush dX12_product_12 (by decide) ?_
      refine z_VE (i_M_isSign ) vk_X12_isSign kt_113 (Nat.le_of_ble_eq_true rfl) rfl ml_X12_319 (rm_P (by decide)) ⟨Nat.zero_le _, Nat.zero_le _⟩ rfl rfl (Nat.le_of_ble_eq_true rfl) dX12_product_14 ?_
      refine z_ifne_b (tgt := 29) dX12_product_17 (by decide) h (fun h => ?_) (fun h => ?_)
      · refine z_sub (lv' := [(0, vr Γ 113)]) [0] rfl ?_
        exact B_M_product_29 H hR_4 hs h
      · refine z_rload_n dX12_product_20 rfl 0 rfl ?_
        refine z_bipush dX12_product_21 (by decide) ?_
        refine z_VE (i_M_isSign ) vk_X12_isSign kt_113 (Nat.le_of_ble_eq_true rfl) rfl ml_X12_319 (rm_P (by decide)) ⟨Nat.zero_le _, Nat.zero_le _⟩ rfl rfl (Nat.le_of_ble_eq_true rfl) dX12_product_23 ?_
        refine z_ifeq_b (tgt := 62) dX12_product_26 (by decide) h (fun h => ?_) (fun h => ?_)
        · refine z_sub (lv' := [(0, vr Γ 113)]) [0] rfl ?_
          exact B_M_product_29 H hR_4 hs h
        · refine z_sub (lv' := []) [] rfl ?_
          exact hX_4_62 μ_2 hs h
    · refine z_sub (lv' := []) [] rfl ?_
      exact hX_4_62 μ_2 hs h
theorem i_M_product {l : Launch} {Γ : Gam} {g : Nat} {μ : Mem} {d : Nat} {rec : Nat → Mem → (Mem → Prop) → Prop} {k : Mem → Prop} (H : H_P l Γ g rec d) (hs : StatR μ.2.2) (h : f_M_product rec  μ k) : CT l Γ yX12_product cX12_product 2 none (10 * (d + 1) + 10) (60 * (d + 1) + 300) 0 0 [vr Γ 113] g 175 μ (pV k) := by
  refine SW.ct (by decide) (Nat.le_of_ble_eq_true rfl) ?_
  refine z_sub (lv' := [(0, vr Γ 113)]) [0] rfl ?_
  show SW l Γ yX12_product.cls cX12_product (Y_M_product d) (pV k) g 175 0 0 μ 0 [(0, vr Γ 113)] []
  unfold f_M_product at h
  refine z_rload_n dX12_product_0 rfl 0 rfl ?_
  refine z_VU ((H _ _ hs).2.2.2.2.2.2 h) vk_X12_factor kt_113 (Nat.le_of_ble_eq_true rfl) rfl ml_X12_372 (rm_PR (by decide)) ⟨Nat.zero_le _, Nat.zero_le _⟩ rfl rfl (Nat.le_of_ble_eq_true rfl) dX12_product_1 (fun μ_1 hs h => ?_)
  obtain ⟨m4, h⟩ := h
  refine z_sub (lv' := [(0, vr Γ 113)]) [0] rfl ?_
  refine L_M_product_4 H (fun μ_7 hs h => ?_) m4 μ_1 hs h
  exact z_vret rfl dX12_product_62 rfl rfl rfl ⟨rfl, hs, h⟩
abbrev Y_M_factor (d : Nat) : Yt := (2, none, yX12_factor.name, { frames := 10 * (d + 1) + 10, cells := 0, slots := 0, locals := 60 * (d + 1) + 300 }, 175, 0, 0)
def f_M_factor (rec : Nat → Mem → (Mem → Prop) → Prop)  (μ : Mem) (k : Mem → Prop) : Prop := if (v_M_isWell μ) = true then (if w (rI μ 15515 0) = w 2 then (f_M_emits (rI μ 15516 0) μ (fun μ_1 => f_M_next  μ_1 (fun μ_2 => k μ_2))) else (if w (rI μ 15515 0) = w 3 then (f_M_name  μ (fun r40 μ_3 => if w r40 = w (-1) then (f_M_fails 3 μ_3 (fun μ_4 => f_M_emits (10000 + r40) μ_4 (fun μ_5 => if (v_M_isWell μ_5) = true then (f_M_next  μ_5 (fun μ_6 => k μ_6)) else (k μ_5)))) else (f_M_emits (10000 + r40) μ_3 (fun μ_7 => if (v_M_isWell μ_7) = true then (f_M_next  μ_7 (fun μ_8 => k μ_8)) else (k μ_7))))) else (if (v_M_isSign 40 μ) = true then (f_M_opens  μ (fun μ_9 => rec 4  μ_9 (fun μ_10 => f_M_wantSign 41 μ_10 (fun μ_11 => ∀ μ_12 : Mem, μ_12 = sI μ_11 15520 0 ((rI μ_11 15520 0) - 1) → k μ_12)))) else (f_M_fails 1 μ (fun μ_13 => k μ_13))))) else (k μ)
theorem i_M_factor {l : Launch} {Γ : Gam} {g : Nat} {μ : Mem} {d : Nat} {rec : Nat → Mem → (Mem → Prop) → Prop} {k : Mem → Prop} (H : H_P l Γ g rec d) (hs : StatR μ.2.2) (h : f_M_factor rec  μ k) : CT l Γ yX12_factor cX12_factor 2 none (10 * (d + 1) + 10) (60 * (d + 1) + 300) 0 0 [vr Γ 113] g 175 μ (pV k) := by
  refine SW.ct (by decide) (Nat.le_of_ble_eq_true rfl) ?_
  refine z_sub (lv' := [(0, vr Γ 113)]) [0] rfl ?_
  show SW l Γ yX12_factor.cls cX12_factor (Y_M_factor d) (pV k) g 175 0 0 μ 0 [(0, vr Γ 113)] []
  unfold f_M_factor at h
  refine z_rload_n dX12_factor_0 rfl 0 rfl ?_
  refine z_VE (i_M_isWell ) vk_X12_isWell kt_113 (Nat.le_of_ble_eq_true rfl) rfl ml_X12_316 (rm_P (by decide)) ⟨Nat.zero_le _, Nat.zero_le _⟩ rfl rfl (Nat.le_of_ble_eq_true rfl) dX12_factor_1 ?_
  refine z_ifne_b (tgt := 8) dX12_factor_4 (by decide) h (fun h => ?_) (fun h => ?_)
  · refine z_rload_n dX12_factor_8 rfl 0 rfl ?_
    refine z_getI (q := 15515) ff_12_51 dX12_factor_9 kt_113 (Nat.le_of_ble_eq_true rfl) fl_X12_285 rfl ?_
    refine z_iconst dX12_factor_12 ?_
    refine z_icmp_ne (tgt := 31) dX12_factor_13 (by decide) h (fun h => ?_) (fun h => ?_)
    · refine z_rload_n dX12_factor_16 rfl 0 rfl ?_
      refine z_rload_n dX12_factor_17 rfl 0 rfl ?_
      refine z_getI (q := 15516) ff_12_52 dX12_factor_18 kt_113 (Nat.le_of_ble_eq_true rfl) fl_X12_288 rfl ?_
      refine z_VU (i_M_emits  hs h) vk_X12_emits kt_113 (Nat.le_of_ble_eq_true rfl) rfl ml_X12_357 (rm_P (by decide)) ⟨Nat.zero_le _, Nat.zero_le _⟩ rfl rfl (Nat.le_of_ble_eq_true rfl) dX12_factor_21 (fun μ_1 hs h => ?_)
      refine z_rload_n dX12_factor_24 rfl 0 rfl ?_
      refine z_VU (i_M_next  hs h) vk_X12_next kt_113 (Nat.le_of_ble_eq_true rfl) rfl ml_X12_322 (rm_P (by decide)) ⟨Nat.zero_le _, Nat.zero_le _⟩ rfl rfl (Nat.le_of_ble_eq_true rfl) dX12_factor_25 (fun μ_2 hs h => ?_)
      refine z_goto (tgt := 118) dX12_factor_28 (by decide) ?_
      exact z_vret rfl dX12_factor_118 rfl rfl rfl ⟨rfl, hs, h⟩
    · refine z_rload_n dX12_factor_31 rfl 0 rfl ?_
      refine z_getI (q := 15515) ff_12_51 dX12_factor_32 kt_113 (Nat.le_of_ble_eq_true rfl) fl_X12_285 rfl ?_
      refine z_iconst dX12_factor_35 ?_
      refine z_icmp_ne (tgt := 77) dX12_factor_36 (by decide) h (fun h => ?_) (fun h => ?_)
      · refine z_rload_n dX12_factor_39 rfl 0 rfl ?_
        refine z_VI (i_M_name  hs h) vk_X12_name kt_113 (Nat.le_of_ble_eq_true rfl) rfl ml_X12_360 (rm_P (by decide)) ⟨Nat.zero_le _, Nat.zero_le _⟩ rfl rfl (Nat.le_of_ble_eq_true rfl) dX12_factor_40 (fun r40 μ_3 hs h => ?_)
        refine z_istore_n (lv' := [(1, vi r40), (0, vr Γ 113)]) dX12_factor_43 rfl (Nat.le_of_ble_eq_true rfl) rfl ?_
        refine z_iload_n dX12_factor_44 rfl 0 rfl ?_
        refine z_iconst dX12_factor_45 ?_
        refine z_icmp_ne (tgt := 54) dX12_factor_46 (by decide) h (fun h => ?_) (fun h => ?_)
        · refine z_rload_n dX12_factor_49 rfl 1 rfl ?_
          refine z_iconst dX12_factor_50 ?_
          refine z_VU (i_M_fails  hs h) vk_X12_fails kt_113 (Nat.le_of_ble_eq_true rfl) rfl ml_X12_325 (rm_P (by decide)) ⟨Nat.zero_le _, Nat.zero_le _⟩ rfl rfl (Nat.le_of_ble_eq_true rfl) dX12_factor_51 (fun μ_4 hs h => ?_)
          refine z_rload_n dX12_factor_54 rfl 1 rfl ?_
          refine z_sipush dX12_factor_55 (by decide) ?_
          refine z_iload_n dX12_factor_58 rfl 0 rfl ?_
          refine z_iadd dX12_factor_59 ?_
          refine z_VU (i_M_emits  hs h) vk_X12_emits kt_113 (Nat.le_of_ble_eq_true rfl) rfl ml_X12_357 (rm_P (by decide)) ⟨Nat.zero_le _, Nat.zero_le _⟩ rfl rfl (Nat.le_of_ble_eq_true rfl) dX12_factor_60 (fun μ_5 hs h => ?_)
          refine z_rload_n dX12_factor_63 rfl 1 rfl ?_
          refine z_VE (i_M_isWell ) vk_X12_isWell kt_113 (Nat.le_of_ble_eq_true rfl) rfl ml_X12_316 (rm_P (by decide)) ⟨Nat.zero_le _, Nat.zero_le _⟩ rfl rfl (Nat.le_of_ble_eq_true rfl) dX12_factor_64 ?_
          refine z_ifeq_b (tgt := 74) dX12_factor_67 (by decide) h (fun h => ?_) (fun h => ?_)
          · refine z_rload_n dX12_factor_70 rfl 1 rfl ?_
            refine z_VU (i_M_next  hs h) vk_X12_next kt_113 (Nat.le_of_ble_eq_true rfl) rfl ml_X12_322 (rm_P (by decide)) ⟨Nat.zero_le _, Nat.zero_le _⟩ rfl rfl (Nat.le_of_ble_eq_true rfl) dX12_factor_71 (fun μ_6 hs h => ?_)
            refine z_goto (tgt := 118) dX12_factor_74 (by decide) ?_
            exact z_vret rfl dX12_factor_118 rfl rfl rfl ⟨rfl, hs, h⟩
          · refine z_goto (tgt := 118) dX12_factor_74 (by decide) ?_
            exact z_vret rfl dX12_factor_118 rfl rfl rfl ⟨rfl, hs, h⟩
        · refine z_rload_n dX12_factor_54 rfl 1 rfl ?_
          refine z_sipush dX12_factor_55 (by decide) ?_
          refine z_iload_n dX12_factor_58 rfl 0 rfl ?_
          refine z_iadd dX12_factor_59 ?_
          refine z_VU (i_M_emits  hs h) vk_X12_emits kt_113 (Nat.le_of_ble_eq_true rfl) rfl ml_X12_357 (rm_P (by decide)) ⟨Nat.zero_le _, Nat.zero_le _⟩ rfl rfl (Nat.le_of_ble_eq_true rfl) dX12_factor_60 (fun μ_7 hs h => ?_)
          refine z_rload_n dX12_factor_63 rfl 1 rfl ?_
          refine z_VE (i_M_isWell ) vk_X12_isWell kt_113 (Nat.le_of_ble_eq_true rfl) rfl ml_X12_316 (rm_P (by decide)) ⟨Nat.zero_le _, Nat.zero_le _⟩ rfl rfl (Nat.le_of_ble_eq_true rfl) dX12_factor_64 ?_
          refine z_ifeq_b (tgt := 74) dX12_factor_67 (by decide) h (fun h => ?_) (fun h => ?_)
          · refine z_rload_n dX12_factor_70 rfl 1 rfl ?_
            refine z_VU (i_M_next  hs h) vk_X12_next kt_113 (Nat.le_of_ble_eq_true rfl) rfl ml_X12_322 (rm_P (by decide)) ⟨Nat.zero_le _, Nat.zero_le _⟩ rfl rfl (Nat.le_of_ble_eq_true rfl) dX12_factor_71 (fun μ_8 hs h => ?_)
            refine z_goto (tgt := 118) dX12_factor_74 (by decide) ?_
            exact z_vret rfl dX12_factor_118 rfl rfl rfl ⟨rfl, hs, h⟩
          · refine z_goto (tgt := 118) dX12_factor_74 (by decide) ?_
            exact z_vret rfl dX12_factor_118 rfl rfl rfl ⟨rfl, hs, h⟩
      · refine z_rload_n dX12_factor_77 rfl 0 rfl ?_
        refine z_bipush dX12_factor_78 (by decide) ?_
        refine z_VE (i_M_isSign ) vk_X12_isSign kt_113 (Nat.le_of_ble_eq_true rfl) rfl ml_X12_319 (rm_P (by decide)) ⟨Nat.zero_le _, Nat.zero_le _⟩ rfl rfl (Nat.le_of_ble_eq_true rfl) dX12_factor_80 ?_
        refine z_ifeq_b (tgt := 113) dX12_factor_83 (by decide) h (fun h => ?_) (fun h => ?_)
        · refine z_rload_n dX12_factor_86 rfl 0 rfl ?_
          refine z_VU (i_M_opens  hs h) vk_X12_opens kt_113 (Nat.le_of_ble_eq_true rfl) rfl ml_X12_363 (rm_P (by decide)) ⟨Nat.zero_le _, Nat.zero_le _⟩ rfl rfl (Nat.le_of_ble_eq_true rfl) dX12_factor_87 (fun μ_9 hs h => ?_)
          refine z_rload_n dX12_factor_90 rfl 0 rfl ?_
          refine z_VU ((H _ _ hs).2.2.2.2.1 h) vk_X12_sum kt_113 (Nat.le_of_ble_eq_true rfl) rfl ml_X12_366 (rm_PR (by decide)) ⟨Nat.zero_le _, Nat.zero_le _⟩ rfl rfl (Nat.le_of_ble_eq_true rfl) dX12_factor_91 (fun μ_10 hs h => ?_)
          refine z_rload_n dX12_factor_94 rfl 0 rfl ?_
          refine z_bipush dX12_factor_95 (by decide) ?_
          refine z_VU (i_M_wantSign  hs h) vk_X12_wantSign kt_113 (Nat.le_of_ble_eq_true rfl) rfl ml_X12_369 (rm_P (by decide)) ⟨Nat.zero_le _, Nat.zero_le _⟩ rfl rfl (Nat.le_of_ble_eq_true rfl) dX12_factor_97 (fun μ_11 hs h => ?_)
          refine z_rload_n dX12_factor_100 rfl 0 rfl ?_
          refine z_dup dX12_factor_101 rfl ?_
          refine z_getI (q := 15520) ff_12_56 dX12_factor_102 kt_113 (Nat.le_of_ble_eq_true rfl) fl_X12_354 rfl ?_
          refine z_iconst dX12_factor_105 ?_
          refine z_isub dX12_factor_106 ?_
          refine z_putI (q := 15520) ff_12_56 (Or.inl rfl) rfl dX12_factor_107 kt_113 (Nat.le_of_ble_eq_true rfl) fl_X12_354 rfl ?_
          refine z_mm (fun μ_12 eμ_12 => ?_)
          replace h := h μ_12 eμ_12
          replace hs : StatR μ_12.2.2 := by rw [eμ_12]; exact hs
          refine z_goto (tgt := 118) dX12_factor_110 (by decide) ?_
          exact z_vret rfl dX12_factor_118 rfl rfl rfl ⟨rfl, hs, h⟩
        · refine z_rload_n dX12_factor_113 rfl 0 rfl ?_
          refine z_iconst dX12_factor_114 ?_
          refine z_VU (i_M_fails  hs h) vk_X12_fails kt_113 (Nat.le_of_ble_eq_true rfl) rfl ml_X12_325 (rm_P (by decide)) ⟨Nat.zero_le _, Nat.zero_le _⟩ rfl rfl (Nat.le_of_ble_eq_true rfl) dX12_factor_115 (fun μ_13 hs h => ?_)
          exact z_vret rfl dX12_factor_118 rfl rfl rfl ⟨rfl, hs, h⟩
  · exact z_vret rfl dX12_factor_7 rfl rfl rfl ⟨rfl, hs, h⟩
def R_P : Nat → Nat → Mem → (Mem → Prop) → Prop
  | 0 => fun _ _ _ => False
  | d + 1 => fun t μ k => match t with
    | 0 => f_M_cond (R_P d) μ k
    | 1 => f_M_both (R_P d) μ k
    | 2 => f_M_part (R_P d) μ k
    | 3 => f_M_compares (R_P d) μ k
    | 4 => f_M_sum (R_P d) μ k
    | 5 => f_M_product (R_P d) μ k
    | _ => f_M_factor (R_P d) μ k
theorem ok_P {l : Launch} {Γ : Gam} {g : Nat} : ∀ d : Nat, H_P l Γ g (R_P d) d
  | 0 => fun _ _ _ => ⟨fun h => h.elim, fun h => h.elim, fun h => h.elim, fun h => h.elim, fun h => h.elim, fun h => h.elim, fun h => h.elim⟩
  | d + 1 => fun μ k hs => ⟨fun h => i_M_cond (ok_P d) hs h, fun h => i_M_both (ok_P d) hs h, fun h => i_M_part (ok_P d) hs h, fun h => i_M_compares (ok_P d) hs h, fun h => i_M_sum (ok_P d) hs h, fun h => i_M_product (ok_P d) hs h, fun h => i_M_factor (ok_P d) hs h⟩
abbrev Y_M_readNumber : Yt := (3, (some .int), yX12_readNumber.name, { frames := 2, cells := 0, slots := 0, locals := 42 }, 175, 0, 0)
def b_M_readNumber_20 (k : Int → Mem → Prop) (v1 : Int) (μ_1 : Mem) : Prop := if (v_M_isWell μ_1) = true then (if (v_M_within (rI μ_1 15516 0) 1 v1) = true then (if (v_M_isWell μ_1) = true then (∀ v2 : Int, v2 = rI μ_1 15516 0 → f_M_next  μ_1 (fun μ_2 => k v2 μ_2)) else (k 0 μ_1)) else (f_M_fails 2 μ_1 (fun μ_3 => if (v_M_isWell μ_3) = true then (∀ v2_1 : Int, v2_1 = rI μ_3 15516 0 → f_M_next  μ_3 (fun μ_4 => k v2_1 μ_4)) else (k 0 μ_3)))) else (if (v_M_isWell μ_1) = true then (∀ v2_2 : Int, v2_2 = rI μ_1 15516 0 → f_M_next  μ_1 (fun μ_5 => k v2_2 μ_5)) else (k 0 μ_1))
def f_M_readNumber (a1 : Int) (μ : Mem) (k : Int → Mem → Prop) : Prop := if (v_M_isWell μ) = true then (if w (rI μ 15515 0) = w 2 then (b_M_readNumber_20 k a1 μ) else (f_M_fails 1 μ (fun μ_6 => b_M_readNumber_20 k a1 μ_6))) else (b_M_readNumber_20 k a1 μ)
theorem B_M_readNumber_20 {l : Launch} {Γ : Gam} {g : Nat} {k : Int → Mem → Prop} {v1 : Int} {μ_1 : Mem} (hs : StatR μ_1.2.2) (h : b_M_readNumber_20 k v1 μ_1) : SW l Γ yX12_readNumber.cls cX12_readNumber Y_M_readNumber (pI k) g 175 0 0 μ_1 20 [(0, vr Γ 113), (1, vi v1)] [] := by
  unfold b_M_readNumber_20 at h
  refine z_rload_n dX12_readNumber_20 rfl 0 rfl ?_
  refine z_VE (i_M_isWell ) vk_X12_isWell kt_113 (Nat.le_of_ble_eq_true rfl) rfl ml_X12_316 ⟨Nat.le_of_ble_eq_true rfl, Nat.le_of_ble_eq_true rfl⟩ ⟨Nat.zero_le _, Nat.zero_le _⟩ rfl rfl (Nat.le_of_ble_eq_true rfl) dX12_readNumber_21 ?_
  refine z_ifeq_b (tgt := 44) dX12_readNumber_24 (by decide) h (fun h => ?_) (fun h => ?_)
  · refine z_rload_n dX12_readNumber_27 rfl 0 rfl ?_
    refine z_getI (q := 15516) ff_12_52 dX12_readNumber_28 kt_113 (Nat.le_of_ble_eq_true rfl) fl_X12_288 rfl ?_
    refine z_iconst dX12_readNumber_31 ?_
    refine z_iload_n dX12_readNumber_32 rfl 1 rfl ?_
    refine z_SE (i_M_within ) sk_X12_within ml_X12_215 ⟨Nat.le_of_ble_eq_true rfl, Nat.le_of_ble_eq_true rfl⟩ ⟨Nat.zero_le _, Nat.zero_le _⟩ rfl rfl (Nat.le_of_ble_eq_true rfl) dX12_readNumber_33 ?_
    refine z_ifne_b (tgt := 44) dX12_readNumber_36 (by decide) h (fun h => ?_) (fun h => ?_)
    · refine z_rload_n dX12_readNumber_44 rfl 0 rfl ?_
      refine z_VE (i_M_isWell ) vk_X12_isWell kt_113 (Nat.le_of_ble_eq_true rfl) rfl ml_X12_316 ⟨Nat.le_of_ble_eq_true rfl, Nat.le_of_ble_eq_true rfl⟩ ⟨Nat.zero_le _, Nat.zero_le _⟩ rfl rfl (Nat.le_of_ble_eq_true rfl) dX12_readNumber_45 ?_
      refine z_ifne_b (tgt := 53) dX12_readNumber_48 (by decide) h (fun h => ?_) (fun h => ?_)
      · refine z_rload_n dX12_readNumber_53 rfl 0 rfl ?_
        refine z_getI (q := 15516) ff_12_52 dX12_readNumber_54 kt_113 (Nat.le_of_ble_eq_true rfl) fl_X12_288 rfl ?_
        refine z_nm (fun v2 ev2 => ?_)
        replace h := h v2 ev2
        refine z_istore_n (lv' := [(2, vi v2), (0, vr Γ 113), (1, vi v1)]) dX12_readNumber_57 rfl (Nat.le_of_ble_eq_true rfl) rfl ?_
        refine z_rload_n dX12_readNumber_58 rfl 1 rfl ?_
        refine z_VU (i_M_next  hs h) vk_X12_next kt_113 (Nat.le_of_ble_eq_true rfl) rfl ml_X12_322 ⟨Nat.le_of_ble_eq_true rfl, Nat.le_of_ble_eq_true rfl⟩ ⟨Nat.zero_le _, Nat.zero_le _⟩ rfl rfl (Nat.le_of_ble_eq_true rfl) dX12_readNumber_59 (fun μ_2 hs h => ?_)
        refine z_iload_n dX12_readNumber_62 rfl 0 rfl ?_
        exact z_iret rfl dX12_readNumber_63 rfl rfl rfl ⟨_, rfl, hs, h⟩
      · refine z_iconst dX12_readNumber_51 ?_
        exact z_iret rfl dX12_readNumber_52 rfl rfl rfl ⟨_, rfl, hs, h⟩
    · refine z_rload_n dX12_readNumber_39 rfl 0 rfl ?_
      refine z_iconst dX12_readNumber_40 ?_
      refine z_VU (i_M_fails  hs h) vk_X12_fails kt_113 (Nat.le_of_ble_eq_true rfl) rfl ml_X12_325 ⟨Nat.le_of_ble_eq_true rfl, Nat.le_of_ble_eq_true rfl⟩ ⟨Nat.zero_le _, Nat.zero_le _⟩ rfl rfl (Nat.le_of_ble_eq_true rfl) dX12_readNumber_41 (fun μ_3 hs h => ?_)
      refine z_rload_n dX12_readNumber_44 rfl 0 rfl ?_
      refine z_VE (i_M_isWell ) vk_X12_isWell kt_113 (Nat.le_of_ble_eq_true rfl) rfl ml_X12_316 ⟨Nat.le_of_ble_eq_true rfl, Nat.le_of_ble_eq_true rfl⟩ ⟨Nat.zero_le _, Nat.zero_le _⟩ rfl rfl (Nat.le_of_ble_eq_true rfl) dX12_readNumber_45 ?_
      refine z_ifne_b (tgt := 53) dX12_readNumber_48 (by decide) h (fun h => ?_) (fun h => ?_)
      · refine z_rload_n dX12_readNumber_53 rfl 0 rfl ?_
        refine z_getI (q := 15516) ff_12_52 dX12_readNumber_54 kt_113 (Nat.le_of_ble_eq_true rfl) fl_X12_288 rfl ?_
        refine z_nm (fun v2_1 ev2_1 => ?_)
        replace h := h v2_1 ev2_1
        refine z_istore_n (lv' := [(2, vi v2_1), (0, vr Γ 113), (1, vi v1)]) dX12_readNumber_57 rfl (Nat.le_of_ble_eq_true rfl) rfl ?_
        refine z_rload_n dX12_readNumber_58 rfl 1 rfl ?_
        refine z_VU (i_M_next  hs h) vk_X12_next kt_113 (Nat.le_of_ble_eq_true rfl) rfl ml_X12_322 ⟨Nat.le_of_ble_eq_true rfl, Nat.le_of_ble_eq_true rfl⟩ ⟨Nat.zero_le _, Nat.zero_le _⟩ rfl rfl (Nat.le_of_ble_eq_true rfl) dX12_readNumber_59 (fun μ_4 hs h => ?_)
        refine z_iload_n dX12_readNumber_62 rfl 0 rfl ?_
        exact z_iret rfl dX12_readNumber_63 rfl rfl rfl ⟨_, rfl, hs, h⟩
      · refine z_iconst dX12_readNumber_51 ?_
        exact z_iret rfl dX12_readNumber_52 rfl rfl rfl ⟨_, rfl, hs, h⟩
  · refine z_rload_n dX12_readNumber_44 rfl 0 rfl ?_
    refine z_VE (i_M_isWell ) vk_X12_isWell kt_113 (Nat.le_of_ble_eq_true rfl) rfl ml_X12_316 ⟨Nat.le_of_ble_eq_true rfl, Nat.le_of_ble_eq_true rfl⟩ ⟨Nat.zero_le _, Nat.zero_le _⟩ rfl rfl (Nat.le_of_ble_eq_true rfl) dX12_readNumber_45 ?_
    refine z_ifne_b (tgt := 53) dX12_readNumber_48 (by decide) h (fun h => ?_) (fun h => ?_)
    · refine z_rload_n dX12_readNumber_53 rfl 0 rfl ?_
      refine z_getI (q := 15516) ff_12_52 dX12_readNumber_54 kt_113 (Nat.le_of_ble_eq_true rfl) fl_X12_288 rfl ?_
      refine z_nm (fun v2_2 ev2_2 => ?_)
      replace h := h v2_2 ev2_2
      refine z_istore_n (lv' := [(2, vi v2_2), (0, vr Γ 113), (1, vi v1)]) dX12_readNumber_57 rfl (Nat.le_of_ble_eq_true rfl) rfl ?_
      refine z_rload_n dX12_readNumber_58 rfl 1 rfl ?_
      refine z_VU (i_M_next  hs h) vk_X12_next kt_113 (Nat.le_of_ble_eq_true rfl) rfl ml_X12_322 ⟨Nat.le_of_ble_eq_true rfl, Nat.le_of_ble_eq_true rfl⟩ ⟨Nat.zero_le _, Nat.zero_le _⟩ rfl rfl (Nat.le_of_ble_eq_true rfl) dX12_readNumber_59 (fun μ_5 hs h => ?_)
      refine z_iload_n dX12_readNumber_62 rfl 0 rfl ?_
      exact z_iret rfl dX12_readNumber_63 rfl rfl rfl ⟨_, rfl, hs, h⟩
    · refine z_iconst dX12_readNumber_51 ?_
      exact z_iret rfl dX12_readNumber_52 rfl rfl rfl ⟨_, rfl, hs, h⟩
theorem i_M_readNumber {l : Launch} {Γ : Gam} {g : Nat} {a1 : Int} {μ : Mem} {k : Int → Mem → Prop} (hs : StatR μ.2.2) (h : f_M_readNumber a1 μ k) : CT l Γ yX12_readNumber cX12_readNumber 3 (some .int) 2 42 0 0 [vr Γ 113, vi a1] g 175 μ (pI k) := by
  refine SW.ct (by decide) (Nat.le_of_ble_eq_true rfl) ?_
  refine z_sub (lv' := [(0, vr Γ 113), (1, vi a1)]) [0, 1] rfl ?_
  show SW l Γ yX12_readNumber.cls cX12_readNumber Y_M_readNumber (pI k) g 175 0 0 μ 0 [(0, vr Γ 113), (1, vi a1)] []
  unfold f_M_readNumber at h
  refine z_rload_n dX12_readNumber_0 rfl 0 rfl ?_
  refine z_VE (i_M_isWell ) vk_X12_isWell kt_113 (Nat.le_of_ble_eq_true rfl) rfl ml_X12_316 ⟨Nat.le_of_ble_eq_true rfl, Nat.le_of_ble_eq_true rfl⟩ ⟨Nat.zero_le _, Nat.zero_le _⟩ rfl rfl (Nat.le_of_ble_eq_true rfl) dX12_readNumber_1 ?_
  refine z_ifeq_b (tgt := 20) dX12_readNumber_4 (by decide) h (fun h => ?_) (fun h => ?_)
  · refine z_rload_n dX12_readNumber_7 rfl 0 rfl ?_
    refine z_getI (q := 15515) ff_12_51 dX12_readNumber_8 kt_113 (Nat.le_of_ble_eq_true rfl) fl_X12_285 rfl ?_
    refine z_iconst dX12_readNumber_11 ?_
    refine z_icmp_eq (tgt := 20) dX12_readNumber_12 (by decide) h (fun h => ?_) (fun h => ?_)
    · refine z_sub (lv' := [(0, vr Γ 113), (1, vi a1)]) [0, 1] rfl ?_
      exact B_M_readNumber_20 hs h
    · refine z_rload_n dX12_readNumber_15 rfl 0 rfl ?_
      refine z_iconst dX12_readNumber_16 ?_
      refine z_VU (i_M_fails  hs h) vk_X12_fails kt_113 (Nat.le_of_ble_eq_true rfl) rfl ml_X12_325 ⟨Nat.le_of_ble_eq_true rfl, Nat.le_of_ble_eq_true rfl⟩ ⟨Nat.zero_le _, Nat.zero_le _⟩ rfl rfl (Nat.le_of_ble_eq_true rfl) dX12_readNumber_17 (fun μ_6 hs h => ?_)
      refine z_sub (lv' := [(0, vr Γ 113), (1, vi a1)]) [0, 1] rfl ?_
      exact B_M_readNumber_20 hs h
  · refine z_sub (lv' := [(0, vr Γ 113), (1, vi a1)]) [0, 1] rfl ?_
    exact B_M_readNumber_20 hs h
abbrev Y_M_clauseKind : Yt := (1, (some .int), yX12_clauseKind.name, { frames := 6, cells := 0, slots := 0, locals := 143 }, 175, 0, 0)
def f_M_clauseKind  (μ : Mem) (k : Int → Mem → Prop) : Prop := f_M_isWord 0 μ (fun r4 μ_1 => if r4 = true then (k 0 μ_1) else (f_M_isWord 1 μ_1 (fun r18 μ_2 => if r18 = true then (k 3 μ_2) else (f_M_isWord 2 μ_2 (fun r32 μ_3 => if r32 = true then (k 4 μ_3) else (f_M_isWord 3 μ_3 (fun r46 μ_4 => if r46 = true then (k 5 μ_4) else (f_M_isWord 4 μ_4 (fun r60 μ_5 => if r60 = true then (k 6 μ_5) else (f_M_isWord 5 μ_5 (fun r75 μ_6 => ∀ x87 : Int, x87 = (if r75 = true then 7 else (-1)) → k x87 μ_6)))))))))))
theorem i_M_clauseKind {l : Launch} {Γ : Gam} {g : Nat} {μ : Mem} {k : Int → Mem → Prop} (hs : StatR μ.2.2) (h : f_M_clauseKind  μ k) : CT l Γ yX12_clauseKind cX12_clauseKind 1 (some .int) 6 143 0 0 [vr Γ 113] g 175 μ (pI k) := by
  refine SW.ct (by decide) (Nat.le_of_ble_eq_true rfl) ?_
  refine z_sub (lv' := [(0, vr Γ 113)]) [0] rfl ?_
  show SW l Γ yX12_clauseKind.cls cX12_clauseKind Y_M_clauseKind (pI k) g 175 0 0 μ 0 [(0, vr Γ 113)] []
  unfold f_M_clauseKind at h
  refine z_rload_n dX12_clauseKind_0 rfl 0 rfl ?_
  refine z_ldcSw dX12_clauseKind_1 st_X12_396 ?_
  refine z_VB (i_M_isWord (Nat.le_of_ble_eq_true rfl) hs h) vk_X12_isWord kt_113 (Nat.le_of_ble_eq_true rfl) rfl ml_X12_329 ⟨Nat.le_of_ble_eq_true rfl, Nat.le_of_ble_eq_true rfl⟩ ⟨Nat.zero_le _, Nat.zero_le _⟩ rfl rfl (Nat.le_of_ble_eq_true rfl) dX12_clauseKind_4 (fun r4 μ_1 hs h => ?_)
  refine z_ifeq_b (tgt := 14) dX12_clauseKind_7 (by decide) h (fun h => ?_) (fun h => ?_)
  · refine z_iconst dX12_clauseKind_10 ?_
    refine z_goto (tgt := 87) dX12_clauseKind_11 (by decide) ?_
    exact z_iret rfl dX12_clauseKind_87 rfl rfl rfl ⟨_, rfl, hs, h⟩
  · refine z_rload_n dX12_clauseKind_14 rfl 0 rfl ?_
    refine z_ldcSw dX12_clauseKind_15 st_X12_398 ?_
    refine z_VB (i_M_isWord (Nat.le_of_ble_eq_true rfl) hs h) vk_X12_isWord kt_113 (Nat.le_of_ble_eq_true rfl) rfl ml_X12_329 ⟨Nat.le_of_ble_eq_true rfl, Nat.le_of_ble_eq_true rfl⟩ ⟨Nat.zero_le _, Nat.zero_le _⟩ rfl rfl (Nat.le_of_ble_eq_true rfl) dX12_clauseKind_18 (fun r18 μ_2 hs h => ?_)
    refine z_ifeq_b (tgt := 28) dX12_clauseKind_21 (by decide) h (fun h => ?_) (fun h => ?_)
    · refine z_iconst dX12_clauseKind_24 ?_
      refine z_goto (tgt := 87) dX12_clauseKind_25 (by decide) ?_
      exact z_iret rfl dX12_clauseKind_87 rfl rfl rfl ⟨_, rfl, hs, h⟩
    · refine z_rload_n dX12_clauseKind_28 rfl 0 rfl ?_
      refine z_ldcSw dX12_clauseKind_29 st_X12_400 ?_
      refine z_VB (i_M_isWord (Nat.le_of_ble_eq_true rfl) hs h) vk_X12_isWord kt_113 (Nat.le_of_ble_eq_true rfl) rfl ml_X12_329 ⟨Nat.le_of_ble_eq_true rfl, Nat.le_of_ble_eq_true rfl⟩ ⟨Nat.zero_le _, Nat.zero_le _⟩ rfl rfl (Nat.le_of_ble_eq_true rfl) dX12_clauseKind_32 (fun r32 μ_3 hs h => ?_)
      refine z_ifeq_b (tgt := 42) dX12_clauseKind_35 (by decide) h (fun h => ?_) (fun h => ?_)
      · refine z_iconst dX12_clauseKind_38 ?_
        refine z_goto (tgt := 87) dX12_clauseKind_39 (by decide) ?_
        exact z_iret rfl dX12_clauseKind_87 rfl rfl rfl ⟨_, rfl, hs, h⟩
      · refine z_rload_n dX12_clauseKind_42 rfl 0 rfl ?_
        refine z_ldcSw dX12_clauseKind_43 st_X12_402 ?_
        refine z_VB (i_M_isWord (Nat.le_of_ble_eq_true rfl) hs h) vk_X12_isWord kt_113 (Nat.le_of_ble_eq_true rfl) rfl ml_X12_329 ⟨Nat.le_of_ble_eq_true rfl, Nat.le_of_ble_eq_true rfl⟩ ⟨Nat.zero_le _, Nat.zero_le _⟩ rfl rfl (Nat.le_of_ble_eq_true rfl) dX12_clauseKind_46 (fun r46 μ_4 hs h => ?_)
        refine z_ifeq_b (tgt := 56) dX12_clauseKind_49 (by decide) h (fun h => ?_) (fun h => ?_)
        · refine z_iconst dX12_clauseKind_52 ?_
          refine z_goto (tgt := 87) dX12_clauseKind_53 (by decide) ?_
          exact z_iret rfl dX12_clauseKind_87 rfl rfl rfl ⟨_, rfl, hs, h⟩
        · refine z_rload_n dX12_clauseKind_56 rfl 0 rfl ?_
          refine z_ldcSw dX12_clauseKind_57 st_X12_403 ?_
          refine z_VB (i_M_isWord (Nat.le_of_ble_eq_true rfl) hs h) vk_X12_isWord kt_113 (Nat.le_of_ble_eq_true rfl) rfl ml_X12_329 ⟨Nat.le_of_ble_eq_true rfl, Nat.le_of_ble_eq_true rfl⟩ ⟨Nat.zero_le _, Nat.zero_le _⟩ rfl rfl (Nat.le_of_ble_eq_true rfl) dX12_clauseKind_60 (fun r60 μ_5 hs h => ?_)
          refine z_ifeq_b (tgt := 71) dX12_clauseKind_63 (by decide) h (fun h => ?_) (fun h => ?_)
          · refine z_bipush dX12_clauseKind_66 (by decide) ?_
            refine z_goto (tgt := 87) dX12_clauseKind_68 (by decide) ?_
            exact z_iret rfl dX12_clauseKind_87 rfl rfl rfl ⟨_, rfl, hs, h⟩
          · refine z_rload_n dX12_clauseKind_71 rfl 0 rfl ?_
            refine z_ldcSw dX12_clauseKind_72 st_X12_405 ?_
            refine z_VB (i_M_isWord (Nat.le_of_ble_eq_true rfl) hs h) vk_X12_isWord kt_113 (Nat.le_of_ble_eq_true rfl) rfl ml_X12_329 ⟨Nat.le_of_ble_eq_true rfl, Nat.le_of_ble_eq_true rfl⟩ ⟨Nat.zero_le _, Nat.zero_le _⟩ rfl rfl (Nat.le_of_ble_eq_true rfl) dX12_clauseKind_75 (fun r75 μ_6 hs h => ?_)
            refine z_phi 87 [] (fun V9 hv J9 => ?_) h (fun x87 h => ?_)
            · refine z_ifeq_b (tgt := 86) dX12_clauseKind_78 (by decide) (eq_ite hv) (fun hv => ?_) (fun hv => ?_)
              · refine z_bipush dX12_clauseKind_81 (by decide) ?_
                refine z_goto (tgt := 87) dX12_clauseKind_83 (by decide) ?_
                exact J9 _ hv.symm
              · refine z_iconst dX12_clauseKind_86 ?_
                exact J9 _ hv.symm
            · exact z_iret rfl dX12_clauseKind_87 rfl rfl rfl ⟨_, rfl, hs, h⟩
