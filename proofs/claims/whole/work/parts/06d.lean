abbrev Y_OrdR_readClause : Yt := (4, (some .boolean), yX5_readClause.name, { frames := 611, cells := 0, slots := 0, locals := 3924 }, 175, 0, 0)
def b_OrdR_readClause_105 (k : Bool → Mem → Prop) (s0 : Bool) (μ_9 : Mem) : Prop := ∃ r107_1 : Nat, rR μ_9 9065 0 = some r107_1 ∧ isRu r107_1 = true ∧ f_Rules_endPart r107_1 (rI μ_9 9066 0) μ_9 (fun μ_10 => if s0 = true then (f_Tape_skipSign 59 μ_10 (fun r236_1 μ_11 => ∀ x247_1 : Bool, x247_1 = (if r236_1 = true then true else false) → k x247_1 μ_11)) else (k false μ_10))
def b_OrdR_readClause_104 (k : Bool → Mem → Prop) (μ_8 : Mem) : Prop := b_OrdR_readClause_105 k false μ_8
def f_OrdR_readClause (a1 : Int) (μ : Mem) (k : Bool → Mem → Prop) : Prop := f_OrdR_clauseAtHand  μ (fun r1 μ_1 => if w r1 = w (-1) then (f_Tape_fail 1 μ_1 (fun r15 μ_2 => k r15 μ_2)) else (if w a1 < w 15 then (f_Tape_next  μ_1 (fun μ_3 => if w r1 = 0 then (f_OrdR_beginCondition r1 μ_3 (fun r86 μ_4 => if r86 = true then (R_O 60 0 0 μ_4 (fun r94 μ_5 => ∀ x105 : Bool, x105 = (if r94 = true then true else false) → ∃ r107 : Nat, rR μ_5 9065 0 = some r107 ∧ isRu r107 = true ∧ f_Rules_endPart r107 (rI μ_5 9066 0) μ_5 (fun μ_6 => if x105 = true then (f_Tape_skipSign 59 μ_6 (fun r236 μ_7 => ∀ x247 : Bool, x247 = (if r236 = true then true else false) → k x247 μ_7)) else (k false μ_6)))) else (b_OrdR_readClause_104 k μ_4))) else (if w r1 = 1 then (f_OrdR_beginPart 3 μ_3 (fun μ_12 => R_O 60 4 0 μ_12 (fun r127 μ_13 => ∃ r132 : Nat, rR μ_13 9065 0 = some r132 ∧ isRu r132 = true ∧ f_Rules_endPart r132 (rI μ_13 9066 0) μ_13 (fun μ_14 => if r127 = true then (f_Tape_skipSign 59 μ_14 (fun r236_2 μ_15 => ∀ x247_2 : Bool, x247_2 = (if r236_2 = true then true else false) → k x247_2 μ_15)) else (k false μ_14))))) else (if w r1 = 2 then (∃ r146 : Nat, rR μ_3 9065 0 = some r146 ∧ isRu r146 = true ∧ f_Tape_takeN 999 0 μ_3 (fun r157 μ_16 => ∀ μ_17 : Mem, μ_17 = sI μ_16 (gid r146 4) 0 r157 → ∃ r164 : Nat, rR μ_17 9065 0 = some r164 ∧ isRu r164 = true ∧ ∀ x178 : Bool, x178 = (if 0 < w (rI μ_17 (gid r164 4) 0) then true else false) → if x178 = true then (f_Tape_skipSign 59 μ_17 (fun r236_3 μ_18 => ∀ x247_3 : Bool, x247_3 = (if r236_3 = true then true else false) → k x247_3 μ_18)) else (k false μ_17))) else (if w r1 = 3 then (∃ r183 : Nat, rR μ_3 9065 0 = some r183 ∧ isRu r183 = true ∧ f_Tape_takeN 12 0 μ_3 (fun r193 μ_19 => ∀ μ_20 : Mem, μ_20 = sI μ_19 (gid r183 5) 0 r193 → ∃ r200 : Nat, rR μ_20 9065 0 = some r200 ∧ isRu r200 = true ∧ ∀ x214 : Bool, x214 = (if 0 < w (rI μ_20 (gid r200 5) 0) then true else false) → if x214 = true then (f_Tape_skipSign 59 μ_20 (fun r236_4 μ_21 => ∀ x247_4 : Bool, x247_4 = (if r236_4 = true then true else false) → k x247_4 μ_21)) else (k false μ_20))) else (if w r1 = 4 then (∃ r219 : Nat, rR μ_3 9065 0 = some r219 ∧ isRu r219 = true ∧ ∀ μ_22 : Mem, μ_22 = sB μ_3 (gid r219 6) 0 true → if w 1 = 0 then (k false μ_22) else (f_Tape_skipSign 59 μ_22 (fun r236_5 μ_23 => ∀ x247_5 : Bool, x247_5 = (if r236_5 = true then true else false) → k x247_5 μ_23))) else (if w r1 = 5 then (f_OrdR_beginCondition r1 μ_3 (fun r86_1 μ_24 => if r86_1 = true then (R_O 60 0 0 μ_24 (fun r94_1 μ_25 => ∀ x105_1 : Bool, x105_1 = (if r94_1 = true then true else false) → ∃ r107_2 : Nat, rR μ_25 9065 0 = some r107_2 ∧ isRu r107_2 = true ∧ f_Rules_endPart r107_2 (rI μ_25 9066 0) μ_25 (fun μ_26 => if x105_1 = true then (f_Tape_skipSign 59 μ_26 (fun r236_6 μ_27 => ∀ x247_6 : Bool, x247_6 = (if r236_6 = true then true else false) → k x247_6 μ_27)) else (k false μ_26)))) else (b_OrdR_readClause_104 k μ_24))) else (∃ r219_1 : Nat, rR μ_3 9065 0 = some r219_1 ∧ isRu r219_1 = true ∧ ∀ μ_28 : Mem, μ_28 = sB μ_3 (gid r219_1 6) 0 true → if w 1 = 0 then (k false μ_28) else (f_Tape_skipSign 59 μ_28 (fun r236_7 μ_29 => ∀ x247_7 : Bool, x247_7 = (if r236_7 = true then true else false) → k x247_7 μ_29)))))))))) else (f_Tape_fail 4 μ_1 (fun r30 μ_30 => k r30 μ_30))))
theorem B_OrdR_readClause_105 {l : Launch} {Γ : Gam} {g : Nat} {k : Bool → Mem → Prop} {s0 : Bool} {μ_9 : Mem} (hs : StatR μ_9.2.2) (h : b_OrdR_readClause_105 k s0 μ_9) : SW l Γ yX5_readClause.cls cX5_readClause Y_OrdR_readClause (pB k) g 175 0 0 μ_9 105 [(0, vr Γ 63)] [vi (b2i s0)] := by
  unfold b_OrdR_readClause_105 at h
  refine z_istore_n (lv' := [(3, vi (b2i s0)), (0, vr Γ 63)]) dX5_readClause_105 rfl (Nat.le_of_ble_eq_true rfl) rfl ?_
  refine z_rload_n dX5_readClause_106 rfl 1 rfl ?_
  obtain ⟨r107_1, h9, hr_r107_1, h⟩ := h
  refine z_getR (q := 9065) ff_5_1 dX5_readClause_107 kt_63 (Nat.le_of_ble_eq_true rfl) fl_X5_15 rfl h9 ?_
  refine z_rload_n dX5_readClause_110 rfl 1 rfl ?_
  refine z_getI (q := 9066) ff_5_2 dX5_readClause_111 kt_63 (Nat.le_of_ble_eq_true rfl) fl_X5_53 rfl ?_
  refine z_VU (i_Rules_endPart hr_r107_1 hs h) vk_X8_endPart (ru_k hr_r107_1) (ru_l hr_r107_1) rfl ml_X5_57 ⟨Nat.le_of_ble_eq_true rfl, Nat.le_of_ble_eq_true rfl⟩ ⟨Nat.zero_le _, Nat.zero_le _⟩ rfl rfl (Nat.le_of_ble_eq_true rfl) dX5_readClause_114 (fun μ_10 hs h => ?_)
  refine z_goto (tgt := 226) dX5_readClause_117 (by decide) ?_
  refine z_iload_n dX5_readClause_226 rfl 0 rfl ?_
  refine z_ifeq_b (tgt := 246) dX5_readClause_227 (by decide) h (fun h => ?_) (fun h => ?_)
  · refine z_rload_n dX5_readClause_230 rfl 1 rfl ?_
    refine z_getR (q := 9064) ff_5_0 dX5_readClause_231 kt_63 (Nat.le_of_ble_eq_true rfl) fl_X5_9 rfl (hs.1 _ _ sr_9064) ?_
    refine z_bipush dX5_readClause_234 (by decide) ?_
    refine z_VB (i_Tape_skipSign  hs h) vk_X9_skipSign kt_10 (Nat.le_of_ble_eq_true rfl) rfl ml_X5_81 ⟨Nat.le_of_ble_eq_true rfl, Nat.le_of_ble_eq_true rfl⟩ ⟨Nat.zero_le _, Nat.zero_le _⟩ rfl rfl (Nat.le_of_ble_eq_true rfl) dX5_readClause_236 (fun r236_1 μ_11 hs h => ?_)
    refine z_phiB 247 [] (fun V9 hv J9 => ?_) h (fun x247_1 h => ?_)
    · refine z_ifeq_b (tgt := 246) dX5_readClause_239 (by decide) (eq_ite hv) (fun hv => ?_) (fun hv => ?_)
      · refine z_iconst dX5_readClause_242 ?_
        refine z_goto (tgt := 247) dX5_readClause_243 (by decide) ?_
        exact J9 true hv.symm
      · refine z_iconst dX5_readClause_246 ?_
        exact J9 false hv.symm
    · exact z_zret (b := x247_1) rfl dX5_readClause_247 rfl rfl rfl ⟨_, rfl, hs, h⟩
  · refine z_iconst dX5_readClause_246 ?_
    exact z_zret (b := false) rfl dX5_readClause_247 rfl rfl rfl ⟨_, rfl, hs, h⟩
theorem B_OrdR_readClause_104 {l : Launch} {Γ : Gam} {g : Nat} {k : Bool → Mem → Prop} {μ_8 : Mem} (hs : StatR μ_8.2.2) (h : b_OrdR_readClause_104 k μ_8) : SW l Γ yX5_readClause.cls cX5_readClause Y_OrdR_readClause (pB k) g 175 0 0 μ_8 104 [(0, vr Γ 63)] [] := by
  unfold b_OrdR_readClause_104 at h
  refine z_iconst dX5_readClause_104 ?_
  refine z_sub (lv' := [(0, vr Γ 63)]) [0] rfl ?_
  exact B_OrdR_readClause_105 hs h
theorem i_OrdR_readClause {l : Launch} {Γ : Gam} {g : Nat} {a1 : Int} {μ : Mem} {k : Bool → Mem → Prop} (hs : StatR μ.2.2) (h : f_OrdR_readClause a1 μ k) : CT l Γ yX5_readClause cX5_readClause 4 (some .boolean) 611 3924 0 0 [vr Γ 63, vi a1] g 175 μ (pB k) := by
  refine SW.ct (by decide) (Nat.le_of_ble_eq_true rfl) ?_
  refine z_sub (lv' := [(0, vr Γ 63), (1, vi a1)]) [0, 1] rfl ?_
  show SW l Γ yX5_readClause.cls cX5_readClause Y_OrdR_readClause (pB k) g 175 0 0 μ 0 [(0, vr Γ 63), (1, vi a1)] []
  unfold f_OrdR_readClause at h
  refine z_rload_n dX5_readClause_0 rfl 0 rfl ?_
  refine z_VI (i_OrdR_clauseAtHand  hs h) vk_X5_clauseAtHand kt_63 (Nat.le_of_ble_eq_true rfl) rfl ml_X5_37 ⟨Nat.le_of_ble_eq_true rfl, Nat.le_of_ble_eq_true rfl⟩ ⟨Nat.zero_le _, Nat.zero_le _⟩ rfl rfl (Nat.le_of_ble_eq_true rfl) dX5_readClause_1 (fun r1 μ_1 hs h => ?_)
  refine z_istore_n (lv' := [(2, vi r1), (0, vr Γ 63), (1, vi a1)]) dX5_readClause_4 rfl (Nat.le_of_ble_eq_true rfl) rfl ?_
  refine z_iload_n dX5_readClause_5 rfl 0 rfl ?_
  refine z_iconst dX5_readClause_6 ?_
  refine z_icmp_ne (tgt := 19) dX5_readClause_7 (by decide) h (fun h => ?_) (fun h => ?_)
  · refine z_rload_n dX5_readClause_10 rfl 1 rfl ?_
    refine z_getR (q := 9064) ff_5_0 dX5_readClause_11 kt_63 (Nat.le_of_ble_eq_true rfl) fl_X5_9 rfl (hs.1 _ _ sr_9064) ?_
    refine z_iconst dX5_readClause_14 ?_
    refine z_VB (i_Tape_fail  hs h) vk_X9_fail kt_10 (Nat.le_of_ble_eq_true rfl) rfl ml_X5_41 ⟨Nat.le_of_ble_eq_true rfl, Nat.le_of_ble_eq_true rfl⟩ ⟨Nat.zero_le _, Nat.zero_le _⟩ rfl rfl (Nat.le_of_ble_eq_true rfl) dX5_readClause_15 (fun r15 μ_2 hs h => ?_)
    exact z_zret (b := r15) rfl dX5_readClause_18 rfl rfl rfl ⟨_, rfl, hs, h⟩
  · refine z_iload_n dX5_readClause_19 rfl 2 rfl ?_
    refine z_bipush dX5_readClause_20 (by decide) ?_
    refine z_icmp_lt (tgt := 34) dX5_readClause_22 (by decide) h (fun h => ?_) (fun h => ?_)
    · refine z_rload_n dX5_readClause_34 rfl 1 rfl ?_
      refine z_getR (q := 9064) ff_5_0 dX5_readClause_35 kt_63 (Nat.le_of_ble_eq_true rfl) fl_X5_9 rfl (hs.1 _ _ sr_9064) ?_
      refine z_VU (i_Tape_next  hs h) vk_X9_next kt_10 (Nat.le_of_ble_eq_true rfl) rfl ml_X5_44 ⟨Nat.le_of_ble_eq_true rfl, Nat.le_of_ble_eq_true rfl⟩ ⟨Nat.zero_le _, Nat.zero_le _⟩ rfl rfl (Nat.le_of_ble_eq_true rfl) dX5_readClause_38 (fun μ_3 hs h => ?_)
      refine z_iconst dX5_readClause_41 ?_
      refine z_istore_n (lv' := [(3, vi 1), (2, vi r1), (0, vr Γ 63), (1, vi a1)]) dX5_readClause_42 rfl (Nat.le_of_ble_eq_true rfl) rfl ?_
      refine z_iload_n dX5_readClause_43 rfl 1 rfl ?_
      by_cases hc0 : w r1 = 0
      · rw [if_pos hc0] at h
        refine z_tcase (tgt := 84) 0 hc0 dX5_readClause_44 (by decide) (by decide) rfl (by decide) ?_
        refine z_rload_n dX5_readClause_84 rfl 2 rfl ?_
        refine z_iload_n dX5_readClause_85 rfl 1 rfl ?_
        refine z_VB (i_OrdR_beginCondition  hs h) vk_X5_beginCondition kt_63 (Nat.le_of_ble_eq_true rfl) rfl ml_X5_47 ⟨Nat.le_of_ble_eq_true rfl, Nat.le_of_ble_eq_true rfl⟩ ⟨Nat.zero_le _, Nat.zero_le _⟩ rfl rfl (Nat.le_of_ble_eq_true rfl) dX5_readClause_86 (fun r86 μ_4 hs h => ?_)
        refine z_ifeq_b (tgt := 104) dX5_readClause_89 (by decide) h (fun h => ?_) (fun h => ?_)
        · refine z_rload_n dX5_readClause_92 rfl 2 rfl ?_
          refine z_iconst dX5_readClause_93 ?_
          refine z_VB ((ok_O 60 _ _ _ hs).1 h) vk_X5_either kt_63 (Nat.le_of_ble_eq_true rfl) rfl ml_X5_50 ⟨Nat.le_of_ble_eq_true rfl, Nat.le_of_ble_eq_true rfl⟩ ⟨Nat.zero_le _, Nat.zero_le _⟩ rfl rfl (Nat.le_of_ble_eq_true rfl) dX5_readClause_94 (fun r94 μ_5 hs h => ?_)
          refine z_phiB 105 [] (fun V9 hv J9 => ?_) h (fun x105 h => ?_)
          · refine z_ifeq_b (tgt := 104) dX5_readClause_97 (by decide) (eq_ite hv) (fun hv => ?_) (fun hv => ?_)
            · refine z_iconst dX5_readClause_100 ?_
              refine z_goto (tgt := 105) dX5_readClause_101 (by decide) ?_
              exact J9 true hv.symm
            · refine z_iconst dX5_readClause_104 ?_
              exact J9 false hv.symm
          · refine z_istore_n (lv' := [(3, vi (b2i x105)), (2, vi r1), (0, vr Γ 63), (1, vi a1)]) dX5_readClause_105 rfl (Nat.le_of_ble_eq_true rfl) rfl ?_
            refine z_rload_n dX5_readClause_106 rfl 2 rfl ?_
            obtain ⟨r107, h9, hr_r107, h⟩ := h
            refine z_getR (q := 9065) ff_5_1 dX5_readClause_107 kt_63 (Nat.le_of_ble_eq_true rfl) fl_X5_15 rfl h9 ?_
            refine z_rload_n dX5_readClause_110 rfl 2 rfl ?_
            refine z_getI (q := 9066) ff_5_2 dX5_readClause_111 kt_63 (Nat.le_of_ble_eq_true rfl) fl_X5_53 rfl ?_
            refine z_VU (i_Rules_endPart hr_r107 hs h) vk_X8_endPart (ru_k hr_r107) (ru_l hr_r107) rfl ml_X5_57 ⟨Nat.le_of_ble_eq_true rfl, Nat.le_of_ble_eq_true rfl⟩ ⟨Nat.zero_le _, Nat.zero_le _⟩ rfl rfl (Nat.le_of_ble_eq_true rfl) dX5_readClause_114 (fun μ_6 hs h => ?_)
            refine z_goto (tgt := 226) dX5_readClause_117 (by decide) ?_
            refine z_iload_n dX5_readClause_226 rfl 0 rfl ?_
            refine z_ifeq_b (tgt := 246) dX5_readClause_227 (by decide) h (fun h => ?_) (fun h => ?_)
            · refine z_rload_n dX5_readClause_230 rfl 2 rfl ?_
              refine z_getR (q := 9064) ff_5_0 dX5_readClause_231 kt_63 (Nat.le_of_ble_eq_true rfl) fl_X5_9 rfl (hs.1 _ _ sr_9064) ?_
              refine z_bipush dX5_readClause_234 (by decide) ?_
              refine z_VB (i_Tape_skipSign  hs h) vk_X9_skipSign kt_10 (Nat.le_of_ble_eq_true rfl) rfl ml_X5_81 ⟨Nat.le_of_ble_eq_true rfl, Nat.le_of_ble_eq_true rfl⟩ ⟨Nat.zero_le _, Nat.zero_le _⟩ rfl rfl (Nat.le_of_ble_eq_true rfl) dX5_readClause_236 (fun r236 μ_7 hs h => ?_)
              refine z_phiB 247 [] (fun V9 hv J9 => ?_) h (fun x247 h => ?_)
              · refine z_ifeq_b (tgt := 246) dX5_readClause_239 (by decide) (eq_ite hv) (fun hv => ?_) (fun hv => ?_)
                · refine z_iconst dX5_readClause_242 ?_
                  refine z_goto (tgt := 247) dX5_readClause_243 (by decide) ?_
                  exact J9 true hv.symm
                · refine z_iconst dX5_readClause_246 ?_
                  exact J9 false hv.symm
              · exact z_zret (b := x247) rfl dX5_readClause_247 rfl rfl rfl ⟨_, rfl, hs, h⟩
            · refine z_iconst dX5_readClause_246 ?_
              exact z_zret (b := false) rfl dX5_readClause_247 rfl rfl rfl ⟨_, rfl, hs, h⟩
        · refine z_sub (lv' := [(0, vr Γ 63)]) [2] rfl ?_
          exact B_OrdR_readClause_104 hs h
      · rw [if_neg hc0] at h
        by_cases hc1 : w r1 = 1
        · rw [if_pos hc1] at h
          refine z_tcase (tgt := 120) 1 hc1 dX5_readClause_44 (by decide) (by decide) rfl (by decide) ?_
          refine z_rload_n dX5_readClause_120 rfl 2 rfl ?_
          refine z_iconst dX5_readClause_121 ?_
          refine z_VU (i_OrdR_beginPart  hs h) vk_X5_beginPart kt_63 (Nat.le_of_ble_eq_true rfl) rfl ml_X5_61 ⟨Nat.le_of_ble_eq_true rfl, Nat.le_of_ble_eq_true rfl⟩ ⟨Nat.zero_le _, Nat.zero_le _⟩ rfl rfl (Nat.le_of_ble_eq_true rfl) dX5_readClause_122 (fun μ_12 hs h => ?_)
          refine z_rload_n dX5_readClause_125 rfl 2 rfl ?_
          refine z_iconst dX5_readClause_126 ?_
          refine z_VB ((ok_O 60 _ _ _ hs).2.2.2.2.1 h) vk_X5_sum kt_63 (Nat.le_of_ble_eq_true rfl) rfl ml_X5_64 ⟨Nat.le_of_ble_eq_true rfl, Nat.le_of_ble_eq_true rfl⟩ ⟨Nat.zero_le _, Nat.zero_le _⟩ rfl rfl (Nat.le_of_ble_eq_true rfl) dX5_readClause_127 (fun r127 μ_13 hs h => ?_)
          refine z_istore_n (lv' := [(3, vi (b2i r127)), (2, vi r1), (0, vr Γ 63), (1, vi a1)]) dX5_readClause_130 rfl (Nat.le_of_ble_eq_true rfl) rfl ?_
          refine z_rload_n dX5_readClause_131 rfl 2 rfl ?_
          obtain ⟨r132, h9, hr_r132, h⟩ := h
          refine z_getR (q := 9065) ff_5_1 dX5_readClause_132 kt_63 (Nat.le_of_ble_eq_true rfl) fl_X5_15 rfl h9 ?_
          refine z_rload_n dX5_readClause_135 rfl 2 rfl ?_
          refine z_getI (q := 9066) ff_5_2 dX5_readClause_136 kt_63 (Nat.le_of_ble_eq_true rfl) fl_X5_53 rfl ?_
          refine z_VU (i_Rules_endPart hr_r132 hs h) vk_X8_endPart (ru_k hr_r132) (ru_l hr_r132) rfl ml_X5_57 ⟨Nat.le_of_ble_eq_true rfl, Nat.le_of_ble_eq_true rfl⟩ ⟨Nat.zero_le _, Nat.zero_le _⟩ rfl rfl (Nat.le_of_ble_eq_true rfl) dX5_readClause_139 (fun μ_14 hs h => ?_)
          refine z_goto (tgt := 226) dX5_readClause_142 (by decide) ?_
          refine z_iload_n dX5_readClause_226 rfl 0 rfl ?_
          refine z_ifeq_b (tgt := 246) dX5_readClause_227 (by decide) h (fun h => ?_) (fun h => ?_)
          · refine z_rload_n dX5_readClause_230 rfl 2 rfl ?_
            refine z_getR (q := 9064) ff_5_0 dX5_readClause_231 kt_63 (Nat.le_of_ble_eq_true rfl) fl_X5_9 rfl (hs.1 _ _ sr_9064) ?_
            refine z_bipush dX5_readClause_234 (by decide) ?_
            refine z_VB (i_Tape_skipSign  hs h) vk_X9_skipSign kt_10 (Nat.le_of_ble_eq_true rfl) rfl ml_X5_81 ⟨Nat.le_of_ble_eq_true rfl, Nat.le_of_ble_eq_true rfl⟩ ⟨Nat.zero_le _, Nat.zero_le _⟩ rfl rfl (Nat.le_of_ble_eq_true rfl) dX5_readClause_236 (fun r236_2 μ_15 hs h => ?_)
            refine z_phiB 247 [] (fun V9 hv J9 => ?_) h (fun x247_2 h => ?_)
            · refine z_ifeq_b (tgt := 246) dX5_readClause_239 (by decide) (eq_ite hv) (fun hv => ?_) (fun hv => ?_)
              · refine z_iconst dX5_readClause_242 ?_
                refine z_goto (tgt := 247) dX5_readClause_243 (by decide) ?_
                exact J9 true hv.symm
              · refine z_iconst dX5_readClause_246 ?_
                exact J9 false hv.symm
            · exact z_zret (b := x247_2) rfl dX5_readClause_247 rfl rfl rfl ⟨_, rfl, hs, h⟩
          · refine z_iconst dX5_readClause_246 ?_
            exact z_zret (b := false) rfl dX5_readClause_247 rfl rfl rfl ⟨_, rfl, hs, h⟩
        · rw [if_neg hc1] at h
          by_cases hc2 : w r1 = 2
          · rw [if_pos hc2] at h
            refine z_tcase (tgt := 145) 2 hc2 dX5_readClause_44 (by decide) (by decide) rfl (by decide) ?_
            refine z_rload_n dX5_readClause_145 rfl 2 rfl ?_
            obtain ⟨r146, h9, hr_r146, h⟩ := h
            refine z_getR (q := 9065) ff_5_1 dX5_readClause_146 kt_63 (Nat.le_of_ble_eq_true rfl) fl_X5_15 rfl h9 ?_
            refine z_rload_n dX5_readClause_149 rfl 2 rfl ?_
            refine z_getR (q := 9064) ff_5_0 dX5_readClause_150 kt_63 (Nat.le_of_ble_eq_true rfl) fl_X5_9 rfl (hs.1 _ _ sr_9064) ?_
            refine z_sipush dX5_readClause_153 (by decide) ?_
            refine z_lconst (v := 0) dX5_readClause_156 rfl ?_
            refine z_VI (i_Tape_takeN  hs h) vk_X9_takeN kt_10 (Nat.le_of_ble_eq_true rfl) rfl ml_X5_67 ⟨Nat.le_of_ble_eq_true rfl, Nat.le_of_ble_eq_true rfl⟩ ⟨Nat.zero_le _, Nat.zero_le _⟩ rfl rfl (Nat.le_of_ble_eq_true rfl) dX5_readClause_157 (fun r157 μ_16 hs h => ?_)
            refine z_putI (q := (gid r146 4)) ff_8_4 (Or.inl rfl) rfl dX5_readClause_160 (ru_k hr_r146) (ru_l hr_r146) fl_X5_71 rfl ?_
            refine z_mm (fun μ_17 eμ_17 => ?_)
            replace h := h μ_17 eμ_17
            replace hs : StatR μ_17.2.2 := by rw [eμ_17]; exact hs
            refine z_rload_n dX5_readClause_163 rfl 2 rfl ?_
            obtain ⟨r164, h9, hr_r164, h⟩ := h
            refine z_getR (q := 9065) ff_5_1 dX5_readClause_164 kt_63 (Nat.le_of_ble_eq_true rfl) fl_X5_15 rfl h9 ?_
            refine z_getI (q := (gid r164 4)) ff_8_4 dX5_readClause_167 (ru_k hr_r164) (ru_l hr_r164) fl_X5_71 rfl ?_
            refine z_phiB 178 [] (fun V9 hv J9 => ?_) h (fun x178 h => ?_)
            · refine z_if_le (tgt := 177) dX5_readClause_170 (by decide) (eq_ite hv) (fun hv => ?_) (fun hv => ?_)
              · refine z_iconst dX5_readClause_173 ?_
                refine z_goto (tgt := 178) dX5_readClause_174 (by decide) ?_
                exact J9 true hv.symm
              · refine z_iconst dX5_readClause_177 ?_
                exact J9 false hv.symm
            · refine z_istore_n (lv' := [(3, vi (b2i x178)), (2, vi r1), (0, vr Γ 63), (1, vi a1)]) dX5_readClause_178 rfl (Nat.le_of_ble_eq_true rfl) rfl ?_
              refine z_goto (tgt := 226) dX5_readClause_179 (by decide) ?_
              refine z_iload_n dX5_readClause_226 rfl 0 rfl ?_
              refine z_ifeq_b (tgt := 246) dX5_readClause_227 (by decide) h (fun h => ?_) (fun h => ?_)
              · refine z_rload_n dX5_readClause_230 rfl 2 rfl ?_
                refine z_getR (q := 9064) ff_5_0 dX5_readClause_231 kt_63 (Nat.le_of_ble_eq_true rfl) fl_X5_9 rfl (hs.1 _ _ sr_9064) ?_
                refine z_bipush dX5_readClause_234 (by decide) ?_
                refine z_VB (i_Tape_skipSign  hs h) vk_X9_skipSign kt_10 (Nat.le_of_ble_eq_true rfl) rfl ml_X5_81 ⟨Nat.le_of_ble_eq_true rfl, Nat.le_of_ble_eq_true rfl⟩ ⟨Nat.zero_le _, Nat.zero_le _⟩ rfl rfl (Nat.le_of_ble_eq_true rfl) dX5_readClause_236 (fun r236_3 μ_18 hs h => ?_)
                refine z_phiB 247 [] (fun V9 hv J9 => ?_) h (fun x247_3 h => ?_)
                · refine z_ifeq_b (tgt := 246) dX5_readClause_239 (by decide) (eq_ite hv) (fun hv => ?_) (fun hv => ?_)
                  · refine z_iconst dX5_readClause_242 ?_
                    refine z_goto (tgt := 247) dX5_readClause_243 (by decide) ?_
                    exact J9 true hv.symm
                  · refine z_iconst dX5_readClause_246 ?_
                    exact J9 false hv.symm
                · exact z_zret (b := x247_3) rfl dX5_readClause_247 rfl rfl rfl ⟨_, rfl, hs, h⟩
              · refine z_iconst dX5_readClause_246 ?_
                exact z_zret (b := false) rfl dX5_readClause_247 rfl rfl rfl ⟨_, rfl, hs, h⟩
          · rw [if_neg hc2] at h
            by_cases hc3 : w r1 = 3
            · rw [if_pos hc3] at h
              refine z_tcase (tgt := 182) 3 hc3 dX5_readClause_44 (by decide) (by decide) rfl (by decide) ?_
              refine z_rload_n dX5_readClause_182 rfl 2 rfl ?_
              obtain ⟨r183, h9, hr_r183, h⟩ := h
              refine z_getR (q := 9065) ff_5_1 dX5_readClause_183 kt_63 (Nat.le_of_ble_eq_true rfl) fl_X5_15 rfl h9 ?_
              refine z_rload_n dX5_readClause_186 rfl 2 rfl ?_
              refine z_getR (q := 9064) ff_5_0 dX5_readClause_187 kt_63 (Nat.le_of_ble_eq_true rfl) fl_X5_9 rfl (hs.1 _ _ sr_9064) ?_
              refine z_bipush dX5_readClause_190 (by decide) ?_
              refine z_lconst (v := 0) dX5_readClause_192 rfl ?_
              refine z_VI (i_Tape_takeN  hs h) vk_X9_takeN kt_10 (Nat.le_of_ble_eq_true rfl) rfl ml_X5_67 ⟨Nat.le_of_ble_eq_true rfl, Nat.le_of_ble_eq_true rfl⟩ ⟨Nat.zero_le _, Nat.zero_le _⟩ rfl rfl (Nat.le_of_ble_eq_true rfl) dX5_readClause_193 (fun r193 μ_19 hs h => ?_)
              refine z_putI (q := (gid r183 5)) ff_8_5 (Or.inl rfl) rfl dX5_readClause_196 (ru_k hr_r183) (ru_l hr_r183) fl_X5_74 rfl ?_
              refine z_mm (fun μ_20 eμ_20 => ?_)
              replace h := h μ_20 eμ_20
              replace hs : StatR μ_20.2.2 := by rw [eμ_20]; exact hs
              refine z_rload_n dX5_readClause_199 rfl 2 rfl ?_
              obtain ⟨r200, h9, hr_r200, h⟩ := h
              refine z_getR (q := 9065) ff_5_1 dX5_readClause_200 kt_63 (Nat.le_of_ble_eq_true rfl) fl_X5_15 rfl h9 ?_
              refine z_getI (q := (gid r200 5)) ff_8_5 dX5_readClause_203 (ru_k hr_r200) (ru_l hr_r200) fl_X5_74 rfl ?_
              refine z_phiB 214 [] (fun V9 hv J9 => ?_) h (fun x214 h => ?_)
              · refine z_if_le (tgt := 213) dX5_readClause_206 (by decide) (eq_ite hv) (fun hv => ?_) (fun hv => ?_)
                · refine z_iconst dX5_readClause_209 ?_
                  refine z_goto (tgt := 214) dX5_readClause_210 (by decide) ?_
                  exact J9 true hv.symm
                · refine z_iconst dX5_readClause_213 ?_
                  exact J9 false hv.symm
              · refine z_istore_n (lv' := [(3, vi (b2i x214)), (2, vi r1), (0, vr Γ 63), (1, vi a1)]) dX5_readClause_214 rfl (Nat.le_of_ble_eq_true rfl) rfl ?_
                refine z_goto (tgt := 226) dX5_readClause_215 (by decide) ?_
                refine z_iload_n dX5_readClause_226 rfl 0 rfl ?_
                refine z_ifeq_b (tgt := 246) dX5_readClause_227 (by decide) h (fun h => ?_) (fun h => ?_)
                · refine z_rload_n dX5_readClause_230 rfl 2 rfl ?_
                  refine z_getR (q := 9064) ff_5_0 dX5_readClause_231 kt_63 (Nat.le_of_ble_eq_true rfl) fl_X5_9 rfl (hs.1 _ _ sr_9064) ?_
                  refine z_bipush dX5_readClause_234 (by decide) ?_
                  refine z_VB (i_Tape_skipSign  hs h) vk_X9_skipSign kt_10 (Nat.le_of_ble_eq_true rfl) rfl ml_X5_81 ⟨Nat.le_of_ble_eq_true rfl, Nat.le_of_ble_eq_true rfl⟩ ⟨Nat.zero_le _, Nat.zero_le _⟩ rfl rfl (Nat.le_of_ble_eq_true rfl) dX5_readClause_236 (fun r236_4 μ_21 hs h => ?_)
                  refine z_phiB 247 [] (fun V9 hv J9 => ?_) h (fun x247_4 h => ?_)
                  · refine z_ifeq_b (tgt := 246) dX5_readClause_239 (by decide) (eq_ite hv) (fun hv => ?_) (fun hv => ?_)
                    · refine z_iconst dX5_readClause_242 ?_
                      refine z_goto (tgt := 247) dX5_readClause_243 (by decide) ?_
                      exact J9 true hv.symm
                    · refine z_iconst dX5_readClause_246 ?_
                      exact J9 false hv.symm
                  · exact z_zret (b := x247_4) rfl dX5_readClause_247 rfl rfl rfl ⟨_, rfl, hs, h⟩
                · refine z_iconst dX5_readClause_246 ?_
                  exact z_zret (b := false) rfl dX5_readClause_247 rfl rfl rfl ⟨_, rfl, hs, h⟩
            · rw [if_neg hc3] at h
              by_cases hc4 : w r1 = 4
              · rw [if_pos hc4] at h
                refine z_tcase (tgt := 218) 4 hc4 dX5_readClause_44 (by decide) (by decide) rfl (by decide) ?_
                refine z_rload_n dX5_readClause_218 rfl 2 rfl ?_
                obtain ⟨r219, h9, hr_r219, h⟩ := h
                refine z_getR (q := 9065) ff_5_1 dX5_readClause_219 kt_63 (Nat.le_of_ble_eq_true rfl) fl_X5_15 rfl h9 ?_
                refine z_iconst dX5_readClause_222 ?_
                refine z_putZ (b := true) (q := (gid r219 6)) ff_8_6 (Or.inl rfl) rfl dX5_readClause_223 (ru_k hr_r219) (ru_l hr_r219) fl_X5_77 rfl ?_
                refine z_mm (fun μ_22 eμ_22 => ?_)
                replace h := h μ_22 eμ_22
                replace hs : StatR μ_22.2.2 := by rw [eμ_22]; exact hs
                refine z_iload_n dX5_readClause_226 rfl 0 rfl ?_
                refine z_if_eq (tgt := 246) dX5_readClause_227 (by decide) h (fun h => ?_) (fun h => ?_)
                · refine z_iconst dX5_readClause_246 ?_
                  exact z_zret (b := false) rfl dX5_readClause_247 rfl rfl rfl ⟨_, rfl, hs, h⟩
                · refine z_rload_n dX5_readClause_230 rfl 2 rfl ?_
                  refine z_getR (q := 9064) ff_5_0 dX5_readClause_231 kt_63 (Nat.le_of_ble_eq_true rfl) fl_X5_9 rfl (hs.1 _ _ sr_9064) ?_
                  refine z_bipush dX5_readClause_234 (by decide) ?_
                  refine z_VB (i_Tape_skipSign  hs h) vk_X9_skipSign kt_10 (Nat.le_of_ble_eq_true rfl) rfl ml_X5_81 ⟨Nat.le_of_ble_eq_true rfl, Nat.le_of_ble_eq_true rfl⟩ ⟨Nat.zero_le _, Nat.zero_le _⟩ rfl rfl (Nat.le_of_ble_eq_true rfl) dX5_readClause_236 (fun r236_5 μ_23 hs h => ?_)
                  refine z_phiB 247 [] (fun V9 hv J9 => ?_) h (fun x247_5 h => ?_)
                  · refine z_ifeq_b (tgt := 246) dX5_readClause_239 (by decide) (eq_ite hv) (fun hv => ?_) (fun hv => ?_)
                    · refine z_iconst dX5_readClause_242 ?_
                      refine z_goto (tgt := 247) dX5_readClause_243 (by decide) ?_
                      exact J9 true hv.symm
                    · refine z_iconst dX5_readClause_246 ?_
                      exact J9 false hv.symm
                  · exact z_zret (b := x247_5) rfl dX5_readClause_247 rfl rfl rfl ⟨_, rfl, hs, h⟩
              · rw [if_neg hc4] at h
                by_cases hc5 : w r1 = 5
                · rw [if_pos hc5] at h
                  refine z_tcase (tgt := 84) 5 hc5 dX5_readClause_44 (by decide) (by decide) rfl (by decide) ?_
                  refine z_rload_n dX5_readClause_84 rfl 2 rfl ?_
                  refine z_iload_n dX5_readClause_85 rfl 1 rfl ?_
                  refine z_VB (i_OrdR_beginCondition  hs h) vk_X5_beginCondition kt_63 (Nat.le_of_ble_eq_true rfl) rfl ml_X5_47 ⟨Nat.le_of_ble_eq_true rfl, Nat.le_of_ble_eq_true rfl⟩ ⟨Nat.zero_le _, Nat.zero_le _⟩ rfl rfl (Nat.le_of_ble_eq_true rfl) dX5_readClause_86 (fun r86_1 μ_24 hs h => ?_)
                  refine z_ifeq_b (tgt := 104) dX5_readClause_89 (by decide) h (fun h => ?_) (fun h => ?_)
                  · refine z_rload_n dX5_readClause_92 rfl 2 rfl ?_
                    refine z_iconst dX5_readClause_93 ?_
                    refine z_VB ((ok_O 60 _ _ _ hs).1 h) vk_X5_either kt_63 (Nat.le_of_ble_eq_true rfl) rfl ml_X5_50 ⟨Nat.le_of_ble_eq_true rfl, Nat.le_of_ble_eq_true rfl⟩ ⟨Nat.zero_le _, Nat.zero_le _⟩ rfl rfl (Nat.le_of_ble_eq_true rfl) dX5_readClause_94 (fun r94_1 μ_25 hs h => ?_)
                    refine z_phiB 105 [] (fun V9 hv J9 => ?_) h (fun x105_1 h => ?_)
                    · refine z_ifeq_b (tgt := 104) dX5_readClause_97 (by decide) (eq_ite hv) (fun hv => ?_) (fun hv => ?_)
                      · refine z_iconst dX5_readClause_100 ?_
                        refine z_goto (tgt := 105) dX5_readClause_101 (by decide) ?_
                        exact J9 true hv.symm
                      · refine z_iconst dX5_readClause_104 ?_
                        exact J9 false hv.symm
                    · refine z_istore_n (lv' := [(3, vi (b2i x105_1)), (2, vi r1), (0, vr Γ 63), (1, vi a1)]) dX5_readClause_105 rfl (Nat.le_of_ble_eq_true rfl) rfl ?_
                      refine z_rload_n dX5_readClause_106 rfl 2 rfl ?_
                      obtain ⟨r107_2, h9, hr_r107_2, h⟩ := h
                      refine z_getR (q := 9065) ff_5_1 dX5_readClause_107 kt_63 (Nat.le_of_ble_eq_true rfl) fl_X5_15 rfl h9 ?_
                      refine z_rload_n dX5_readClause_110 rfl 2 rfl ?_
                      refine z_getI (q := 9066) ff_5_2 dX5_readClause_111 kt_63 (Nat.le_of_ble_eq_true rfl) fl_X5_53 rfl ?_
                      refine z_VU (i_Rules_endPart hr_r107_2 hs h) vk_X8_endPart (ru_k hr_r107_2) (ru_l hr_r107_2) rfl ml_X5_57 ⟨Nat.le_of_ble_eq_true rfl, Nat.le_of_ble_eq_true rfl⟩ ⟨Nat.zero_le _, Nat.zero_le _⟩ rfl rfl (Nat.le_of_ble_eq_true rfl) dX5_readClause_114 (fun μ_26 hs h => ?_)
                      refine z_goto (tgt := 226) dX5_readClause_117 (by decide) ?_
                      refine z_iload_n dX5_readClause_226 rfl 0 rfl ?_
                      refine z_ifeq_b (tgt := 246) dX5_readClause_227 (by decide) h (fun h => ?_) (fun h => ?_)
                      · refine z_rload_n dX5_readClause_230 rfl 2 rfl ?_
                        refine z_getR (q := 9064) ff_5_0 dX5_readClause_231 kt_63 (Nat.le_of_ble_eq_true rfl) fl_X5_9 rfl (hs.1 _ _ sr_9064) ?_
                        refine z_bipush dX5_readClause_234 (by decide) ?_
                        refine z_VB (i_Tape_skipSign  hs h) vk_X9_skipSign kt_10 (Nat.le_of_ble_eq_true rfl) rfl ml_X5_81 ⟨Nat.le_of_ble_eq_true rfl, Nat.le_of_ble_eq_true rfl⟩ ⟨Nat.zero_le _, Nat.zero_le _⟩ rfl rfl (Nat.le_of_ble_eq_true rfl) dX5_readClause_236 (fun r236_6 μ_27 hs h => ?_)
                        refine z_phiB 247 [] (fun V9 hv J9 => ?_) h (fun x247_6 h => ?_)
                        · refine z_ifeq_b (tgt := 246) dX5_readClause_239 (by decide) (eq_ite hv) (fun hv => ?_) (fun hv => ?_)
                          · refine z_iconst dX5_readClause_242 ?_
                            refine z_goto (tgt := 247) dX5_readClause_243 (by decide) ?_
                            exact J9 true hv.symm
                          · refine z_iconst dX5_readClause_246 ?_
                            exact J9 false hv.symm
                        · exact z_zret (b := x247_6) rfl dX5_readClause_247 rfl rfl rfl ⟨_, rfl, hs, h⟩
                      · refine z_iconst dX5_readClause_246 ?_
                        exact z_zret (b := false) rfl dX5_readClause_247 rfl rfl rfl ⟨_, rfl, hs, h⟩
                  · refine z_sub (lv' := [(0, vr Γ 63)]) [2] rfl ?_
                    exact B_OrdR_readClause_104 hs h
                · rw [if_neg hc5] at h
                  refine z_tdef (tgt := 218) (by omega) dX5_readClause_44 (by decide) ?_
                  refine z_rload_n dX5_readClause_218 rfl 2 rfl ?_
                  obtain ⟨r219_1, h9, hr_r219_1, h⟩ := h
                  refine z_getR (q := 9065) ff_5_1 dX5_readClause_219 kt_63 (Nat.le_of_ble_eq_true rfl) fl_X5_15 rfl h9 ?_
                  refine z_iconst dX5_readClause_222 ?_
                  refine z_putZ (b := true) (q := (gid r219_1 6)) ff_8_6 (Or.inl rfl) rfl dX5_readClause_223 (ru_k hr_r219_1) (ru_l hr_r219_1) fl_X5_77 rfl ?_
                  refine z_mm (fun μ_28 eμ_28 => ?_)
                  replace h := h μ_28 eμ_28
                  replace hs : StatR μ_28.2.2 := by rw [eμ_28]; exact hs
                  refine z_iload_n dX5_readClause_226 rfl 0 rfl ?_
                  refine z_if_eq (tgt := 246) dX5_readClause_227 (by decide) h (fun h => ?_) (fun h => ?_)
                  · refine z_iconst dX5_readClause_246 ?_
                    exact z_zret (b := false) rfl dX5_readClause_247 rfl rfl rfl ⟨_, rfl, hs, h⟩
                  · refine z_rload_n dX5_readClause_230 rfl 2 rfl ?_
                    refine z_getR (q := 9064) ff_5_0 dX5_readClause_231 kt_63 (Nat.le_of_ble_eq_true rfl) fl_X5_9 rfl (hs.1 _ _ sr_9064) ?_
                    refine z_bipush dX5_readClause_234 (by decide) ?_
                    refine z_VB (i_Tape_skipSign  hs h) vk_X9_skipSign kt_10 (Nat.le_of_ble_eq_true rfl) rfl ml_X5_81 ⟨Nat.le_of_ble_eq_true rfl, Nat.le_of_ble_eq_true rfl⟩ ⟨Nat.zero_le _, Nat.zero_le _⟩ rfl rfl (Nat.le_of_ble_eq_true rfl) dX5_readClause_236 (fun r236_7 μ_29 hs h => ?_)
                    refine z_phiB 247 [] (fun V9 hv J9 => ?_) h (fun x247_7 h => ?_)
                    · refine z_ifeq_b (tgt := 246) dX5_readClause_239 (by decide) (eq_ite hv) (fun hv => ?_) (fun hv => ?_)
                      · refine z_iconst dX5_readClause_242 ?_
                        refine z_goto (tgt := 247) dX5_readClause_243 (by decide) ?_
                        exact J9 true hv.symm
                      · refine z_iconst dX5_readClause_246 ?_
                        exact J9 false hv.symm
                    · exact z_zret (b := x247_7) rfl dX5_readClause_247 rfl rfl rfl ⟨_, rfl, hs, h⟩
    · refine z_rload_n dX5_readClause_25 rfl 1 rfl ?_
      refine z_getR (q := 9064) ff_5_0 dX5_readClause_26 kt_63 (Nat.le_of_ble_eq_true rfl) fl_X5_9 rfl (hs.1 _ _ sr_9064) ?_
      refine z_iconst dX5_readClause_29 ?_
      refine z_VB (i_Tape_fail  hs h) vk_X9_fail kt_10 (Nat.le_of_ble_eq_true rfl) rfl ml_X5_41 ⟨Nat.le_of_ble_eq_true rfl, Nat.le_of_ble_eq_true rfl⟩ ⟨Nat.zero_le _, Nat.zero_le _⟩ rfl rfl (Nat.le_of_ble_eq_true rfl) dX5_readClause_30 (fun r30 μ_30 hs h => ?_)
      exact z_zret (b := r30) rfl dX5_readClause_33 rfl rfl rfl ⟨_, rfl, hs, h⟩
abbrev Y_Rules_clear : Yt := (1, none, yX8_clear.name, { frames := 1, cells := 0, slots := 0, locals := 22 }, 175, 0, 0)
def f_Rules_clear (r0 : Nat) (μ : Mem) (k : Mem → Prop) : Prop := ∀ μ_1 : Mem, μ_1 = sI μ (gid r0 3) 0 0 → f_H_fill (r0 + 2) 5 0 μ_1 (fun μ_2 => f_H_fill (r0 + 3) 5 0 μ_2 (fun μ_3 => ∀ μ_4 : Mem, μ_4 = sI μ_3 (gid r0 4) 0 10 → ∀ μ_5 : Mem, μ_5 = sI μ_4 (gid r0 5) 0 12 → ∀ μ_6 : Mem, μ_6 = sB μ_5 (gid r0 6) 0 false → k μ_6))
theorem i_Rules_clear {l : Launch} {Γ : Gam} {g : Nat} {r0 : Nat} {μ : Mem} {k : Mem → Prop} (hr_r0 : isRu r0 = true) (hs : StatR μ.2.2) (h : f_Rules_clear r0 μ k) : CT l Γ yX8_clear cX8_clear 1 none 1 22 0 0 [vr Γ r0] g 175 μ (pV k) := by
  refine SW.ct (by decide) (Nat.le_of_ble_eq_true rfl) ?_
  refine z_sub (lv' := [(0, vr Γ r0)]) [0] rfl ?_
  show SW l Γ yX8_clear.cls cX8_clear Y_Rules_clear (pV k) g 175 0 0 μ 0 [(0, vr Γ r0)] []
  unfold f_Rules_clear at h
  refine z_rload_n dX8_clear_0 rfl 0 rfl ?_
  refine z_iconst dX8_clear_1 ?_
  refine z_putI (q := (gid r0 3)) ff_8_3 (Or.inl rfl) rfl dX8_clear_2 (ru_k hr_r0) (ru_l hr_r0) fl_X8_28 rfl ?_
  refine z_mm (fun μ_1 eμ_1 => ?_)
  replace h := h μ_1 eμ_1
  replace hs : StatR μ_1.2.2 := by rw [eμ_1]; exact hs
  refine z_rload_n dX8_clear_5 rfl 0 rfl ?_
  refine z_getR ff_8_1 dX8_clear_6 (ru_k hr_r0) (ru_l hr_r0) fl_X8_15 rfl (ru_s2 hs hr_r0) ?_
  refine z_iconst dX8_clear_9 ?_
  refine z_NU (i_H_fill (ru_k2 hr_r0) (ru_l2 hr_r0) hs h) sk_X11_fill nw_X8_31 ⟨Nat.le_of_ble_eq_true rfl, Nat.le_of_ble_eq_true rfl⟩ ⟨Nat.zero_le _, Nat.zero_le _⟩ rfl rfl (Nat.le_of_ble_eq_true rfl) dX8_clear_10 (fun μ_2 hs h => ?_)
  refine z_rload_n dX8_clear_13 rfl 0 rfl ?_
  refine z_getR ff_8_2 dX8_clear_14 (ru_k hr_r0) (ru_l hr_r0) fl_X8_18 rfl (ru_s3 hs hr_r0) ?_
  refine z_iconst dX8_clear_17 ?_
  refine z_NU (i_H_fill (ru_k3 hr_r0) (ru_l3 hr_r0) hs h) sk_X11_fill nw_X8_31 ⟨Nat.le_of_ble_eq_true rfl, Nat.le_of_ble_eq_true rfl⟩ ⟨Nat.zero_le _, Nat.zero_le _⟩ rfl rfl (Nat.le_of_ble_eq_true rfl) dX8_clear_18 (fun μ_3 hs h => ?_)
  refine z_rload_n dX8_clear_21 rfl 0 rfl ?_
  refine z_bipush dX8_clear_22 (by decide) ?_
  refine z_putI (q := (gid r0 4)) ff_8_4 (Or.inl rfl) rfl dX8_clear_24 (ru_k hr_r0) (ru_l hr_r0) fl_X8_21 rfl ?_
  refine z_mm (fun μ_4 eμ_4 => ?_)
  replace h := h μ_4 eμ_4
  replace hs : StatR μ_4.2.2 := by rw [eμ_4]; exact hs
  refine z_rload_n dX8_clear_27 rfl 0 rfl ?_
  refine z_bipush dX8_clear_28 (by decide) ?_
  refine z_putI (q := (gid r0 5)) ff_8_5 (Or.inl rfl) rfl dX8_clear_30 (ru_k hr_r0) (ru_l hr_r0) fl_X8_25 rfl ?_
  refine z_mm (fun μ_5 eμ_5 => ?_)
  replace h := h μ_5 eμ_5
  replace hs : StatR μ_5.2.2 := by rw [eμ_5]; exact hs
  refine z_rload_n dX8_clear_33 rfl 0 rfl ?_
  refine z_iconst dX8_clear_34 ?_
  refine z_putZ (b := false) (q := (gid r0 6)) ff_8_6 (Or.inl rfl) rfl dX8_clear_35 (ru_k hr_r0) (ru_l hr_r0) fl_X8_35 rfl ?_
  refine z_mm (fun μ_6 eμ_6 => ?_)
  replace h := h μ_6 eμ_6
  replace hs : StatR μ_6.2.2 := by rw [eμ_6]; exact hs
  exact z_vret rfl dX8_clear_38 rfl rfl rfl ⟨rfl, hs, h⟩
abbrev Y_Tape_begin : Yt := (1, none, yX9_begin.name, { frames := 2, cells := 0, slots := 0, locals := 41 }, 175, 0, 0)
def f_Tape_begin  (μ : Mem) (k : Mem → Prop) : Prop := ∀ μ_1 : Mem, μ_1 = sI μ 2286 0 0 → ∀ μ_2 : Mem, μ_2 = sI μ_1 2287 0 (-1) → ∀ μ_3 : Mem, μ_3 = sI μ_2 2284 0 0 → f_Tape_next  μ_3 (fun μ_4 => k μ_4)
theorem i_Tape_begin {l : Launch} {Γ : Gam} {g : Nat} {μ : Mem} {k : Mem → Prop} (hs : StatR μ.2.2) (h : f_Tape_begin  μ k) : CT l Γ yX9_begin cX9_begin 1 none 2 41 0 0 [vr Γ 10] g 175 μ (pV k) := by
  refine SW.ct (by decide) (Nat.le_of_ble_eq_true rfl) ?_
  refine z_sub (lv' := [(0, vr Γ 10)]) [0] rfl ?_
  show SW l Γ yX9_begin.cls cX9_begin Y_Tape_begin (pV k) g 175 0 0 μ 0 [(0, vr Γ 10)] []
  unfold f_Tape_begin at h
  refine z_rload_n dX9_begin_0 rfl 0 rfl ?_
  refine z_iconst dX9_begin_1 ?_
  refine z_putI (q := 2286) ff_9_6 (Or.inl rfl) rfl dX9_begin_2 kt_10 (Nat.le_of_ble_eq_true rfl) fl_X9_26 rfl ?_
  refine z_mm (fun μ_1 eμ_1 => ?_)
  replace h := h μ_1 eμ_1
  replace hs : StatR μ_1.2.2 := by rw [eμ_1]; exact hs
  refine z_rload_n dX9_begin_5 rfl 0 rfl ?_
  refine z_iconst dX9_begin_6 ?_
  refine z_putI (q := 2287) ff_9_7 (Or.inl rfl) rfl dX9_begin_7 kt_10 (Nat.le_of_ble_eq_true rfl) fl_X9_15 rfl ?_
  refine z_mm (fun μ_2 eμ_2 => ?_)
  replace h := h μ_2 eμ_2
  replace hs : StatR μ_2.2.2 := by rw [eμ_2]; exact hs
  refine z_rload_n dX9_begin_10 rfl 0 rfl ?_
  refine z_iconst dX9_begin_11 ?_
  refine z_putI (q := 2284) ff_9_4 (Or.inl rfl) rfl dX9_begin_12 kt_10 (Nat.le_of_ble_eq_true rfl) fl_X9_29 rfl ?_
  refine z_mm (fun μ_3 eμ_3 => ?_)
  replace h := h μ_3 eμ_3
  replace hs : StatR μ_3.2.2 := by rw [eμ_3]; exact hs
  refine z_rload_n dX9_begin_15 rfl 0 rfl ?_
  refine z_VU (i_Tape_next  hs h) vk_X9_next kt_10 (Nat.le_of_ble_eq_true rfl) rfl ml_X9_32 ⟨Nat.le_of_ble_eq_true rfl, Nat.le_of_ble_eq_true rfl⟩ ⟨Nat.zero_le _, Nat.zero_le _⟩ rfl rfl (Nat.le_of_ble_eq_true rfl) dX9_begin_16 (fun μ_4 hs h => ?_)
  exact z_vret rfl dX9_begin_19 rfl rfl rfl ⟨rfl, hs, h⟩
def v_Tape_isEnd  (μ : Mem) : Bool := if w (rI μ 2282 0) = 0 then true else false
theorem i_Tape_isEnd {l : Launch} {Γ : Gam} {g : Nat} {μ : Mem} : CT l Γ yX9_isEnd cX9_isEnd 1 (some .boolean) 0 0 0 0 [vr Γ 10] g 175 μ (pE (vi (b2i (v_Tape_isEnd μ))) μ) := by
  refine SW.ct (by decide) (Nat.le_of_ble_eq_true rfl) ?_
  refine z_sub (lv' := [(0, vr Γ 10)]) [0] rfl ?_
  have hv : v_Tape_isEnd μ = v_Tape_isEnd μ := rfl
  refine z_rload_n dX9_isEnd_0 rfl 0 rfl ?_
  refine z_getI (q := 2282) ff_9_2 dX9_isEnd_1 kt_10 (Nat.le_of_ble_eq_true rfl) fl_X9_46 rfl ?_
  refine z_if_ne (tgt := 11) dX9_isEnd_4 (by decide) (eq_ite hv) (fun hv => ?_) (fun hv => ?_)
  · refine z_iconst dX9_isEnd_7 ?_
    refine z_goto (tgt := 12) dX9_isEnd_8 (by decide) ?_
    exact z_zret (b := true) rfl dX9_isEnd_12 rfl rfl rfl ⟨by first | (rw [hv]; done) | rfl, rfl⟩
  · refine z_iconst dX9_isEnd_11 ?_
    exact z_zret (b := false) rfl dX9_isEnd_12 rfl rfl rfl ⟨by first | (rw [hv]; done) | rfl, rfl⟩
abbrev Y_OrdR_read : Yt := (3, (some .boolean), yX5_read.name, { frames := 612, cells := 0, slots := 0, locals := 3947 }, 175, 0, 0)
def l_OrdR_read_21 (k : Bool → Mem → Prop) : Nat → Int → Mem → Prop
  | 0, _, _ => False
  | fu21 + 1, v2, μ_4 => if w 15 < w v2 then (k false μ_4) else (if (v_Tape_isEnd μ_4) = true then (k true μ_4) else (f_OrdR_readClause v2 μ_4 (fun r41 μ_5 => if r41 = true then ((l_OrdR_read_21 k fu21) (v2 + 1) μ_5) else (k false μ_5))))
def f_OrdR_read (a1 : Nat) (μ : Mem) (k : Bool → Mem → Prop) : Prop := ∀ μ_1 : Mem, μ_1 = sR μ 9065 0 (some a1) → ∃ r6 : Nat, rR μ_1 9065 0 = some r6 ∧ isRu r6 = true ∧ f_Rules_clear r6 μ_1 (fun μ_2 => f_Tape_begin  μ_2 (fun μ_3 => ∃ m21 : Nat, l_OrdR_read_21 k m21 0 μ_3))
theorem L_OrdR_read_21 {l : Launch} {Γ : Gam} {g : Nat} {k : Bool → Mem → Prop} (n9 : Nat) : ∀ (v2 : Int) (μ_4 : Mem), StatR μ_4.2.2 → l_OrdR_read_21 k n9 v2 μ_4 → SW l Γ yX5_read.cls cX5_read Y_OrdR_read (pB k) g 175 0 0 μ_4 21 [(0, vr Γ 63), (2, vi v2)] [] := by
  induction n9 with
  | zero =>
    intro v2 μ_4 hs h
    exact h.elim
  | succ n9 hR_21 =>
    intro v2 μ_4 hs h
    rw [l_OrdR_read_21] at h
    refine z_iload_n dX5_read_21 rfl 1 rfl ?_
    refine z_bipush dX5_read_22 (by decide) ?_
    refine z_icmp_gt (tgt := 55) dX5_read_24 (by decide) h (fun h => ?_) (fun h => ?_)
    · refine z_iconst dX5_read_55 ?_
      exact z_zret (b := false) rfl dX5_read_56 rfl rfl rfl ⟨_, rfl, hs, h⟩
    · refine z_rload_n dX5_read_27 rfl 0 rfl ?_
      refine z_getR (q := 9064) ff_5_0 dX5_read_28 kt_63 (Nat.le_of_ble_eq_true rfl) fl_X5_9 rfl (hs.1 _ _ sr_9064) ?_
      refine z_VE (i_Tape_isEnd ) vk_X9_isEnd kt_10 (Nat.le_of_ble_eq_true rfl) rfl ml_X5_29 ⟨Nat.le_of_ble_eq_true rfl, Nat.le_of_ble_eq_true rfl⟩ ⟨Nat.zero_le _, Nat.zero_le _⟩ rfl rfl (Nat.le_of_ble_eq_true rfl) dX5_read_31 ?_
      refine z_ifeq_b (tgt := 39) dX5_read_34 (by decide) h (fun h => ?_) (fun h => ?_)
      · refine z_iconst dX5_read_37 ?_
        exact z_zret (b := true) rfl dX5_read_38 rfl rfl rfl ⟨_, rfl, hs, h⟩
      · refine z_rload_n dX5_read_39 rfl 0 rfl ?_
        refine z_iload_n dX5_read_40 rfl 1 rfl ?_
        refine z_VB (i_OrdR_readClause  hs h) vk_X5_readClause kt_63 (Nat.le_of_ble_eq_true rfl) rfl ml_X5_33 ⟨Nat.le_of_ble_eq_true rfl, Nat.le_of_ble_eq_true rfl⟩ ⟨Nat.zero_le _, Nat.zero_le _⟩ rfl rfl (Nat.le_of_ble_eq_true rfl) dX5_read_41 (fun r41 μ_5 hs h => ?_)
        refine z_ifne_b (tgt := 49) dX5_read_44 (by decide) h (fun h => ?_) (fun h => ?_)
        · refine z_iinc (j := 1) (lv' := [(2, vi (v2 + 1)), (0, vr Γ 63)]) dX5_read_49 rfl (Nat.le_of_ble_eq_true rfl) rfl ?_
          refine z_goto (tgt := 21) dX5_read_52 (by decide) ?_
          refine z_sub (lv' := [(0, vr Γ 63), (2, vi (v2 + 1))]) [1, 0] rfl ?_
          exact hR_21 (v2 + 1) μ_5 hs h
        · refine z_iconst dX5_read_47 ?_
          exact z_zret (b := false) rfl dX5_read_48 rfl rfl rfl ⟨_, rfl, hs, h⟩
theorem i_OrdR_read {l : Launch} {Γ : Gam} {g : Nat} {a1 : Nat} {μ : Mem} {k : Bool → Mem → Prop} (hr_a1 : isRu a1 = true) (hs : StatR μ.2.2) (h : f_OrdR_read a1 μ k) : CT l Γ yX5_read cX5_read 3 (some .boolean) 612 3947 0 0 [vr Γ 63, vr Γ a1] g 175 μ (pB k) := by
  refine SW.ct (by decide) (Nat.le_of_ble_eq_true rfl) ?_
  refine z_sub (lv' := [(0, vr Γ 63), (1, vr Γ a1)]) [0, 1] rfl ?_
  show SW l Γ yX5_read.cls cX5_read Y_OrdR_read (pB k) g 175 0 0 μ 0 [(0, vr Γ 63), (1, vr Γ a1)] []
  unfold f_OrdR_read at h
  refine z_rload_n dX5_read_0 rfl 0 rfl ?_
  refine z_rload_n dX5_read_1 rfl 1 rfl ?_
  refine z_putR (q := 9065) ff_5_1 (Or.inl rfl) rfl rfl rfl dX5_read_2 kt_63 (Nat.le_of_ble_eq_true rfl) fl_X5_15 rfl ?_
  refine z_mm (fun μ_1 eμ_1 => ?_)
  replace h := h μ_1 eμ_1
  replace hs : StatR μ_1.2.2 := by rw [eμ_1]; exact (StatR.put hs)
  refine z_rload_n dX5_read_5 rfl 0 rfl ?_
  obtain ⟨r6, h9, hr_r6, h⟩ := h
  refine z_getR (q := 9065) ff_5_1 dX5_read_6 kt_63 (Nat.le_of_ble_eq_true rfl) fl_X5_15 rfl h9 ?_
  refine z_VU (i_Rules_clear hr_r6 hs h) vk_X8_clear (ru_k hr_r6) (ru_l hr_r6) rfl ml_X5_19 ⟨Nat.le_of_ble_eq_true rfl, Nat.le_of_ble_eq_true rfl⟩ ⟨Nat.zero_le _, Nat.zero_le _⟩ rfl rfl (Nat.le_of_ble_eq_true rfl) dX5_read_9 (fun μ_2 hs h => ?_)
  refine z_rload_n dX5_read_12 rfl 0 rfl ?_
  refine z_getR (q := 9064) ff_5_0 dX5_read_13 kt_63 (Nat.le_of_ble_eq_true rfl) fl_X5_9 rfl (hs.1 _ _ sr_9064) ?_
  refine z_VU (i_Tape_begin  hs h) vk_X9_begin kt_10 (Nat.le_of_ble_eq_true rfl) rfl ml_X5_24 ⟨Nat.le_of_ble_eq_true rfl, Nat.le_of_ble_eq_true rfl⟩ ⟨Nat.zero_le _, Nat.zero_le _⟩ rfl rfl (Nat.le_of_ble_eq_true rfl) dX5_read_16 (fun μ_3 hs h => ?_)
  refine z_iconst dX5_read_19 ?_
  refine z_istore_n (lv' := [(2, vi 0), (0, vr Γ 63), (1, vr Γ a1)]) dX5_read_20 rfl (Nat.le_of_ble_eq_true rfl) rfl ?_
  obtain ⟨m21, h⟩ := h
  refine z_sub (lv' := [(0, vr Γ 63), (2, vi 0)]) [1, 0] rfl ?_
  refine L_OrdR_read_21  m21 0 μ_3 hs h
abbrev Y_Papers_draft : Yt := (1, (some (.object "CardHall$Rules")), yX6_draft.name, { frames := 1, cells := 0, slots := 0, locals := 22 }, 175, 0, 0)
def f_Papers_draft  (μ : Mem) (k : Nat → Mem → Prop) : Prop := f_Papers_inForce (rI μ 2545 0) μ (fun r5 μ_1 => isRu r5 = true ∧ k r5 μ_1)
theorem i_Papers_draft {l : Launch} {Γ : Gam} {g : Nat} {μ : Mem} {k : Nat → Mem → Prop} (hs : StatR μ.2.2) (h : f_Papers_draft  μ k) : CT l Γ yX6_draft cX6_draft 1 (some (.object "CardHall$Rules")) 1 22 0 0 [vr Γ 12] g 175 μ (pA Γ k) := by
  refine SW.ct (by decide) (Nat.le_of_ble_eq_true rfl) ?_
  refine z_sub (lv' := [(0, vr Γ 12)]) [0] rfl ?_
  show SW l Γ yX6_draft.cls cX6_draft Y_Papers_draft (pA Γ k) g 175 0 0 μ 0 [(0, vr Γ 12)] []
  unfold f_Papers_draft at h
  refine z_rload_n dX6_draft_0 rfl 0 rfl ?_
  refine z_rload_n dX6_draft_1 rfl 0 rfl ?_
  refine z_getI (q := 2545) ff_6_9 dX6_draft_2 kt_12 (Nat.le_of_ble_eq_true rfl) fl_X6_42 rfl ?_
  refine z_VA (i_Papers_inForce  hs h) vk_X6_inForce kt_12 (Nat.le_of_ble_eq_true rfl) rfl ml_X6_45 ⟨Nat.le_of_ble_eq_true rfl, Nat.le_of_ble_eq_true rfl⟩ ⟨Nat.zero_le _, Nat.zero_le _⟩ rfl rfl (Nat.le_of_ble_eq_true rfl) dX6_draft_5 (fun r5 μ_1 hs h => ?_)
  obtain ⟨hr_r5, h⟩ := h
  exact z_aret rfl (Or.inl ⟨_, rfl⟩) dX6_draft_8 rfl rfl rfl ⟨_, rfl, hs, h⟩
abbrev Y_H_orders : Yt := (3, (some .int), yX11_orders.name, { frames := 613, cells := 0, slots := 0, locals := 3969 }, 175, 0, 0)
def f_H_orders  (μ : Mem) (k : Int → Mem → Prop) : Prop := if w (rI μ 2545 0) < w 10 then (f_Papers_draft  μ (fun r22 μ_1 => isRu r22 = true ∧ f_OrdR_read r22 μ_1 (fun r25 μ_2 => ∀ μ_3 : Mem, μ_3 = sI μ_2 2281 0 0 → if r25 = true then (∀ v2 : Int, v2 = rI μ_3 2545 0 → ∀ μ_4 : Mem, μ_4 = sI μ_3 2545 0 ((rI μ_3 2545 0) + 1) → f_Floor_bring (200 + v2) μ_4 (fun μ_5 => if w v2 = 0 then (f_Floor_put 200 1 μ_5 (fun μ_6 => ∀ μ_7 : Mem, μ_7 = sI μ_6 9584 0 0 → f_Chair_closeLatest  μ_7 (fun μ_8 => k v2 μ_8))) else (f_Chair_closeLatest  μ_5 (fun μ_9 => k v2 μ_9)))) else (k ((-1) - (rI μ_3 2286 0)) μ_3)))) else (k (-1) μ)
theorem i_H_orders {l : Launch} {Γ : Gam} {g : Nat} {μ : Mem} {k : Int → Mem → Prop} (hs : StatR μ.2.2) (h : f_H_orders  μ k) : CT l Γ yX11_orders cX11_orders 3 (some .int) 613 3969 0 0 [vr Γ 0] g 175 μ (pI k) := by
  refine SW.ct (by decide) (Nat.le_of_ble_eq_true rfl) ?_
  refine z_sub (lv' := [(0, vr Γ 0)]) [0] rfl ?_
  show SW l Γ yX11_orders.cls cX11_orders Y_H_orders (pI k) g 175 0 0 μ 0 [(0, vr Γ 0)] []
  unfold f_H_orders at h
  refine z_rload_n dX11_orders_0 rfl 0 rfl ?_
  refine z_getR (q := 1004) ff_11_4 dX11_orders_1 kt_0 (Nat.le_of_ble_eq_true rfl) fl_X11_26 rfl (hs.1 _ _ sr_1004) ?_
  refine z_getI (q := 2545) ff_6_9 dX11_orders_4 kt_12 (Nat.le_of_ble_eq_true rfl) fl_X11_160 rfl ?_
  refine z_bipush dX11_orders_7 (by decide) ?_
  refine z_icmp_lt (tgt := 14) dX11_orders_9 (by decide) h (fun h => ?_) (fun h => ?_)
  · refine z_rload_n dX11_orders_14 rfl 0 rfl ?_
    refine z_getR (q := 1002) ff_11_2 dX11_orders_15 kt_0 (Nat.le_of_ble_eq_true rfl) fl_X11_39 rfl (hs.1 _ _ sr_1002) ?_
    refine z_rload_n dX11_orders_18 rfl 0 rfl ?_
    refine z_getR (q := 1004) ff_11_4 dX11_orders_19 kt_0 (Nat.le_of_ble_eq_true rfl) fl_X11_26 rfl (hs.1 _ _ sr_1004) ?_
    refine z_VA (i_Papers_draft  hs h) vk_X6_draft kt_12 (Nat.le_of_ble_eq_true rfl) rfl ml_X11_163 ⟨Nat.le_of_ble_eq_true rfl, Nat.le_of_ble_eq_true rfl⟩ ⟨Nat.zero_le _, Nat.zero_le _⟩ rfl rfl (Nat.le_of_ble_eq_true rfl) dX11_orders_22 (fun r22 μ_1 hs h => ?_)
    obtain ⟨hr_r22, h⟩ := h
    refine z_VB (i_OrdR_read hr_r22 hs h) vk_X5_read kt_63 (Nat.le_of_ble_eq_true rfl) rfl ml_X11_167 ⟨Nat.le_of_ble_eq_true rfl, Nat.le_of_ble_eq_true rfl⟩ ⟨Nat.zero_le _, Nat.zero_le _⟩ rfl rfl (Nat.le_of_ble_eq_true rfl) dX11_orders_25 (fun r25 μ_2 hs h => ?_)
    refine z_istore_n (lv' := [(1, vi (b2i r25)), (0, vr Γ 0)]) dX11_orders_28 rfl (Nat.le_of_ble_eq_true rfl) rfl ?_
    refine z_rload_n dX11_orders_29 rfl 1 rfl ?_
    refine z_getR (q := 1001) ff_11_1 dX11_orders_30 kt_0 (Nat.le_of_ble_eq_true rfl) fl_X11_19 rfl (hs.1 _ _ sr_1001) ?_
    refine z_iconst dX11_orders_33 ?_
    refine z_putI (q := 2281) ff_9_1 (Or.inl rfl) rfl dX11_orders_34 kt_10 (Nat.le_of_ble_eq_true rfl) fl_X11_153 rfl ?_
    refine z_mm (fun μ_3 eμ_3 => ?_)
    replace h := h μ_3 eμ_3
    replace hs : StatR μ_3.2.2 := by rw [eμ_3]; exact hs
    refine z_iload_n dX11_orders_37 rfl 0 rfl ?_
    refine z_ifne_b (tgt := 51) dX11_orders_38 (by decide) h (fun h => ?_) (fun h => ?_)
    · refine z_rload_n dX11_orders_51 rfl 1 rfl ?_
      refine z_getR (q := 1004) ff_11_4 dX11_orders_52 kt_0 (Nat.le_of_ble_eq_true rfl) fl_X11_26 rfl (hs.1 _ _ sr_1004) ?_
      refine z_getI (q := 2545) ff_6_9 dX11_orders_55 kt_12 (Nat.le_of_ble_eq_true rfl) fl_X11_160 rfl ?_
      refine z_nm (fun v2 ev2 => ?_)
      replace h := h v2 ev2
      refine z_istore_n (lv' := [(2, vi v2), (1, vi (b2i r25)), (0, vr Γ 0)]) dX11_orders_58 rfl (Nat.le_of_ble_eq_true rfl) rfl ?_
      refine z_rload_n dX11_orders_59 rfl 2 rfl ?_
      refine z_getR (q := 1004) ff_11_4 dX11_orders_60 kt_0 (Nat.le_of_ble_eq_true rfl) fl_X11_26 rfl (hs.1 _ _ sr_1004) ?_
      refine z_dup dX11_orders_63 rfl ?_
      refine z_getI (q := 2545) ff_6_9 dX11_orders_64 kt_12 (Nat.le_of_ble_eq_true rfl) fl_X11_160 rfl ?_
      refine z_iconst dX11_orders_67 ?_
      refine z_iadd dX11_orders_68 ?_
      refine z_putI (q := 2545) ff_6_9 (Or.inl rfl) rfl dX11_orders_69 kt_12 (Nat.le_of_ble_eq_true rfl) fl_X11_160 rfl ?_
      refine z_mm (fun μ_4 eμ_4 => ?_)
      replace h := h μ_4 eμ_4
      replace hs : StatR μ_4.2.2 := by rw [eμ_4]; exact hs
      refine z_rload_n dX11_orders_72 rfl 2 rfl ?_
      refine z_getR (q := 1005) ff_11_5 dX11_orders_73 kt_0 (Nat.le_of_ble_eq_true rfl) fl_X11_57 rfl (hs.1 _ _ sr_1005) ?_
      refine z_sipush dX11_orders_76 (by decide) ?_
      refine z_iload_n dX11_orders_79 rfl 0 rfl ?_
      refine z_iadd dX11_orders_80 ?_
      refine z_VU (i_Floor_bring  hs h) vk_X3_bring kt_67 (Nat.le_of_ble_eq_true rfl) rfl ml_X11_174 ⟨Nat.le_of_ble_eq_true rfl, Nat.le_of_ble_eq_true rfl⟩ ⟨Nat.zero_le _, Nat.zero_le _⟩ rfl rfl (Nat.le_of_ble_eq_true rfl) dX11_orders_81 (fun μ_5 hs h => ?_)
      refine z_iload_n dX11_orders_84 rfl 0 rfl ?_
      refine z_if_ne (tgt := 107) dX11_orders_85 (by decide) h (fun h => ?_) (fun h => ?_)
      · refine z_rload_n dX11_orders_88 rfl 2 rfl ?_
        refine z_getR (q := 1005) ff_11_5 dX11_orders_89 kt_0 (Nat.le_of_ble_eq_true rfl) fl_X11_57 rfl (hs.1 _ _ sr_1005) ?_
        refine z_sipush dX11_orders_92 (by decide) ?_
        refine z_iconst dX11_orders_95 ?_
        refine z_VU (i_Floor_put  hs h) vk_X3_put kt_67 (Nat.le_of_ble_eq_true rfl) rfl ml_X11_177 ⟨Nat.le_of_ble_eq_true rfl, Nat.le_of_ble_eq_true rfl⟩ ⟨Nat.zero_le _, Nat.zero_le _⟩ rfl rfl (Nat.le_of_ble_eq_true rfl) dX11_orders_96 (fun μ_6 hs h => ?_)
        refine z_rload_n dX11_orders_99 rfl 2 rfl ?_
        refine z_getR (q := 1005) ff_11_5 dX11_orders_100 kt_0 (Nat.le_of_ble_eq_true rfl) fl_X11_57 rfl (hs.1 _ _ sr_1005) ?_
        refine z_iconst dX11_orders_103 ?_
        refine z_putI (q := 9584) ff_3_8 (Or.inl rfl) rfl dX11_orders_104 kt_67 (Nat.le_of_ble_eq_true rfl) fl_X11_125 rfl ?_
        refine z_mm (fun μ_7 eμ_7 => ?_)
        replace h := h μ_7 eμ_7
        replace hs : StatR μ_7.2.2 := by rw [eμ_7]; exact hs
        refine z_rload_n dX11_orders_107 rfl 2 rfl ?_
        refine z_getR (q := 1007) ff_11_7 dX11_orders_108 kt_0 (Nat.le_of_ble_eq_true rfl) fl_X11_75 rfl (hs.1 _ _ sr_1007) ?_
        refine z_VU (i_Chair_closeLatest  hs h) vk_X0_closeLatest kt_83 (Nat.le_of_ble_eq_true rfl) rfl ml_X11_180 ⟨Nat.le_of_ble_eq_true rfl, Nat.le_of_ble_eq_true rfl⟩ ⟨Nat.zero_le _, Nat.zero_le _⟩ rfl rfl (Nat.le_of_ble_eq_true rfl) dX11_orders_111 (fun μ_8 hs h => ?_)
        refine z_iload_n dX11_orders_114 rfl 0 rfl ?_
        exact z_iret rfl dX11_orders_115 rfl rfl rfl ⟨_, rfl, hs, h⟩
      · refine z_rload_n dX11_orders_107 rfl 2 rfl ?_
        refine z_getR (q := 1007) ff_11_7 dX11_orders_108 kt_0 (Nat.le_of_ble_eq_true rfl) fl_X11_75 rfl (hs.1 _ _ sr_1007) ?_
        refine z_VU (i_Chair_closeLatest  hs h) vk_X0_closeLatest kt_83 (Nat.le_of_ble_eq_true rfl) rfl ml_X11_180 ⟨Nat.le_of_ble_eq_true rfl, Nat.le_of_ble_eq_true rfl⟩ ⟨Nat.zero_le _, Nat.zero_le _⟩ rfl rfl (Nat.le_of_ble_eq_true rfl) dX11_orders_111 (fun μ_9 hs h => ?_)
        refine z_iload_n dX11_orders_114 rfl 0 rfl ?_
        exact z_iret rfl dX11_orders_115 rfl rfl rfl ⟨_, rfl, hs, h⟩
    · refine z_iconst dX11_orders_41 ?_
      refine z_rload_n dX11_orders_42 rfl 1 rfl ?_
      refine z_getR (q := 1001) ff_11_1 dX11_orders_43 kt_0 (Nat.le_of_ble_eq_true rfl) fl_X11_19 rfl (hs.1 _ _ sr_1001) ?_
      refine z_getI (q := 2286) ff_9_6 dX11_orders_46 kt_10 (Nat.le_of_ble_eq_true rfl) fl_X11_171 rfl ?_
      refine z_isub dX11_orders_49 ?_
      exact z_iret rfl dX11_orders_50 rfl rfl rfl ⟨_, rfl, hs, h⟩
  · refine z_iconst dX11_orders_12 ?_
    exact z_iret rfl dX11_orders_13 rfl rfl rfl ⟨_, rfl, hs, h⟩
def v_H_isLate  (μ : Mem) : Bool := if w (rI μ 1140 0) = w (-1) then false else (if w (rI μ 1140 0) < w (rI μ 1139 0) then true else false)
theorem i_H_isLate {l : Launch} {Γ : Gam} {g : Nat} {μ : Mem} (hs : StatR μ.2.2) : CT l Γ yX11_isLate cX11_isLate 1 (some .boolean) 0 0 0 0 [vr Γ 0] g 175 μ (pE (vi (b2i (v_H_isLate μ))) μ) := by
  refine SW.ct (by decide) (Nat.le_of_ble_eq_true rfl) ?_
  refine z_sub (lv' := [(0, vr Γ 0)]) [0] rfl ?_
  have hv : v_H_isLate μ = v_H_isLate μ := rfl
  refine z_rload_n dX11_isLate_0 rfl 0 rfl ?_
  refine z_getR (q := 1000) ff_11_0 dX11_isLate_1 kt_0 (Nat.le_of_ble_eq_true rfl) fl_X11_12 rfl (hs.1 _ _ sr_1000) ?_
  refine z_getI (q := 1140) ff_7_12 dX11_isLate_4 kt_1 (Nat.le_of_ble_eq_true rfl) fl_X11_150 rfl ?_
  refine z_iconst dX11_isLate_7 ?_
  refine z_icmp_eq (tgt := 32) dX11_isLate_8 (by decide) (eq_ite hv) (fun hv => ?_) (fun hv => ?_)
  · refine z_iconst dX11_isLate_32 ?_
    exact z_zret (b := false) rfl dX11_isLate_33 rfl rfl rfl ⟨by first | (rw [hv]; done) | rfl, rfl⟩
  · refine z_rload_n dX11_isLate_11 rfl 0 rfl ?_
    refine z_getR (q := 1000) ff_11_0 dX11_isLate_12 kt_0 (Nat.le_of_ble_eq_true rfl) fl_X11_12 rfl (hs.1 _ _ sr_1000) ?_
    refine z_getI (q := 1139) ff_7_11 dX11_isLate_15 kt_1 (Nat.le_of_ble_eq_true rfl) fl_X11_139 rfl ?_
    refine z_rload_n dX11_isLate_18 rfl 0 rfl ?_
    refine z_getR (q := 1000) ff_11_0 dX11_isLate_19 kt_0 (Nat.le_of_ble_eq_true rfl) fl_X11_12 rfl (hs.1 _ _ sr_1000) ?_
    refine z_getI (q := 1140) ff_7_12 dX11_isLate_22 kt_1 (Nat.le_of_ble_eq_true rfl) fl_X11_150 rfl ?_
    refine z_icmp_le (tgt := 32) dX11_isLate_25 (by decide) (eq_ite hv) (fun hv => ?_) (fun hv => ?_)
    · refine z_iconst dX11_isLate_28 ?_
      refine z_goto (tgt := 33) dX11_isLate_29 (by decide) ?_
      exact z_zret (b := true) rfl dX11_isLate_33 rfl rfl rfl ⟨by first | (rw [hv]; done) | rfl, rfl⟩
    · refine z_iconst dX11_isLate_32 ?_
      exact z_zret (b := false) rfl dX11_isLate_33 rfl rfl rfl ⟨by first | (rw [hv]; done) | rfl, rfl⟩
abbrev Y_Count_paidHeadsOf : Yt := (4, (some .int), yX2_paidHeadsOf.name, { frames := 1, cells := 0, slots := 0, locals := 21 }, 175, 0, 0)
def f_Count_paidHeadsOf (a1 : Int) (a2 : Int) (μ : Mem) (k : Int → Mem → Prop) : Prop := if w a2 = 0 then (k (w_min (at' μ 74 12 a1) 0) μ) else (¬ w a2 = 0 ∧ ∀ v3 : Int, v3 = w_idiv (at' μ 75 12 a1) a2 → k (w_min (at' μ 74 12 a1) v3) μ)
theorem i_Count_paidHeadsOf {l : Launch} {Γ : Gam} {g : Nat} {a1 : Int} {a2 : Int} {μ : Mem} {k : Int → Mem → Prop} (hs : StatR μ.2.2) (h : f_Count_paidHeadsOf a1 a2 μ k) : CT l Γ yX2_paidHeadsOf cX2_paidHeadsOf 4 (some .int) 1 21 0 0 [vr Γ 73, vi a1, vi a2] g 175 μ (pI k) := by
  refine SW.ct (by decide) (Nat.le_of_ble_eq_true rfl) ?_
  refine z_sub (lv' := [(0, vr Γ 73), (1, vi a1), (2, vi a2)]) [0, 1, 2] rfl ?_
  show SW l Γ yX2_paidHeadsOf.cls cX2_paidHeadsOf Y_Count_paidHeadsOf (pI k) g 175 0 0 μ 0 [(0, vr Γ 73), (1, vi a1), (2, vi a2)] []
  unfold f_Count_paidHeadsOf at h
  refine z_iload_n dX2_paidHeadsOf_0 rfl 2 rfl ?_
  refine z_if_ne (tgt := 8) dX2_paidHeadsOf_1 (by decide) h (fun h => ?_) (fun h => ?_)
  · refine z_iconst dX2_paidHeadsOf_4 ?_
    refine z_goto (tgt := 18) dX2_paidHeadsOf_5 (by decide) ?_
    refine z_istore_n (lv' := [(3, vi 0), (0, vr Γ 73), (1, vi a1), (2, vi a2)]) dX2_paidHeadsOf_18 rfl (Nat.le_of_ble_eq_true rfl) rfl ?_
    refine z_rload_n dX2_paidHeadsOf_19 rfl 1 rfl ?_
    refine z_getR (q := 10345) ff_2_1 dX2_paidHeadsOf_20 kt_73 (Nat.le_of_ble_eq_true rfl) fl_X2_9 rfl (hs.1 _ _ sr_10345) ?_
    refine z_iload_n dX2_paidHeadsOf_23 rfl 2 rfl ?_
    refine z_NE (i_X11_at kt_74 (Nat.le_of_ble_eq_true rfl)) ok_X11_at nw_X2_59 ⟨Nat.le_of_ble_eq_true rfl, Nat.le_of_ble_eq_true rfl⟩ ⟨Nat.zero_le _, Nat.zero_le _⟩ rfl rfl (Nat.le_of_ble_eq_true rfl) dX2_paidHeadsOf_24 ?_
    refine z_iload_n dX2_paidHeadsOf_27 rfl 0 rfl ?_
    refine z_min dX2_paidHeadsOf_28 mm_X2_102 ms_min mi_math mc_min ⟨Nat.le_of_ble_eq_true rfl, Nat.le_of_ble_eq_true rfl⟩ ⟨Nat.zero_le _, Nat.zero_le _⟩ ?_
    exact z_iret rfl dX2_paidHeadsOf_31 rfl rfl rfl ⟨_, rfl, hs, h⟩
  · refine z_rload_n dX2_paidHeadsOf_8 rfl 0 rfl ?_
    refine z_getR (q := 10346) ff_2_2 dX2_paidHeadsOf_9 kt_73 (Nat.le_of_ble_eq_true rfl) fl_X2_15 rfl (hs.1 _ _ sr_10346) ?_
    refine z_iload_n dX2_paidHeadsOf_12 rfl 1 rfl ?_
    refine z_NE (i_X11_at kt_75 (Nat.le_of_ble_eq_true rfl)) ok_X11_at nw_X2_59 ⟨Nat.le_of_ble_eq_true rfl, Nat.le_of_ble_eq_true rfl⟩ ⟨Nat.zero_le _, Nat.zero_le _⟩ rfl rfl (Nat.le_of_ble_eq_true rfl) dX2_paidHeadsOf_13 ?_
    refine z_iload_n dX2_paidHeadsOf_16 rfl 2 rfl ?_
    obtain ⟨h0, h⟩ := h
    refine z_idiv dX2_paidHeadsOf_17 h0 ?_
    refine z_nm (fun v3 ev3 => ?_)
    replace h := h v3 ev3
    refine z_istore_n (lv' := [(3, vi v3), (0, vr Γ 73), (1, vi a1), (2, vi a2)]) dX2_paidHeadsOf_18 rfl (Nat.le_of_ble_eq_true rfl) rfl ?_
    refine z_rload_n dX2_paidHeadsOf_19 rfl 1 rfl ?_
    refine z_getR (q := 10345) ff_2_1 dX2_paidHeadsOf_20 kt_73 (Nat.le_of_ble_eq_true rfl) fl_X2_9 rfl (hs.1 _ _ sr_10345) ?_
    refine z_iload_n dX2_paidHeadsOf_23 rfl 2 rfl ?_
    refine z_NE (i_X11_at kt_74 (Nat.le_of_ble_eq_true rfl)) ok_X11_at nw_X2_59 ⟨Nat.le_of_ble_eq_true rfl, Nat.le_of_ble_eq_true rfl⟩ ⟨Nat.zero_le _, Nat.zero_le _⟩ rfl rfl (Nat.le_of_ble_eq_true rfl) dX2_paidHeadsOf_24 ?_
    refine z_iload_n dX2_paidHeadsOf_27 rfl 0 rfl ?_
    refine z_min dX2_paidHeadsOf_28 mm_X2_102 ms_min mi_math mc_min ⟨Nat.le_of_ble_eq_true rfl, Nat.le_of_ble_eq_true rfl⟩ ⟨Nat.zero_le _, Nat.zero_le _⟩ ?_
    exact z_iret rfl dX2_paidHeadsOf_31 rfl rfl rfl ⟨_, rfl, hs, h⟩
def v_Rules_says (r0 : Nat) (a1 : Int) (μ : Mem) : Bool := if w (at' μ (r0 + 2) 5 a1) < w (at' μ (r0 + 3) 5 a1) then true else false
theorem i_Rules_says {l : Launch} {Γ : Gam} {g : Nat} {μ : Mem} {r0 : Nat} {a1 : Int} (hr_r0 : isRu r0 = true) (hs : StatR μ.2.2) : CT l Γ yX8_says cX8_says 2 (some .boolean) 1 21 0 0 [vr Γ r0, vi a1] g 175 μ (pE (vi (b2i (v_Rules_says r0 a1 μ))) μ) := by
  refine SW.ct (by decide) (Nat.le_of_ble_eq_true rfl) ?_
  refine z_sub (lv' := [(0, vr Γ r0), (1, vi a1)]) [0, 1] rfl ?_
  have hv : v_Rules_says r0 a1 μ = v_Rules_says r0 a1 μ := rfl
  refine z_rload_n dX8_says_0 rfl 0 rfl ?_
  refine z_getR ff_8_2 dX8_says_1 (ru_k hr_r0) (ru_l hr_r0) fl_X8_18 rfl (ru_s3 hs hr_r0) ?_
  refine z_iload_n dX8_says_4 rfl 1 rfl ?_
  refine z_NE (i_X11_at (ru_k3 hr_r0) (ru_l3 hr_r0)) ok_X11_at nw_X8_43 ⟨Nat.le_of_ble_eq_true rfl, Nat.le_of_ble_eq_true rfl⟩ ⟨Nat.zero_le _, Nat.zero_le _⟩ rfl rfl (Nat.le_of_ble_eq_true rfl) dX8_says_5 ?_
  refine z_rload_n dX8_says_8 rfl 0 rfl ?_
  refine z_getR ff_8_1 dX8_says_9 (ru_k hr_r0) (ru_l hr_r0) fl_X8_15 rfl (ru_s2 hs hr_r0) ?_
  refine z_iload_n dX8_says_12 rfl 1 rfl ?_
  refine z_NE (i_X11_at (ru_k2 hr_r0) (ru_l2 hr_r0)) ok_X11_at nw_X8_43 ⟨Nat.le_of_ble_eq_true rfl, Nat.le_of_ble_eq_true rfl⟩ ⟨Nat.zero_le _, Nat.zero_le _⟩ rfl rfl (Nat.le_of_ble_eq_true rfl) dX8_says_13 ?_
  refine z_icmp_le (tgt := 23) dX8_says_16 (by decide) (eq_ite hv) (fun hv => ?_) (fun hv => ?_)
  · refine z_iconst dX8_says_19 ?_
    refine z_goto (tgt := 24) dX8_says_20 (by decide) ?_
    exact z_zret (b := true) rfl dX8_says_24 rfl rfl rfl ⟨by first | (rw [hv]; done) | rfl, rfl⟩
  · refine z_iconst dX8_says_23 ?_
    exact z_zret (b := false) rfl dX8_says_24 rfl rfl rfl ⟨by first | (rw [hv]; done) | rfl, rfl⟩
def v_Rules_bounded (a1 : Int64) : Int := if 1000000000 < a1 then 1000000000 else (if a1 < (-1000000000) then (-1000000000) else (w_l2i a1))
theorem i_Rules_bounded {l : Launch} {Γ : Gam} {g : Nat} {μ : Mem} {a1 : Int64} : CT l Γ yX8_bounded cX8_bounded 2 (some .int) 0 0 0 0 [vl a1] g 175 μ (pE (vi (v_Rules_bounded a1)) μ) := by
  refine SW.ct (by decide) (Nat.le_of_ble_eq_true rfl) ?_
  refine z_sub (lv' := [(0, vl a1)]) [0] rfl ?_
  have hv : v_Rules_bounded a1 = v_Rules_bounded a1 := rfl
  refine z_lload_n dX8_bounded_0 rfl 0 rfl ?_
  refine z_ldc2 (v := 1000000000) dX8_bounded_1 cl_X8_55 ?_
  refine z_lcmp_le (tgt := 13) dX8_bounded_4 dX8_bounded_5 (by decide) (eq_ite hv) (fun hv => ?_) (fun hv => ?_)
  · refine z_ldc (x := 1000000000) dX8_bounded_8 cs_X8_57 ?_
    refine z_goto (tgt := 28) dX8_bounded_10 (by decide) ?_
    exact z_iret rfl dX8_bounded_28 rfl rfl rfl ⟨by first | (rw [hv]; done) | rfl, rfl⟩
  · refine z_lload_n dX8_bounded_13 rfl 0 rfl ?_
    refine z_ldc2 (v := (-1000000000)) dX8_bounded_14 cl_X8_58 ?_
    refine z_lcmp_ge (tgt := 26) dX8_bounded_17 dX8_bounded_18 (by decide) (eq_ite hv) (fun hv => ?_) (fun hv => ?_)
    · refine z_ldc (x := (-1000000000)) dX8_bounded_21 cs_X8_60 ?_
      refine z_goto (tgt := 28) dX8_bounded_23 (by decide) ?_
      exact z_iret rfl dX8_bounded_28 rfl rfl rfl ⟨by first | (rw [hv]; done) | rfl, rfl⟩
    · refine z_lload_n dX8_bounded_26 rfl 0 rfl ?_
      refine z_l2i dX8_bounded_27 ?_
      exact z_iret rfl dX8_bounded_28 rfl rfl rfl ⟨by first | (rw [hv]; done) | rfl, rfl⟩
abbrev Y_Rules_joined : Yt := (5, (some .long), yX8_joined.name, { frames := 0, cells := 0, slots := 0, locals := 0 }, 175, 0, 0)
def f_Rules_joined (a1 : Int) (a2 : Int64) (a3 : Int64) (μ : Mem) (k : Int64 → Mem → Prop) : Prop := if w a1 = 2 then (k (a2 + a3) μ) else (if w a1 = 3 then (k (a2 - a3) μ) else (if w a1 = 4 then (k (a2 * a3) μ) else (if w a1 = 5 then (if a3 = 0 then (k 0 μ) else (¬ a3 = 0 ∧ k (a2 / a3) μ)) else (if w a1 = 6 then (∀ x85 : Int64, x85 = (if a2 < a3 then 1 else 0) → k x85 μ) else (if w a1 = 7 then (∀ x97 : Int64, x97 = (if a3 < a2 then 1 else 0) → k x97 μ) else (if w a1 = 8 then (∀ x109 : Int64, x109 = (if a2 = a3 then 1 else 0) → k x109 μ) else (if w a1 = 9 then (k (a2 &&& a3) μ) else (k (a2 ||| a3) μ))))))))
theorem i_Rules_joined {l : Launch} {Γ : Gam} {g : Nat} {a1 : Int} {a2 : Int64} {a3 : Int64} {μ : Mem} {k : Int64 → Mem → Prop} (hs : StatR μ.2.2) (h : f_Rules_joined a1 a2 a3 μ k) : CT l Γ yX8_joined cX8_joined 5 (some .long) 0 0 0 0 [vi a1, vl a2, vl a3] g 175 μ (pL k) := by
  refine SW.ct (by decide) (Nat.le_of_ble_eq_true rfl) ?_
  refine z_sub (lv' := [(0, vi a1), (1, vl a2), (3, vl a3)]) [0, 1, 2] rfl ?_
  show SW l Γ yX8_joined.cls cX8_joined Y_Rules_joined (pL k) g 175 0 0 μ 0 [(0, vi a1), (1, vl a2), (3, vl a3)] []
  unfold f_Rules_joined at h
  refine z_iload_n dX8_joined_0 rfl 0 rfl ?_
  by_cases hc0 : w a1 = 2
  · rw [if_pos hc0] at h
    refine z_tcase (tgt := 48) 2 hc0 dX8_joined_1 (by decide) (by decide) rfl (by decide) ?_
    refine z_lload_n dX8_joined_48 rfl 1 rfl ?_
    refine z_lload_n dX8_joined_49 rfl 2 rfl ?_
    refine z_ladd dX8_joined_50 ?_
    exact z_lret rfl dX8_joined_51 rfl rfl rfl ⟨_, rfl, hs, h⟩
  · rw [if_neg hc0] at h
    by_cases hc1 : w a1 = 3
    · rw [if_pos hc1] at h
      refine z_tcase (tgt := 52) 3 hc1 dX8_joined_1 (by decide) (by decide) rfl (by decide) ?_
      refine z_lload_n dX8_joined_52 rfl 1 rfl ?_
      refine z_lload_n dX8_joined_53 rfl 2 rfl ?_
      refine z_lsub dX8_joined_54 ?_
      exact z_lret rfl dX8_joined_55 rfl rfl rfl ⟨_, rfl, hs, h⟩
    · rw [if_neg hc1] at h
      by_cases hc2 : w a1 = 4
      · rw [if_pos hc2] at h
        refine z_tcase (tgt := 56) 4 hc2 dX8_joined_1 (by decide) (by decide) rfl (by decide) ?_
        refine z_lload_n dX8_joined_56 rfl 1 rfl ?_
        refine z_lload_n dX8_joined_57 rfl 2 rfl ?_
        refine z_lmul dX8_joined_58 ?_
        exact z_lret rfl dX8_joined_59 rfl rfl rfl ⟨_, rfl, hs, h⟩
      · rw [if_neg hc2] at h
        by_cases hc3 : w a1 = 5
        · rw [if_pos hc3] at h
          refine z_tcase (tgt := 60) 5 hc3 dX8_joined_1 (by decide) (by decide) rfl (by decide) ?_
          refine z_lload_n dX8_joined_60 rfl 2 rfl ?_
          refine z_lconst (v := 0) dX8_joined_61 rfl ?_
          refine z_lcmp_ne (tgt := 70) dX8_joined_62 dX8_joined_63 (by decide) h (fun h => ?_) (fun h => ?_)
          · refine z_lconst (v := 0) dX8_joined_66 rfl ?_
            refine z_goto (tgt := 73) dX8_joined_67 (by decide) ?_
            exact z_lret rfl dX8_joined_73 rfl rfl rfl ⟨_, rfl, hs, h⟩
          · refine z_lload_n dX8_joined_70 rfl 1 rfl ?_
            refine z_lload_n dX8_joined_71 rfl 2 rfl ?_
            obtain ⟨h0, h⟩ := h
            refine z_ldiv dX8_joined_72 h0 ?_
            exact z_lret rfl dX8_joined_73 rfl rfl rfl ⟨_, rfl, hs, h⟩
        · rw [if_neg hc3] at h
          by_cases hc4 : w a1 = 6
          · rw [if_pos hc4] at h
            refine z_tcase (tgt := 74) 6 hc4 dX8_joined_1 (by decide) (by decide) rfl (by decide) ?_
            refine z_lload_n dX8_joined_74 rfl 1 rfl ?_
            refine z_lload_n dX8_joined_75 rfl 2 rfl ?_
            refine z_phiL 85 [] (fun V9 hv J9 => ?_) h (fun x85 h => ?_)
            · refine z_lcmp_ge (tgt := 84) dX8_joined_76 dX8_joined_77 (by decide) (eq_ite hv) (fun hv => ?_) (fun hv => ?_)
              · refine z_lconst (v := 1) dX8_joined_80 rfl ?_
                refine z_goto (tgt := 85) dX8_joined_81 (by decide) ?_
                exact J9 _ hv.symm
              · refine z_lconst (v := 0) dX8_joined_84 rfl ?_
                exact J9 _ hv.symm
            · exact z_lret rfl dX8_joined_85 rfl rfl rfl ⟨_, rfl, hs, h⟩
          · rw [if_neg hc4] at h
            by_cases hc5 : w a1 = 7
            · rw [if_pos hc5] at h
              refine z_tcase (tgt := 86) 7 hc5 dX8_joined_1 (by decide) (by decide) rfl (by decide) ?_
              refine z_lload_n dX8_joined_86 rfl 1 rfl ?_
              refine z_lload_n dX8_joined_87 rfl 2 rfl ?_
              refine z_phiL 97 [] (fun V9 hv J9 => ?_) h (fun x97 h => ?_)
              · refine z_lcmp_le (tgt := 96) dX8_joined_88 dX8_joined_89 (by decide) (eq_ite hv) (fun hv => ?_) (fun hv => ?_)
                · refine z_lconst (v := 1) dX8_joined_92 rfl ?_
                  refine z_goto (tgt := 97) dX8_joined_93 (by decide) ?_
                  exact J9 _ hv.symm
                · refine z_lconst (v := 0) dX8_joined_96 rfl ?_
                  exact J9 _ hv.symm
              · exact z_lret rfl dX8_joined_97 rfl rfl rfl ⟨_, rfl, hs, h⟩
            · rw [if_neg hc5] at h
              by_cases hc6 : w a1 = 8
              · rw [if_pos hc6] at h
                refine z_tcase (tgt := 98) 8 hc6 dX8_joined_1 (by decide) (by decide) rfl (by decide) ?_
                refine z_lload_n dX8_joined_98 rfl 1 rfl ?_
                refine z_lload_n dX8_joined_99 rfl 2 rfl ?_
                refine z_phiL 109 [] (fun V9 hv J9 => ?_) h (fun x109 h => ?_)
                · refine z_lcmp_ne (tgt := 108) dX8_joined_100 dX8_joined_101 (by decide) (eq_ite hv) (fun hv => ?_) (fun hv => ?_)
                  · refine z_lconst (v := 1) dX8_joined_104 rfl ?_
                    refine z_goto (tgt := 109) dX8_joined_105 (by decide) ?_
                    exact J9 _ hv.symm
                  · refine z_lconst (v := 0) dX8_joined_108 rfl ?_
                    exact J9 _ hv.symm
                · exact z_lret rfl dX8_joined_109 rfl rfl rfl ⟨_, rfl, hs, h⟩
              · rw [if_neg hc6] at h
                by_cases hc7 : w a1 = 9
                · rw [if_pos hc7] at h
                  refine z_tcase (tgt := 110) 9 hc7 dX8_joined_1 (by decide) (by decide) rfl (by decide) ?_
                  refine z_lload_n dX8_joined_110 rfl 1 rfl ?_
                  refine z_lload_n dX8_joined_111 rfl 2 rfl ?_
                  refine z_land dX8_joined_112 ?_
                  exact z_lret rfl dX8_joined_113 rfl rfl rfl ⟨_, rfl, hs, h⟩
                · rw [if_neg hc7] at h
                  refine z_tdef (tgt := 114) (by omega) dX8_joined_1 (by decide) ?_
                  refine z_lload_n dX8_joined_114 rfl 1 rfl ?_
                  refine z_lload_n dX8_joined_115 rfl 2 rfl ?_
                  refine z_lor dX8_joined_116 ?_
                  exact z_lret rfl dX8_joined_117 rfl rfl rfl ⟨_, rfl, hs, h⟩
abbrev Y_Rules_value : Yt := (9, (some .int), yX8_value.name, { frames := 1, cells := 0, slots := 0, locals := 24 }, 175, 0, 0)
def b_Rules_value_68 (r0 : Nat) (R_23 : Int → Int → Mem → Prop) (v4_1 : Int) (v5_1 : Int) (v6_2 : Int) (v7_1 : Int) (v8_1 : Int) (μ_2 : Mem) : Prop := ∀ x87 : Int, x87 = (if w v7_1 = 0 then v8_1 else (at' μ_2 81 6 v8_1)) → ∀ μ_3 : Mem, μ_3 = set' μ_2 82 32 v4_1 x87 → R_23 (v4_1 + 1) (v6_2 + 1) μ_3
def l_Rules_value_23 (r0 : Nat) (v5 : Int) (X_23_167 : Mem → Prop) : Nat → Int → Int → Mem → Prop
  | 0, _, _, _ => False
  | fu23 + 1, v4, v6_1, μ_1 => if w v6_1 < w v5 then (∀ v7 : Int, v7 = w_iand (at' μ_1 (r0 + 1) 300 v6_1) 15 → ∀ v8 : Int, v8 = w_ishr (at' μ_1 (r0 + 1) 300 v6_1) 4 → if w v7 = 0 then (b_Rules_value_68 r0 (l_Rules_value_23 r0 v5 X_23_167 fu23) v4 v5 v6_1 v7 v8 μ_1) else (if w v7 = w 1 then (b_Rules_value_68 r0 (l_Rules_value_23 r0 v5 X_23_167 fu23) v4 v5 v6_1 v7 v8 μ_1) else (if w v7 = w 11 then (∀ μ_4 : Mem, μ_4 = set' μ_1 82 32 (v4 - 1) (1 - (at' μ_1 82 32 (v4 - 1))) → (l_Rules_value_23 r0 v5 X_23_167 fu23) v4 (v6_1 + 1) μ_4) else (f_Rules_joined v7 (w_i2l (at' μ_1 82 32 (v4 - 2))) (w_i2l (at' μ_1 82 32 (v4 - 1))) μ_1 (fun r149 μ_5 => ∀ μ_6 : Mem, μ_6 = set' μ_5 82 32 (v4 - 2) (v_Rules_bounded r149) → (l_Rules_value_23 r0 v5 X_23_167 fu23) (v4 + (-1)) (v6_1 + 1) μ_6))))) else (X_23_167 μ_1)
def f_Rules_value (r0 : Nat) (a1 : Int) (μ : Mem) (k : Int → Mem → Prop) : Prop := ∀ v5 : Int, v5 = at' μ (r0 + 3) 5 a1 → ∀ v6 : Int, v6 = at' μ (r0 + 2) 5 a1 → ∃ m23 : Nat, l_Rules_value_23 r0 v5 (fun (μ_7 : Mem) => k (at' μ_7 82 32 0) μ_7) m23 0 v6 μ
theorem B_Rules_value_68 {l : Launch} {Γ : Gam} {g : Nat} {r0 : Nat} {R_23 : Int → Int → Mem → Prop} {k : Int → Mem → Prop} {v4_1 : Int} {v5_1 : Int} {v6_2 : Int} {v7_1 : Int} {v8_1 : Int} {μ_2 : Mem} (hr_r0 : isRu r0 = true) (hR_23 : ∀ (u4 : Int) (u6 : Int) (ν : Mem), StatR ν.2.2 → R_23 u4 u6 ν → SW l Γ yX8_value.cls cX8_value Y_Rules_value (pI k) g 175 0 0 ν 23 [(0, vr Γ r0), (2, vr Γ 81), (3, vr Γ 82), (4, vi u4), (5, vi v5_1), (6, vi u6)] []) (hs : StatR μ_2.2.2) (h : b_Rules_value_68 r0 R_23 v4_1 v5_1 v6_2 v7_1 v8_1 μ_2) : SW l Γ yX8_value.cls cX8_value Y_Rules_value (pI k) g 175 0 0 μ_2 68 [(0, vr Γ r0), (2, vr Γ 81), (3, vr Γ 82), (4, vi v4_1), (5, vi v5_1), (6, vi v6_2), (7, vi v7_1), (8, vi v8_1)] [] := by
  unfold b_Rules_value_68 at h
  refine z_rload_n dX8_value_68 rfl 2 rfl ?_
  refine z_iload dX8_value_69 3 rfl ?_
  refine z_iload dX8_value_71 6 rfl ?_
  refine z_phi 87 [vi v4_1, vr Γ 82] (fun V9 hv J9 => ?_) h (fun x87 h => ?_)
  · refine z_if_ne (tgt := 81) dX8_value_73 (by decide) (eq_ite hv) (fun hv => ?_) (fun hv => ?_)
    · refine z_iload dX8_value_76 7 rfl ?_
      refine z_goto (tgt := 87) dX8_value_78 (by decide) ?_
      exact J9 _ hv.symm
    · refine z_rload_n dX8_value_81 rfl 1 rfl ?_
      refine z_iload dX8_value_82 7 rfl ?_
      refine z_NE (i_X11_at kt_81 (Nat.le_of_ble_eq_true rfl)) ok_X11_at nw_X8_43 ⟨Nat.le_of_ble_eq_true rfl, Nat.le_of_ble_eq_true rfl⟩ ⟨Nat.zero_le _, Nat.zero_le _⟩ rfl rfl (Nat.le_of_ble_eq_true rfl) dX8_value_84 ?_
      exact J9 _ hv.symm
  · refine z_NM (i_X11_set kt_82 (Nat.le_of_ble_eq_true rfl)) ok_X11_set nw_X8_39 ⟨Nat.le_of_ble_eq_true rfl, Nat.le_of_ble_eq_true rfl⟩ ⟨Nat.zero_le _, Nat.zero_le _⟩ rfl rfl (Nat.le_of_ble_eq_true rfl) dX8_value_87 ?_
    refine z_mm (fun μ_3 eμ_3 => ?_)
    replace h := h μ_3 eμ_3
    replace hs : StatR μ_3.2.2 := by rw [eμ_3]; exact (StatR.set hs)
    refine z_iinc (j := 3) (lv' := [(4, vi (v4_1 + 1)), (0, vr Γ r0), (2, vr Γ 81), (3, vr Γ 82), (5, vi v5_1), (6, vi v6_2), (7, vi v7_1), (8, vi v8_1)]) dX8_value_90 rfl (Nat.le_of_ble_eq_true rfl) rfl ?_
    refine z_goto (tgt := 161) dX8_value_93 (by decide) ?_
    refine z_iinc (j := 5) (lv' := [(6, vi (v6_2 + 1)), (4, vi (v4_1 + 1)), (0, vr Γ r0), (2, vr Γ 81), (3, vr Γ 82), (5, vi v5_1), (7, vi v7_1), (8, vi v8_1)]) dX8_value_161 rfl (Nat.le_of_ble_eq_true rfl) rfl ?_
    refine z_goto (tgt := 23) dX8_value_164 (by decide) ?_
    refine z_sub (lv' := [(0, vr Γ r0), (2, vr Γ 81), (3, vr Γ 82), (4, vi (v4_1 + 1)), (5, vi v5_1), (6, vi (v6_2 + 1))]) [2, 3, 4, 1, 5, 0] rfl ?_
    exact hR_23 (v4_1 + 1) (v6_2 + 1) μ_3 hs h
theorem L_Rules_value_23 {l : Launch} {Γ : Gam} {g : Nat} {r0 : Nat} {v5 : Int} {X_23_167 : Mem → Prop} {k : Int → Mem → Prop} (hr_r0 : isRu r0 = true) (hX_23_167 : ∀ (ν : Mem), StatR ν.2.2 → X_23_167 ν → SW l Γ yX8_value.cls cX8_value Y_Rules_value (pI k) g 175 0 0 ν 167 [(3, vr Γ 82)] []) (n9 : Nat) : ∀ (v4 : Int) (v6_1 : Int) (μ_1 : Mem), StatR μ_1.2.2 → l_Rules_value_23 r0 v5 X_23_167 n9 v4 v6_1 μ_1 → SW l Γ yX8_value.cls cX8_value Y_Rules_value (pI k) g 175 0 0 μ_1 23 [(0, vr Γ r0), (2, vr Γ 81), (3, vr Γ 82), (4, vi v4), (5, vi v5), (6, vi v6_1)] [] := by
  induction n9 with
  | zero =>
    intro v4 v6_1 μ_1 hs h
    exact h.elim
  | succ n9 hR_23 =>
    intro v4 v6_1 μ_1 hs h
    rw [l_Rules_value_23] at h
    refine z_iload dX8_value_23 5 rfl ?_
    refine z_iload dX8_value_25 4 rfl ?_
    refine z_icmp_ge (tgt := 167) dX8_value_27 (by decide) h (fun h => ?_) (fun h => ?_)
    · refine z_rload_n dX8_value_30 rfl 0 rfl ?_
      refine z_getR ff_8_0 dX8_value_31 (ru_k hr_r0) (ru_l hr_r0) fl_X8_9 rfl (ru_s1 hs hr_r0) ?_
      refine z_iload dX8_value_34 5 rfl ?_
      refine z_NE (i_X11_at (ru_k1 hr_r0) (ru_l1 hr_r0)) ok_X11_at nw_X8_43 ⟨Nat.le_of_ble_eq_true rfl, Nat.le_of_ble_eq_true rfl⟩ ⟨Nat.zero_le _, Nat.zero_le _⟩ rfl rfl (Nat.le_of_ble_eq_true rfl) dX8_value_36 ?_
      refine z_bipush dX8_value_39 (by decide) ?_
      refine z_iand dX8_value_41 ?_
      refine z_nm (fun v7 ev7 => ?_)
      replace h := h v7 ev7
      refine z_istore (lv' := [(7, vi v7), (0, vr Γ r0), (2, vr Γ 81), (3, vr Γ 82), (4, vi v4), (5, vi v5), (6, vi v6_1)]) dX8_value_42 (Nat.le_of_ble_eq_true rfl) rfl ?_
      refine z_rload_n dX8_value_44 rfl 1 rfl ?_
      refine z_getR ff_8_0 dX8_value_45 (ru_k hr_r0) (ru_l hr_r0) fl_X8_9 rfl (ru_s1 hs hr_r0) ?_
      refine z_iload dX8_value_48 6 rfl ?_
      refine z_NE (i_X11_at (ru_k1 hr_r0) (ru_l1 hr_r0)) ok_X11_at nw_X8_43 ⟨Nat.le_of_ble_eq_true rfl, Nat.le_of_ble_eq_true rfl⟩ ⟨Nat.zero_le _, Nat.zero_le _⟩ rfl rfl (Nat.le_of_ble_eq_true rfl) dX8_value_50 ?_
      refine z_iconst dX8_value_53 ?_
      refine z_ishr dX8_value_54 ?_
      refine z_nm (fun v8 ev8 => ?_)
      replace h := h v8 ev8
      refine z_istore (lv' := [(8, vi v8), (7, vi v7), (0, vr Γ r0), (2, vr Γ 81), (3, vr Γ 82), (4, vi v4), (5, vi v5), (6, vi v6_1)]) dX8_value_55 (Nat.le_of_ble_eq_true rfl) rfl ?_
      refine z_iload dX8_value_57 1 rfl ?_
      refine z_if_eq (tgt := 68) dX8_value_59 (by decide) h (fun h => ?_) (fun h => ?_)
      · refine z_sub (lv' := [(0, vr Γ r0), (2, vr Γ 81), (3, vr Γ 82), (4, vi v4), (5, vi v5), (6, vi v6_1), (7, vi v7), (8, vi v8)]) [2, 3, 4, 5, 6, 7, 1, 0] rfl ?_
        exact B_Rules_value_68 hr_r0 hR_23 hs h
      · refine z_iload dX8_value_62 1 rfl ?_
        refine z_iconst dX8_value_64 ?_
        refine z_icmp_ne (tgt := 96) dX8_value_65 (by decide) h (fun h => ?_) (fun h => ?_)
        · refine z_sub (lv' := [(0, vr Γ r0), (2, vr Γ 81), (3, vr Γ 82), (4, vi v4), (5, vi v5), (6, vi v6_1), (7, vi v7), (8, vi v8)]) [2, 3, 4, 5, 6, 7, 1, 0] rfl ?_
          exact B_Rules_value_68 hr_r0 hR_23 hs h
        · refine z_iload dX8_value_96 1 rfl ?_
          refine z_bipush dX8_value_98 (by decide) ?_
          refine z_icmp_ne (tgt := 124) dX8_value_100 (by decide) h (fun h => ?_) (fun h => ?_)
          · refine z_rload_n dX8_value_103 rfl 4 rfl ?_
            refine z_iload dX8_value_104 5 rfl ?_
            refine z_iconst dX8_value_106 ?_
            refine z_isub dX8_value_107 ?_
            refine z_iconst dX8_value_108 ?_
            refine z_rload_n dX8_value_109 rfl 4 rfl ?_
            refine z_iload dX8_value_110 5 rfl ?_
            refine z_iconst dX8_value_112 ?_
            refine z_isub dX8_value_113 ?_
            refine z_NE (i_X11_at kt_82 (Nat.le_of_ble_eq_true rfl)) ok_X11_at nw_X8_43 ⟨Nat.le_of_ble_eq_true rfl, Nat.le_of_ble_eq_true rfl⟩ ⟨Nat.zero_le _, Nat.zero_le _⟩ rfl rfl (Nat.le_of_ble_eq_true rfl) dX8_value_114 ?_
            refine z_isub dX8_value_117 ?_
            refine z_NM (i_X11_set kt_82 (Nat.le_of_ble_eq_true rfl)) ok_X11_set nw_X8_39 ⟨Nat.le_of_ble_eq_true rfl, Nat.le_of_ble_eq_true rfl⟩ ⟨Nat.zero_le _, Nat.zero_le _⟩ rfl rfl (Nat.le_of_ble_eq_true rfl) dX8_value_118 ?_
            refine z_mm (fun μ_4 eμ_4 => ?_)
            replace h := h μ_4 eμ_4
            replace hs : StatR μ_4.2.2 := by rw [eμ_4]; exact (StatR.set hs)
            refine z_goto (tgt := 161) dX8_value_121 (by decide) ?_
            refine z_iinc (j := 7) (lv' := [(6, vi (v6_1 + 1)), (8, vi v8), (7, vi v7), (0, vr Γ r0), (2, vr Γ 81), (3, vr Γ 82), (4, vi v4), (5, vi v5)]) dX8_value_161 rfl (Nat.le_of_ble_eq_true rfl) rfl ?_
            refine z_goto (tgt := 23) dX8_value_164 (by decide) ?_
            refine z_sub (lv' := [(0, vr Γ r0), (2, vr Γ 81), (3, vr Γ 82), (4, vi v4), (5, vi v5), (6, vi (v6_1 + 1))]) [3, 4, 5, 6, 7, 0] rfl ?_
            exact hR_23 v4 (v6_1 + 1) μ_4 hs h
          · refine z_rload_n dX8_value_124 rfl 4 rfl ?_
            refine z_iload dX8_value_125 5 rfl ?_
            refine z_iconst dX8_value_127 ?_
            refine z_isub dX8_value_128 ?_
            refine z_iload dX8_value_129 1 rfl ?_
            refine z_rload_n dX8_value_131 rfl 4 rfl ?_
            refine z_iload dX8_value_132 5 rfl ?_
            refine z_iconst dX8_value_134 ?_
            refine z_isub dX8_value_135 ?_
            refine z_NE (i_X11_at kt_82 (Nat.le_of_ble_eq_true rfl)) ok_X11_at nw_X8_43 ⟨Nat.le_of_ble_eq_true rfl, Nat.le_of_ble_eq_true rfl⟩ ⟨Nat.zero_le _, Nat.zero_le _⟩ rfl rfl (Nat.le_of_ble_eq_true rfl) dX8_value_136 ?_
            refine z_i2l dX8_value_139 ?_
            refine z_rload_n dX8_value_140 rfl 4 rfl ?_
            refine z_iload dX8_value_141 5 rfl ?_
            refine z_iconst dX8_value_143 ?_
            refine z_isub dX8_value_144 ?_
            refine z_NE (i_X11_at kt_82 (Nat.le_of_ble_eq_true rfl)) ok_X11_at nw_X8_43 ⟨Nat.le_of_ble_eq_true rfl, Nat.le_of_ble_eq_true rfl⟩ ⟨Nat.zero_le _, Nat.zero_le _⟩ rfl rfl (Nat.le_of_ble_eq_true rfl) dX8_value_145 ?_
            refine z_i2l dX8_value_148 ?_
            refine z_SL (i_Rules_joined  hs h) sk_X8_joined ml_X8_47 ⟨Nat.le_of_ble_eq_true rfl, Nat.le_of_ble_eq_true rfl⟩ ⟨Nat.zero_le _, Nat.zero_le _⟩ rfl rfl (Nat.le_of_ble_eq_true rfl) dX8_value_149 (fun r149 μ_5 hs h => ?_)
            refine z_SE (i_Rules_bounded ) sk_X8_bounded ml_X8_51 ⟨Nat.le_of_ble_eq_true rfl, Nat.le_of_ble_eq_true rfl⟩ ⟨Nat.zero_le _, Nat.zero_le _⟩ rfl rfl (Nat.le_of_ble_eq_true rfl) dX8_value_152 ?_
            refine z_NM (i_X11_set kt_82 (Nat.le_of_ble_eq_true rfl)) ok_X11_set nw_X8_39 ⟨Nat.le_of_ble_eq_true rfl, Nat.le_of_ble_eq_true rfl⟩ ⟨Nat.zero_le _, Nat.zero_le _⟩ rfl rfl (Nat.le_of_ble_eq_true rfl) dX8_value_155 ?_
            refine z_mm (fun μ_6 eμ_6 => ?_)
            replace h := h μ_6 eμ_6
            replace hs : StatR μ_6.2.2 := by rw [eμ_6]; exact (StatR.set hs)
            refine z_iinc (j := 5) (lv' := [(4, vi (v4 + (-1))), (8, vi v8), (7, vi v7), (0, vr Γ r0), (2, vr Γ 81), (3, vr Γ 82), (5, vi v5), (6, vi v6_1)]) dX8_value_158 rfl (Nat.le_of_ble_eq_true rfl) rfl ?_
            refine z_iinc (j := 7) (lv' := [(6, vi (v6_1 + 1)), (4, vi (v4 + (-1))), (8, vi v8), (7, vi v7), (0, vr Γ r0), (2, vr Γ 81), (3, vr Γ 82), (5, vi v5)]) dX8_value_161 rfl (Nat.le_of_ble_eq_true rfl) rfl ?_
            refine z_goto (tgt := 23) dX8_value_164 (by decide) ?_
            refine z_sub (lv' := [(0, vr Γ r0), (2, vr Γ 81), (3, vr Γ 82), (4, vi (v4 + (-1))), (5, vi v5), (6, vi (v6_1 + 1))]) [4, 5, 6, 1, 7, 0] rfl ?_
            exact hR_23 (v4 + (-1)) (v6_1 + 1) μ_6 hs h
    · refine z_sub (lv' := [(3, vr Γ 82)]) [2] rfl ?_
      exact hX_23_167 μ_1 hs h
theorem i_Rules_value {l : Launch} {Γ : Gam} {g : Nat} {r0 : Nat} {a1 : Int} {μ : Mem} {k : Int → Mem → Prop} (hr_r0 : isRu r0 = true) (hs : StatR μ.2.2) (h : f_Rules_value r0 a1 μ k) : CT l Γ yX8_value cX8_value 9 (some .int) 1 24 0 0 [vr Γ r0, vi a1, vr Γ 81, vr Γ 82] g 175 μ (pI k) := by
  refine SW.ct (by decide) (Nat.le_of_ble_eq_true rfl) ?_
  refine z_sub (lv' := [(0, vr Γ r0), (1, vi a1), (2, vr Γ 81), (3, vr Γ 82)]) [0, 1, 2, 3] rfl ?_
  show SW l Γ yX8_value.cls cX8_value Y_Rules_value (pI k) g 175 0 0 μ 0 [(0, vr Γ r0), (1, vi a1), (2, vr Γ 81), (3, vr Γ 82)] []
  unfold f_Rules_value at h
  refine z_iconst dX8_value_0 ?_
  refine z_istore (lv' := [(4, vi 0), (0, vr Γ r0), (1, vi a1), (2, vr Γ 81), (3, vr Γ 82)]) dX8_value_1 (Nat.le_of_ble_eq_true rfl) rfl ?_
  refine z_rload_n dX8_value_3 rfl 1 rfl ?_
  refine z_getR ff_8_2 dX8_value_4 (ru_k hr_r0) (ru_l hr_r0) fl_X8_18 rfl (ru_s3 hs hr_r0) ?_
  refine z_iload_n dX8_value_7 rfl 2 rfl ?_
  refine z_NE (i_X11_at (ru_k3 hr_r0) (ru_l3 hr_r0)) ok_X11_at nw_X8_43 ⟨Nat.le_of_ble_eq_true rfl, Nat.le_of_ble_eq_true rfl⟩ ⟨Nat.zero_le _, Nat.zero_le _⟩ rfl rfl (Nat.le_of_ble_eq_true rfl) dX8_value_8 ?_
  refine z_nm (fun v5 ev5 => ?_)
  replace h := h v5 ev5
  refine z_istore (lv' := [(5, vi v5), (4, vi 0), (0, vr Γ r0), (1, vi a1), (2, vr Γ 81), (3, vr Γ 82)]) dX8_value_11 (Nat.le_of_ble_eq_true rfl) rfl ?_
  refine z_rload_n dX8_value_13 rfl 2 rfl ?_
  refine z_getR ff_8_1 dX8_value_14 (ru_k hr_r0) (ru_l hr_r0) fl_X8_15 rfl (ru_s2 hs hr_r0) ?_
  refine z_iload_n dX8_value_17 rfl 3 rfl ?_
  refine z_NE (i_X11_at (ru_k2 hr_r0) (ru_l2 hr_r0)) ok_X11_at nw_X8_43 ⟨Nat.le_of_ble_eq_true rfl, Nat.le_of_ble_eq_true rfl⟩ ⟨Nat.zero_le _, Nat.zero_le _⟩ rfl rfl (Nat.le_of_ble_eq_true rfl) dX8_value_18 ?_
  refine z_nm (fun v6 ev6 => ?_)
  replace h := h v6 ev6
  refine z_istore (lv' := [(6, vi v6), (5, vi v5), (4, vi 0), (0, vr Γ r0), (1, vi a1), (2, vr Γ 81), (3, vr Γ 82)]) dX8_value_21 (Nat.le_of_ble_eq_true rfl) rfl ?_
  obtain ⟨m23, h⟩ := h
  refine z_sub (lv' := [(0, vr Γ r0), (2, vr Γ 81), (3, vr Γ 82), (4, vi 0), (5, vi v5), (6, vi v6)]) [3, 5, 6, 2, 1, 0] rfl ?_
  refine L_Rules_value_23 hr_r0 (fun μ_7 hs h => ?_) m23 0 v6 μ hs h
  refine z_rload_n dX8_value_167 rfl 0 rfl ?_
  refine z_iconst dX8_value_168 ?_
  refine z_NE (i_X11_at kt_82 (Nat.le_of_ble_eq_true rfl)) ok_X11_at nw_X8_43 ⟨Nat.le_of_ble_eq_true rfl, Nat.le_of_ble_eq_true rfl⟩ ⟨Nat.zero_le _, Nat.zero_le _⟩ rfl rfl (Nat.le_of_ble_eq_true rfl) dX8_value_169 ?_
  exact z_iret rfl dX8_value_172 rfl rfl rfl ⟨_, rfl, hs, h⟩
abbrev Y_Count_takesLate : Yt := (5, (some .boolean), yX2_takesLate.name, { frames := 2, cells := 0, slots := 0, locals := 52 }, 175, 0, 0)
def f_Count_takesLate (a1 : Nat) (a2 : Int) (a3 : Int) (a4 : Int) (μ : Mem) (k : Bool → Mem → Prop) : Prop := f_Count_paidHeadsOf a2 (rI μ (gid a1 4) 0) μ (fun r11 μ_1 => ∀ μ_2 : Mem, μ_2 = set' μ_1 81 6 0 r11 → ∀ μ_3 : Mem, μ_3 = set' μ_2 81 6 1 a3 → ∀ μ_4 : Mem, μ_4 = set' μ_3 81 6 2 a4 → if (v_Rules_says a1 4 μ_4) = true then (f_Rules_value a1 4 μ_4 (fun r54 μ_5 => ∀ x65 : Bool, x65 = (if w r54 = 0 then false else true) → k x65 μ_5)) else (k false μ_4))
theorem i_Count_takesLate {l : Launch} {Γ : Gam} {g : Nat} {a1 : Nat} {a2 : Int} {a3 : Int} {a4 : Int} {μ : Mem} {k : Bool → Mem → Prop} (hr_a1 : isRu a1 = true) (hs : StatR μ.2.2) (h : f_Count_takesLate a1 a2 a3 a4 μ k) : CT l Γ yX2_takesLate cX2_takesLate 5 (some .boolean) 2 52 0 0 [vr Γ 73, vr Γ a1, vi a2, vi a3, vi a4] g 175 μ (pB k) := by
  refine SW.ct (by decide) (Nat.le_of_ble_eq_true rfl) ?_
  refine z_sub (lv' := [(0, vr Γ 73), (1, vr Γ a1), (2, vi a2), (3, vi a3), (4, vi a4)]) [0, 1, 2, 3, 4] rfl ?_
  show SW l Γ yX2_takesLate.cls cX2_takesLate Y_Count_takesLate (pB k) g 175 0 0 μ 0 [(0, vr Γ 73), (1, vr Γ a1), (2, vi a2), (3, vi a3), (4, vi a4)] []
  unfold f_Count_takesLate at h
  refine z_rload_n dX2_takesLate_0 rfl 0 rfl ?_
  refine z_getR (q := 10352) ff_2_8 dX2_takesLate_1 kt_73 (Nat.le_of_ble_eq_true rfl) fl_X2_34 rfl (hs.1 _ _ sr_10352) ?_
  refine z_iconst dX2_takesLate_4 ?_
  refine z_rload_n dX2_takesLate_5 rfl 0 rfl ?_
  refine z_iload_n dX2_takesLate_6 rfl 2 rfl ?_
  refine z_rload_n dX2_takesLate_7 rfl 1 rfl ?_
  refine z_getI (q := (gid a1 4)) ff_8_4 dX2_takesLate_8 (ru_k hr_a1) (ru_l hr_a1) fl_X2_108 rfl ?_
  refine z_VI (i_Count_paidHeadsOf  hs h) vk_X2_paidHeadsOf kt_73 (Nat.le_of_ble_eq_true rfl) rfl ml_X2_111 ⟨Nat.le_of_ble_eq_true rfl, Nat.le_of_ble_eq_true rfl⟩ ⟨Nat.zero_le _, Nat.zero_le _⟩ rfl rfl (Nat.le_of_ble_eq_true rfl) dX2_takesLate_11 (fun r11 μ_1 hs h => ?_)
  refine z_NM (i_X11_set kt_81 (Nat.le_of_ble_eq_true rfl)) ok_X11_set nw_X2_74 ⟨Nat.le_of_ble_eq_true rfl, Nat.le_of_ble_eq_true rfl⟩ ⟨Nat.zero_le _, Nat.zero_le _⟩ rfl rfl (Nat.le_of_ble_eq_true rfl) dX2_takesLate_14 ?_
  refine z_mm (fun μ_2 eμ_2 => ?_)
  replace h := h μ_2 eμ_2
  replace hs : StatR μ_2.2.2 := by rw [eμ_2]; exact (StatR.set hs)
  refine z_rload_n dX2_takesLate_17 rfl 0 rfl ?_
  refine z_getR (q := 10352) ff_2_8 dX2_takesLate_18 kt_73 (Nat.le_of_ble_eq_true rfl) fl_X2_34 rfl (hs.1 _ _ sr_10352) ?_
  refine z_iconst dX2_takesLate_21 ?_
  refine z_iload_n dX2_takesLate_22 rfl 3 rfl ?_
  refine z_NM (i_X11_set kt_81 (Nat.le_of_ble_eq_true rfl)) ok_X11_set nw_X2_74 ⟨Nat.le_of_ble_eq_true rfl, Nat.le_of_ble_eq_true rfl⟩ ⟨Nat.zero_le _, Nat.zero_le _⟩ rfl rfl (Nat.le_of_ble_eq_true rfl) dX2_takesLate_23 ?_
  refine z_mm (fun μ_3 eμ_3 => ?_)
  replace h := h μ_3 eμ_3
  replace hs : StatR μ_3.2.2 := by rw [eμ_3]; exact (StatR.set hs)
  refine z_rload_n dX2_takesLate_26 rfl 0 rfl ?_
  refine z_getR (q := 10352) ff_2_8 dX2_takesLate_27 kt_73 (Nat.le_of_ble_eq_true rfl) fl_X2_34 rfl (hs.1 _ _ sr_10352) ?_
  refine z_iconst dX2_takesLate_30 ?_
  refine z_iload dX2_takesLate_31 4 rfl ?_
  refine z_NM (i_X11_set kt_81 (Nat.le_of_ble_eq_true rfl)) ok_X11_set nw_X2_74 ⟨Nat.le_of_ble_eq_true rfl, Nat.le_of_ble_eq_true rfl⟩ ⟨Nat.zero_le _, Nat.zero_le _⟩ rfl rfl (Nat.le_of_ble_eq_true rfl) dX2_takesLate_33 ?_
  refine z_mm (fun μ_4 eμ_4 => ?_)
  replace h := h μ_4 eμ_4
  replace hs : StatR μ_4.2.2 := by rw [eμ_4]; exact (StatR.set hs)
  refine z_rload_n dX2_takesLate_36 rfl 1 rfl ?_
  refine z_iconst dX2_takesLate_37 ?_
  refine z_VE (i_Rules_says hr_a1 hs) vk_X8_says (ru_k hr_a1) (ru_l hr_a1) rfl ml_X2_114 ⟨Nat.le_of_ble_eq_true rfl, Nat.le_of_ble_eq_true rfl⟩ ⟨Nat.zero_le _, Nat.zero_le _⟩ rfl rfl (Nat.le_of_ble_eq_true rfl) dX2_takesLate_38 ?_
  refine z_ifeq_b (tgt := 64) dX2_takesLate_41 (by decide) h (fun h => ?_) (fun h => ?_)
  · refine z_rload_n dX2_takesLate_44 rfl 1 rfl ?_
    refine z_iconst dX2_takesLate_45 ?_
    refine z_rload_n dX2_takesLate_46 rfl 0 rfl ?_
    refine z_getR (q := 10352) ff_2_8 dX2_takesLate_47 kt_73 (Nat.le_of_ble_eq_true rfl) fl_X2_34 rfl (hs.1 _ _ sr_10352) ?_
    refine z_rload_n dX2_takesLate_50 rfl 0 rfl ?_
    refine z_getR (q := 10353) ff_2_9 dX2_takesLate_51 kt_73 (Nat.le_of_ble_eq_true rfl) fl_X2_39 rfl (hs.1 _ _ sr_10353) ?_
    refine z_VI (i_Rules_value hr_a1 hs h) vk_X8_value (ru_k hr_a1) (ru_l hr_a1) rfl ml_X2_127 ⟨Nat.le_of_ble_eq_true rfl, Nat.le_of_ble_eq_true rfl⟩ ⟨Nat.zero_le _, Nat.zero_le _⟩ rfl rfl (Nat.le_of_ble_eq_true rfl) dX2_takesLate_54 (fun r54 μ_5 hs h => ?_)
    refine z_phiB 65 [] (fun V9 hv J9 => ?_) h (fun x65 h => ?_)
    · refine z_if_eq (tgt := 64) dX2_takesLate_57 (by decide) (eq_ite hv) (fun hv => ?_) (fun hv => ?_)
      · refine z_iconst dX2_takesLate_64 ?_
        exact J9 false hv.symm
      · refine z_iconst dX2_takesLate_60 ?_
        refine z_goto (tgt := 65) dX2_takesLate_61 (by decide) ?_
        exact J9 true hv.symm
    · exact z_zret (b := x65) rfl dX2_takesLate_65 rfl rfl rfl ⟨_, rfl, hs, h⟩
  · refine z_iconst dX2_takesLate_64 ?_
    exact z_zret (b := false) rfl dX2_takesLate_65 rfl rfl rfl ⟨_, rfl, hs, h⟩
abbrev Y_H_isTakenLate : Yt := (3, (some .boolean), yX11_isTakenLate.name, { frames := 4, cells := 0, slots := 0, locals := 89 }, 175, 0, 0)
def f_H_isTakenLate (a1 : Int) (a2 : Int) (μ : Mem) (k : Bool → Mem → Prop) : Prop := f_Count_take (-1) (rI μ 1139 0) μ (fun μ_1 => f_Papers_inForce (rI μ_1 9584 0) μ_1 (fun r30 μ_2 => isRu r30 = true ∧ f_Count_takesLate r30 a1 a2 (rI μ_2 1139 0) μ_2 (fun r42 μ_3 => k r42 μ_3)))
theorem i_H_isTakenLate {l : Launch} {Γ : Gam} {g : Nat} {a1 : Int} {a2 : Int} {μ : Mem} {k : Bool → Mem → Prop} (hs : StatR μ.2.2) (h : f_H_isTakenLate a1 a2 μ k) : CT l Γ yX11_isTakenLate cX11_isTakenLate 3 (some .boolean) 4 89 0 0 [vr Γ 0, vi a1, vi a2] g 175 μ (pB k) := by
  refine SW.ct (by decide) (Nat.le_of_ble_eq_true rfl) ?_
  refine z_sub (lv' := [(0, vr Γ 0), (1, vi a1), (2, vi a2)]) [0, 1, 2] rfl ?_
  show SW l Γ yX11_isTakenLate.cls cX11_isTakenLate Y_H_isTakenLate (pB k) g 175 0 0 μ 0 [(0, vr Γ 0), (1, vi a1), (2, vi a2)] []
  unfold f_H_isTakenLate at h
  refine z_rload_n dX11_isTakenLate_0 rfl 0 rfl ?_
  refine z_getR (q := 1006) ff_11_6 dX11_isTakenLate_1 kt_0 (Nat.le_of_ble_eq_true rfl) fl_X11_66 rfl (hs.1 _ _ sr_1006) ?_
  refine z_iconst dX11_isTakenLate_4 ?_
  refine z_rload_n dX11_isTakenLate_5 rfl 0 rfl ?_
  refine z_getR (q := 1000) ff_11_0 dX11_isTakenLate_6 kt_0 (Nat.le_of_ble_eq_true rfl) fl_X11_12 rfl (hs.1 _ _ sr_1000) ?_
  refine z_getI (q := 1139) ff_7_11 dX11_isTakenLate_9 kt_1 (Nat.le_of_ble_eq_true rfl) fl_X11_139 rfl ?_
  refine z_VU (i_Count_take  hs h) vk_X2_take kt_73 (Nat.le_of_ble_eq_true rfl) rfl ml_X11_142 ⟨Nat.le_of_ble_eq_true rfl, Nat.le_of_ble_eq_true rfl⟩ ⟨Nat.zero_le _, Nat.zero_le _⟩ rfl rfl (Nat.le_of_ble_eq_true rfl) dX11_isTakenLate_12 (fun μ_1 hs h => ?_)
  refine z_rload_n dX11_isTakenLate_15 rfl 0 rfl ?_
  refine z_getR (q := 1006) ff_11_6 dX11_isTakenLate_16 kt_0 (Nat.le_of_ble_eq_true rfl) fl_X11_66 rfl (hs.1 _ _ sr_1006) ?_
  refine z_rload_n dX11_isTakenLate_19 rfl 0 rfl ?_
  refine z_getR (q := 1004) ff_11_4 dX11_isTakenLate_20 kt_0 (Nat.le_of_ble_eq_true rfl) fl_X11_26 rfl (hs.1 _ _ sr_1004) ?_
  refine z_rload_n dX11_isTakenLate_23 rfl 0 rfl ?_
  refine z_getR (q := 1005) ff_11_5 dX11_isTakenLate_24 kt_0 (Nat.le_of_ble_eq_true rfl) fl_X11_57 rfl (hs.1 _ _ sr_1005) ?_
  refine z_getI (q := 9584) ff_3_8 dX11_isTakenLate_27 kt_67 (Nat.le_of_ble_eq_true rfl) fl_X11_125 rfl ?_
  refine z_VA (i_Papers_inForce  hs h) vk_X6_inForce kt_12 (Nat.le_of_ble_eq_true rfl) rfl ml_X11_129 ⟨Nat.le_of_ble_eq_true rfl, Nat.le_of_ble_eq_true rfl⟩ ⟨Nat.zero_le _, Nat.zero_le _⟩ rfl rfl (Nat.le_of_ble_eq_true rfl) dX11_isTakenLate_30 (fun r30 μ_2 hs h => ?_)
  obtain ⟨hr_r30, h⟩ := h
  refine z_iload_n dX11_isTakenLate_33 rfl 1 rfl ?_
  refine z_iload_n dX11_isTakenLate_34 rfl 2 rfl ?_
  refine z_rload_n dX11_isTakenLate_35 rfl 0 rfl ?_
  refine z_getR (q := 1000) ff_11_0 dX11_isTakenLate_36 kt_0 (Nat.le_of_ble_eq_true rfl) fl_X11_12 rfl (hs.1 _ _ sr_1000) ?_
  refine z_getI (q := 1139) ff_7_11 dX11_isTakenLate_39 kt_1 (Nat.le_of_ble_eq_true rfl) fl_X11_139 rfl ?_
  refine z_VB (i_Count_takesLate hr_r30 hs h) vk_X2_takesLate kt_73 (Nat.le_of_ble_eq_true rfl) rfl ml_X11_218 ⟨Nat.le_of_ble_eq_true rfl, Nat.le_of_ble_eq_true rfl⟩ ⟨Nat.zero_le _, Nat.zero_le _⟩ rfl rfl (Nat.le_of_ble_eq_true rfl) dX11_isTakenLate_42 (fun r42 μ_3 hs h => ?_)
  exact z_zret (b := r42) rfl dX11_isTakenLate_45 rfl rfl rfl ⟨_, rfl, hs, h⟩
