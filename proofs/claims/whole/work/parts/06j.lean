abbrev Y_Chair_wouldPass : Yt := (4, (some .boolean), yX0_wouldPass.name, { frames := 4, cells := 0, slots := 0, locals := 98 }, 175, 0, 0)
def f_Chair_wouldPass (a1 : Int) (a2 : Int) (μ : Mem) (k : Bool → Mem → Prop) : Prop := f_Papers_inForce (rI μ 9584 0) μ (fun r11 μ_1 => isRu r11 = true ∧ f_Count_take a1 (rI μ_1 1139 0) μ_1 (fun μ_2 => if w a2 = w 3 then (f_Count_sumUpBranches  μ_2 (fun μ_3 => f_Floor_against a1 μ_3 (fun r76 μ_4 => f_Count_passes r11 (v_H_kindOf a1) r76 (rI μ_4 1139 0) μ_4 (fun r86 μ_5 => k r86 μ_5)))) else (f_Count_weigh r11 a2 μ_2 (fun μ_6 => f_Count_sumUp (-1) μ_6 (fun μ_7 => f_Floor_against a1 μ_7 (fun r76_1 μ_8 => f_Count_passes r11 (v_H_kindOf a1) r76_1 (rI μ_8 1139 0) μ_8 (fun r86_1 μ_9 => k r86_1 μ_9)))))))
theorem i_Chair_wouldPass {l : Launch} {Γ : Gam} {g : Nat} {a1 : Int} {a2 : Int} {μ : Mem} {k : Bool → Mem → Prop} (hs : StatR μ.2.2) (h : f_Chair_wouldPass a1 a2 μ k) : CT l Γ yX0_wouldPass cX0_wouldPass 4 (some .boolean) 4 98 0 0 [vr Γ 83, vi a1, vi a2] g 175 μ (pB k) := by
  refine SW.ct (by decide) (Nat.le_of_ble_eq_true rfl) ?_
  refine z_sub (lv' := [(0, vr Γ 83), (1, vi a1), (2, vi a2)]) [0, 1, 2] rfl ?_
  show SW l Γ yX0_wouldPass.cls cX0_wouldPass Y_Chair_wouldPass (pB k) g 175 0 0 μ 0 [(0, vr Γ 83), (1, vi a1), (2, vi a2)] []
  unfold f_Chair_wouldPass at h
  refine z_rload_n dX0_wouldPass_0 rfl 0 rfl ?_
  refine z_getR (q := 11625) ff_0_1 dX0_wouldPass_1 kt_83 (Nat.le_of_ble_eq_true rfl) fl_X0_19 rfl (hs.1 _ _ sr_11625) ?_
  refine z_rload_n dX0_wouldPass_4 rfl 0 rfl ?_
  refine z_getR (q := 11626) ff_0_2 dX0_wouldPass_5 kt_83 (Nat.le_of_ble_eq_true rfl) fl_X0_23 rfl (hs.1 _ _ sr_11626) ?_
  refine z_getI (q := 9584) ff_3_8 dX0_wouldPass_8 kt_67 (Nat.le_of_ble_eq_true rfl) fl_X0_87 rfl ?_
  refine z_VA (i_Papers_inForce  hs h) vk_X6_inForce kt_12 (Nat.le_of_ble_eq_true rfl) rfl ml_X0_90 ⟨Nat.le_of_ble_eq_true rfl, Nat.le_of_ble_eq_true rfl⟩ ⟨Nat.zero_le _, Nat.zero_le _⟩ rfl rfl (Nat.le_of_ble_eq_true rfl) dX0_wouldPass_11 (fun r11 μ_1 hs h => ?_)
  obtain ⟨hr_r11, h⟩ := h
  refine z_rstore_n (lv' := [(3, vr Γ r11), (0, vr Γ 83), (1, vi a1), (2, vi a2)]) dX0_wouldPass_14 rfl (Nat.le_of_ble_eq_true rfl) rfl ?_
  refine z_rload_n dX0_wouldPass_15 rfl 1 rfl ?_
  refine z_getR (q := 11628) ff_0_4 dX0_wouldPass_16 kt_83 (Nat.le_of_ble_eq_true rfl) fl_X0_27 rfl (hs.1 _ _ sr_11628) ?_
  refine z_iload_n dX0_wouldPass_19 rfl 2 rfl ?_
  refine z_rload_n dX0_wouldPass_20 rfl 1 rfl ?_
  refine z_getR (q := 11624) ff_0_0 dX0_wouldPass_21 kt_83 (Nat.le_of_ble_eq_true rfl) fl_X0_15 rfl (hs.1 _ _ sr_11624) ?_
  refine z_getI (q := 1139) ff_7_11 dX0_wouldPass_24 kt_1 (Nat.le_of_ble_eq_true rfl) fl_X0_62 rfl ?_
  refine z_VU (i_Count_take  hs h) vk_X2_take kt_73 (Nat.le_of_ble_eq_true rfl) rfl ml_X0_78 ⟨Nat.le_of_ble_eq_true rfl, Nat.le_of_ble_eq_true rfl⟩ ⟨Nat.zero_le _, Nat.zero_le _⟩ rfl rfl (Nat.le_of_ble_eq_true rfl) dX0_wouldPass_27 (fun μ_2 hs h => ?_)
  refine z_iload_n dX0_wouldPass_30 rfl 3 rfl ?_
  refine z_iconst dX0_wouldPass_31 ?_
  refine z_icmp_ne (tgt := 45) dX0_wouldPass_32 (by decide) h (fun h => ?_) (fun h => ?_)
  · refine z_rload_n dX0_wouldPass_35 rfl 1 rfl ?_
    refine z_getR (q := 11628) ff_0_4 dX0_wouldPass_36 kt_83 (Nat.le_of_ble_eq_true rfl) fl_X0_27 rfl (hs.1 _ _ sr_11628) ?_
    refine z_VU (i_Count_sumUpBranches  hs h) vk_X2_sumUpBranches kt_73 (Nat.le_of_ble_eq_true rfl) rfl ml_X0_158 ⟨Nat.le_of_ble_eq_true rfl, Nat.le_of_ble_eq_true rfl⟩ ⟨Nat.zero_le _, Nat.zero_le _⟩ rfl rfl (Nat.le_of_ble_eq_true rfl) dX0_wouldPass_39 (fun μ_3 hs h => ?_)
    refine z_goto (tgt := 62) dX0_wouldPass_42 (by decide) ?_
    refine z_rload_n dX0_wouldPass_62 rfl 1 rfl ?_
    refine z_getR (q := 11628) ff_0_4 dX0_wouldPass_63 kt_83 (Nat.le_of_ble_eq_true rfl) fl_X0_27 rfl (hs.1 _ _ sr_11628) ?_
    refine z_rload_n dX0_wouldPass_66 rfl 0 rfl ?_
    refine z_iload_n dX0_wouldPass_67 rfl 2 rfl ?_
    refine z_NE (i_H_kindOf ) sk_X11_kindOf nw_X0_107 ⟨Nat.le_of_ble_eq_true rfl, Nat.le_of_ble_eq_true rfl⟩ ⟨Nat.zero_le _, Nat.zero_le _⟩ rfl rfl (Nat.le_of_ble_eq_true rfl) dX0_wouldPass_68 ?_
    refine z_rload_n dX0_wouldPass_71 rfl 1 rfl ?_
    refine z_getR (q := 11626) ff_0_2 dX0_wouldPass_72 kt_83 (Nat.le_of_ble_eq_true rfl) fl_X0_23 rfl (hs.1 _ _ sr_11626) ?_
    refine z_iload_n dX0_wouldPass_75 rfl 2 rfl ?_
    refine z_VI (i_Floor_against  hs h) vk_X3_against kt_67 (Nat.le_of_ble_eq_true rfl) rfl ml_X0_110 ⟨Nat.le_of_ble_eq_true rfl, Nat.le_of_ble_eq_true rfl⟩ ⟨Nat.zero_le _, Nat.zero_le _⟩ rfl rfl (Nat.le_of_ble_eq_true rfl) dX0_wouldPass_76 (fun r76 μ_4 hs h => ?_)
    refine z_rload_n dX0_wouldPass_79 rfl 1 rfl ?_
    refine z_getR (q := 11624) ff_0_0 dX0_wouldPass_80 kt_83 (Nat.le_of_ble_eq_true rfl) fl_X0_15 rfl (hs.1 _ _ sr_11624) ?_
    refine z_getI (q := 1139) ff_7_11 dX0_wouldPass_83 kt_1 (Nat.le_of_ble_eq_true rfl) fl_X0_62 rfl ?_
    refine z_VB (i_Count_passes hr_r11 hs h) vk_X2_passes kt_73 (Nat.le_of_ble_eq_true rfl) rfl ml_X0_113 ⟨Nat.le_of_ble_eq_true rfl, Nat.le_of_ble_eq_true rfl⟩ ⟨Nat.zero_le _, Nat.zero_le _⟩ rfl rfl (Nat.le_of_ble_eq_true rfl) dX0_wouldPass_86 (fun r86 μ_5 hs h => ?_)
    exact z_zret (b := r86) rfl dX0_wouldPass_89 rfl rfl rfl ⟨_, rfl, hs, h⟩
  · refine z_rload_n dX0_wouldPass_45 rfl 1 rfl ?_
    refine z_getR (q := 11628) ff_0_4 dX0_wouldPass_46 kt_83 (Nat.le_of_ble_eq_true rfl) fl_X0_27 rfl (hs.1 _ _ sr_11628) ?_
    refine z_rload_n dX0_wouldPass_49 rfl 0 rfl ?_
    refine z_iload_n dX0_wouldPass_50 rfl 3 rfl ?_
    refine z_VU (i_Count_weigh hr_r11 hs h) vk_X2_weigh kt_73 (Nat.le_of_ble_eq_true rfl) rfl ml_X0_96 ⟨Nat.le_of_ble_eq_true rfl, Nat.le_of_ble_eq_true rfl⟩ ⟨Nat.zero_le _, Nat.zero_le _⟩ rfl rfl (Nat.le_of_ble_eq_true rfl) dX0_wouldPass_51 (fun μ_6 hs h => ?_)
    refine z_rload_n dX0_wouldPass_54 rfl 1 rfl ?_
    refine z_getR (q := 11628) ff_0_4 dX0_wouldPass_55 kt_83 (Nat.le_of_ble_eq_true rfl) fl_X0_27 rfl (hs.1 _ _ sr_11628) ?_
    refine z_iconst dX0_wouldPass_58 ?_
    refine z_VU (i_Count_sumUp  hs h) vk_X2_sumUp kt_73 (Nat.le_of_ble_eq_true rfl) rfl ml_X0_104 ⟨Nat.le_of_ble_eq_true rfl, Nat.le_of_ble_eq_true rfl⟩ ⟨Nat.zero_le _, Nat.zero_le _⟩ rfl rfl (Nat.le_of_ble_eq_true rfl) dX0_wouldPass_59 (fun μ_7 hs h => ?_)
    refine z_rload_n dX0_wouldPass_62 rfl 1 rfl ?_
    refine z_getR (q := 11628) ff_0_4 dX0_wouldPass_63 kt_83 (Nat.le_of_ble_eq_true rfl) fl_X0_27 rfl (hs.1 _ _ sr_11628) ?_
    refine z_rload_n dX0_wouldPass_66 rfl 0 rfl ?_
    refine z_iload_n dX0_wouldPass_67 rfl 2 rfl ?_
    refine z_NE (i_H_kindOf ) sk_X11_kindOf nw_X0_107 ⟨Nat.le_of_ble_eq_true rfl, Nat.le_of_ble_eq_true rfl⟩ ⟨Nat.zero_le _, Nat.zero_le _⟩ rfl rfl (Nat.le_of_ble_eq_true rfl) dX0_wouldPass_68 ?_
    refine z_rload_n dX0_wouldPass_71 rfl 1 rfl ?_
    refine z_getR (q := 11626) ff_0_2 dX0_wouldPass_72 kt_83 (Nat.le_of_ble_eq_true rfl) fl_X0_23 rfl (hs.1 _ _ sr_11626) ?_
    refine z_iload_n dX0_wouldPass_75 rfl 2 rfl ?_
    refine z_VI (i_Floor_against  hs h) vk_X3_against kt_67 (Nat.le_of_ble_eq_true rfl) rfl ml_X0_110 ⟨Nat.le_of_ble_eq_true rfl, Nat.le_of_ble_eq_true rfl⟩ ⟨Nat.zero_le _, Nat.zero_le _⟩ rfl rfl (Nat.le_of_ble_eq_true rfl) dX0_wouldPass_76 (fun r76_1 μ_8 hs h => ?_)
    refine z_rload_n dX0_wouldPass_79 rfl 1 rfl ?_
    refine z_getR (q := 11624) ff_0_0 dX0_wouldPass_80 kt_83 (Nat.le_of_ble_eq_true rfl) fl_X0_15 rfl (hs.1 _ _ sr_11624) ?_
    refine z_getI (q := 1139) ff_7_11 dX0_wouldPass_83 kt_1 (Nat.le_of_ble_eq_true rfl) fl_X0_62 rfl ?_
    refine z_VB (i_Count_passes hr_r11 hs h) vk_X2_passes kt_73 (Nat.le_of_ble_eq_true rfl) rfl ml_X0_113 ⟨Nat.le_of_ble_eq_true rfl, Nat.le_of_ble_eq_true rfl⟩ ⟨Nat.zero_le _, Nat.zero_le _⟩ rfl rfl (Nat.le_of_ble_eq_true rfl) dX0_wouldPass_86 (fun r86_1 μ_9 hs h => ?_)
    exact z_zret (b := r86_1) rfl dX0_wouldPass_89 rfl rfl rfl ⟨_, rfl, hs, h⟩
abbrev Y_H_would : Yt := (3, (some .int), yX11_would.name, { frames := 5, cells := 0, slots := 0, locals := 121 }, 175, 0, 0)
def f_H_would (a1 : Int) (a2 : Int) (μ : Mem) (k : Int → Mem → Prop) : Prop := if w (v_Floor_stateOf a1 μ) = 0 then (if w a2 < 0 then (k (-1) μ) else (if w 3 < w a2 then (k (-1) μ) else (f_Chair_wouldPass a1 a2 μ (fun r28 μ_1 => ∀ x39 : Int, x39 = (if r28 = true then 1 else 0) → k x39 μ_1)))) else (k (-1) μ)
theorem i_H_would {l : Launch} {Γ : Gam} {g : Nat} {a1 : Int} {a2 : Int} {μ : Mem} {k : Int → Mem → Prop} (hs : StatR μ.2.2) (h : f_H_would a1 a2 μ k) : CT l Γ yX11_would cX11_would 3 (some .int) 5 121 0 0 [vr Γ 0, vi a1, vi a2] g 175 μ (pI k) := by
  refine SW.ct (by decide) (Nat.le_of_ble_eq_true rfl) ?_
  refine z_sub (lv' := [(0, vr Γ 0), (1, vi a1), (2, vi a2)]) [0, 1, 2] rfl ?_
  show SW l Γ yX11_would.cls cX11_would Y_H_would (pI k) g 175 0 0 μ 0 [(0, vr Γ 0), (1, vi a1), (2, vi a2)] []
  unfold f_H_would at h
  refine z_rload_n dX11_would_0 rfl 0 rfl ?_
  refine z_getR (q := 1005) ff_11_5 dX11_would_1 kt_0 (Nat.le_of_ble_eq_true rfl) fl_X11_57 rfl (hs.1 _ _ sr_1005) ?_
  refine z_iload_n dX11_would_4 rfl 1 rfl ?_
  refine z_VE (i_Floor_stateOf hs) vk_X3_stateOf kt_67 (Nat.le_of_ble_eq_true rfl) rfl ml_X11_118 ⟨Nat.le_of_ble_eq_true rfl, Nat.le_of_ble_eq_true rfl⟩ ⟨Nat.zero_le _, Nat.zero_le _⟩ rfl rfl (Nat.le_of_ble_eq_true rfl) dX11_would_5 ?_
  refine z_if_ne (tgt := 20) dX11_would_8 (by decide) h (fun h => ?_) (fun h => ?_)
  · refine z_iload_n dX11_would_11 rfl 2 rfl ?_
    refine z_if_lt (tgt := 20) dX11_would_12 (by decide) h (fun h => ?_) (fun h => ?_)
    · refine z_iconst dX11_would_20 ?_
      exact z_iret rfl dX11_would_21 rfl rfl rfl ⟨_, rfl, hs, h⟩
    · refine z_iload_n dX11_would_15 rfl 2 rfl ?_
      refine z_iconst dX11_would_16 ?_
      refine z_icmp_le (tgt := 22) dX11_would_17 (by decide) h (fun h => ?_) (fun h => ?_)
      · refine z_iconst dX11_would_20 ?_
        exact z_iret rfl dX11_would_21 rfl rfl rfl ⟨_, rfl, hs, h⟩
      · refine z_rload_n dX11_would_22 rfl 0 rfl ?_
        refine z_getR (q := 1007) ff_11_7 dX11_would_23 kt_0 (Nat.le_of_ble_eq_true rfl) fl_X11_75 rfl (hs.1 _ _ sr_1007) ?_
        refine z_iload_n dX11_would_26 rfl 1 rfl ?_
        refine z_iload_n dX11_would_27 rfl 2 rfl ?_
        refine z_VB (i_Chair_wouldPass  hs h) vk_X0_wouldPass kt_83 (Nat.le_of_ble_eq_true rfl) rfl ml_X11_327 ⟨Nat.le_of_ble_eq_true rfl, Nat.le_of_ble_eq_true rfl⟩ ⟨Nat.zero_le _, Nat.zero_le _⟩ rfl rfl (Nat.le_of_ble_eq_true rfl) dX11_would_28 (fun r28 μ_1 hs h => ?_)
        refine z_phi 39 [] (fun V9 hv J9 => ?_) h (fun x39 h => ?_)
        · refine z_ifeq_b (tgt := 38) dX11_would_31 (by decide) (eq_ite hv) (fun hv => ?_) (fun hv => ?_)
          · refine z_iconst dX11_would_34 ?_
            refine z_goto (tgt := 39) dX11_would_35 (by decide) ?_
            exact J9 _ hv.symm
          · refine z_iconst dX11_would_38 ?_
            exact J9 _ hv.symm
        · exact z_iret rfl dX11_would_39 rfl rfl rfl ⟨_, rfl, hs, h⟩
  · refine z_iconst dX11_would_20 ?_
    exact z_iret rfl dX11_would_21 rfl rfl rfl ⟨_, rfl, hs, h⟩
abbrev Y_Worths_tell : Yt := (4, (some .boolean), yX10_tell.name, { frames := 1, cells := 0, slots := 0, locals := 22 }, 175, 0, 0)
def f_Worths_tell (a1 : Int) (a2 : Int) (a3 : Int) (μ : Mem) (k : Bool → Mem → Prop) : Prop := ∀ μ_1 : Mem, μ_1 = set' μ 102 288 ((a1 * 24) + a2) a3 → k true μ_1
theorem i_Worths_tell {l : Launch} {Γ : Gam} {g : Nat} {a1 : Int} {a2 : Int} {a3 : Int} {μ : Mem} {k : Bool → Mem → Prop} (hs : StatR μ.2.2) (h : f_Worths_tell a1 a2 a3 μ k) : CT l Γ yX10_tell cX10_tell 4 (some .boolean) 1 22 0 0 [vr Γ 101, vi a1, vi a2, vi a3] g 175 μ (pB k) := by
  refine SW.ct (by decide) (Nat.le_of_ble_eq_true rfl) ?_
  refine z_sub (lv' := [(0, vr Γ 101), (1, vi a1), (2, vi a2), (3, vi a3)]) [0, 1, 2, 3] rfl ?_
  show SW l Γ yX10_tell.cls cX10_tell Y_Worths_tell (pB k) g 175 0 0 μ 0 [(0, vr Γ 101), (1, vi a1), (2, vi a2), (3, vi a3)] []
  unfold f_Worths_tell at h
  refine z_rload_n dX10_tell_0 rfl 0 rfl ?_
  refine z_getR (q := 13932) ff_10_4 dX10_tell_1 kt_101 (Nat.le_of_ble_eq_true rfl) fl_X10_9 rfl (hs.1 _ _ sr_13932) ?_
  refine z_iload_n dX10_tell_4 rfl 1 rfl ?_
  refine z_bipush dX10_tell_5 (by decide) ?_
  refine z_imul dX10_tell_7 ?_
  refine z_iload_n dX10_tell_8 rfl 2 rfl ?_
  refine z_iadd dX10_tell_9 ?_
  refine z_iload_n dX10_tell_10 rfl 3 rfl ?_
  refine z_NM (i_X11_set kt_102 (Nat.le_of_ble_eq_true rfl)) ok_X11_set nw_X10_62 ⟨Nat.le_of_ble_eq_true rfl, Nat.le_of_ble_eq_true rfl⟩ ⟨Nat.zero_le _, Nat.zero_le _⟩ rfl rfl (Nat.le_of_ble_eq_true rfl) dX10_tell_11 ?_
  refine z_mm (fun μ_1 eμ_1 => ?_)
  replace h := h μ_1 eμ_1
  replace hs : StatR μ_1.2.2 := by rw [eμ_1]; exact (StatR.set hs)
  refine z_iconst dX10_tell_14 ?_
  exact z_zret (b := true) rfl dX10_tell_15 rfl rfl rfl ⟨_, rfl, hs, h⟩
abbrev Y_H_worth : Yt := (4, (some .boolean), yX11_worth.name, { frames := 2, cells := 0, slots := 0, locals := 45 }, 175, 0, 0)
def f_H_worth (a1 : Int) (a2 : Int) (a3 : Int) (μ : Mem) (k : Bool → Mem → Prop) : Prop := if (v_Reg_hasAffiliate a1 μ) = true then (if (v_Papers_hasMotion a2 μ) = true then (if w a3 < w (-9) then (k false μ) else (if w 9 < w a3 then (k false μ) else (f_Worths_tell a1 a2 a3 μ (fun r41 μ_1 => ∀ x52 : Bool, x52 = (if r41 = true then true else false) → k x52 μ_1)))) else (k false μ)) else (k false μ)
theorem i_H_worth {l : Launch} {Γ : Gam} {g : Nat} {a1 : Int} {a2 : Int} {a3 : Int} {μ : Mem} {k : Bool → Mem → Prop} (hs : StatR μ.2.2) (h : f_H_worth a1 a2 a3 μ k) : CT l Γ yX11_worth cX11_worth 4 (some .boolean) 2 45 0 0 [vr Γ 0, vi a1, vi a2, vi a3] g 175 μ (pB k) := by
  refine SW.ct (by decide) (Nat.le_of_ble_eq_true rfl) ?_
  refine z_sub (lv' := [(0, vr Γ 0), (1, vi a1), (2, vi a2), (3, vi a3)]) [0, 1, 2, 3] rfl ?_
  show SW l Γ yX11_worth.cls cX11_worth Y_H_worth (pB k) g 175 0 0 μ 0 [(0, vr Γ 0), (1, vi a1), (2, vi a2), (3, vi a3)] []
  unfold f_H_worth at h
  refine z_rload_n dX11_worth_0 rfl 0 rfl ?_
  refine z_getR (q := 1000) ff_11_0 dX11_worth_1 kt_0 (Nat.le_of_ble_eq_true rfl) fl_X11_12 rfl (hs.1 _ _ sr_1000) ?_
  refine z_iload_n dX11_worth_4 rfl 1 rfl ?_
  refine z_VE (i_Reg_hasAffiliate ) vk_X7_hasAffiliate kt_1 (Nat.le_of_ble_eq_true rfl) rfl ml_X11_103 ⟨Nat.le_of_ble_eq_true rfl, Nat.le_of_ble_eq_true rfl⟩ ⟨Nat.zero_le _, Nat.zero_le _⟩ rfl rfl (Nat.le_of_ble_eq_true rfl) dX11_worth_5 ?_
  refine z_ifeq_b (tgt := 51) dX11_worth_8 (by decide) h (fun h => ?_) (fun h => ?_)
  · refine z_rload_n dX11_worth_11 rfl 0 rfl ?_
    refine z_getR (q := 1004) ff_11_4 dX11_worth_12 kt_0 (Nat.le_of_ble_eq_true rfl) fl_X11_26 rfl (hs.1 _ _ sr_1004) ?_
    refine z_iload_n dX11_worth_15 rfl 2 rfl ?_
    refine z_VE (i_Papers_hasMotion ) vk_X6_hasMotion kt_12 (Nat.le_of_ble_eq_true rfl) rfl ml_X11_222 ⟨Nat.le_of_ble_eq_true rfl, Nat.le_of_ble_eq_true rfl⟩ ⟨Nat.zero_le _, Nat.zero_le _⟩ rfl rfl (Nat.le_of_ble_eq_true rfl) dX11_worth_16 ?_
    refine z_ifeq_b (tgt := 51) dX11_worth_19 (by decide) h (fun h => ?_) (fun h => ?_)
    · refine z_iload_n dX11_worth_22 rfl 3 rfl ?_
      refine z_bipush dX11_worth_23 (by decide) ?_
      refine z_icmp_lt (tgt := 51) dX11_worth_25 (by decide) h (fun h => ?_) (fun h => ?_)
      · refine z_iconst dX11_worth_51 ?_
        exact z_zret (b := false) rfl dX11_worth_52 rfl rfl rfl ⟨_, rfl, hs, h⟩
      · refine z_iload_n dX11_worth_28 rfl 3 rfl ?_
        refine z_bipush dX11_worth_29 (by decide) ?_
        refine z_icmp_gt (tgt := 51) dX11_worth_31 (by decide) h (fun h => ?_) (fun h => ?_)
        · refine z_iconst dX11_worth_51 ?_
          exact z_zret (b := false) rfl dX11_worth_52 rfl rfl rfl ⟨_, rfl, hs, h⟩
        · refine z_rload_n dX11_worth_34 rfl 0 rfl ?_
          refine z_getR (q := 1009) ff_11_9 dX11_worth_35 kt_0 (Nat.le_of_ble_eq_true rfl) fl_X11_91 rfl (hs.1 _ _ sr_1009) ?_
          refine z_iload_n dX11_worth_38 rfl 1 rfl ?_
          refine z_iload_n dX11_worth_39 rfl 2 rfl ?_
          refine z_iload_n dX11_worth_40 rfl 3 rfl ?_
          refine z_VB (i_Worths_tell  hs h) vk_X10_tell kt_101 (Nat.le_of_ble_eq_true rfl) rfl ml_X11_330 ⟨Nat.le_of_ble_eq_true rfl, Nat.le_of_ble_eq_true rfl⟩ ⟨Nat.zero_le _, Nat.zero_le _⟩ rfl rfl (Nat.le_of_ble_eq_true rfl) dX11_worth_41 (fun r41 μ_1 hs h => ?_)
          refine z_phiB 52 [] (fun V9 hv J9 => ?_) h (fun x52 h => ?_)
          · refine z_ifeq_b (tgt := 51) dX11_worth_44 (by decide) (eq_ite hv) (fun hv => ?_) (fun hv => ?_)
            · refine z_iconst dX11_worth_47 ?_
              refine z_goto (tgt := 52) dX11_worth_48 (by decide) ?_
              exact J9 true hv.symm
            · refine z_iconst dX11_worth_51 ?_
              exact J9 false hv.symm
          · exact z_zret (b := x52) rfl dX11_worth_52 rfl rfl rfl ⟨_, rfl, hs, h⟩
    · refine z_iconst dX11_worth_51 ?_
      exact z_zret (b := false) rfl dX11_worth_52 rfl rfl rfl ⟨_, rfl, hs, h⟩
  · refine z_iconst dX11_worth_51 ?_
    exact z_zret (b := false) rfl dX11_worth_52 rfl rfl rfl ⟨_, rfl, hs, h⟩
def v_Worths_worthFor (a1 : Int) (a2 : Int) (μ : Mem) : Int := at' μ 102 288 ((a1 * 24) + a2)
theorem i_Worths_worthFor {l : Launch} {Γ : Gam} {g : Nat} {μ : Mem} {a1 : Int} {a2 : Int} (hs : StatR μ.2.2) : CT l Γ yX10_worthFor cX10_worthFor 3 (some .int) 1 21 0 0 [vr Γ 101, vi a1, vi a2] g 175 μ (pE (vi (v_Worths_worthFor a1 a2 μ)) μ) := by
  refine SW.ct (by decide) (Nat.le_of_ble_eq_true rfl) ?_
  refine z_sub (lv' := [(0, vr Γ 101), (1, vi a1), (2, vi a2)]) [0, 1, 2] rfl ?_
  have hv : v_Worths_worthFor a1 a2 μ = v_Worths_worthFor a1 a2 μ := rfl
  refine z_rload_n dX10_worthFor_0 rfl 0 rfl ?_
  refine z_getR (q := 13932) ff_10_4 dX10_worthFor_1 kt_101 (Nat.le_of_ble_eq_true rfl) fl_X10_9 rfl (hs.1 _ _ sr_13932) ?_
  refine z_iload_n dX10_worthFor_4 rfl 1 rfl ?_
  refine z_bipush dX10_worthFor_5 (by decide) ?_
  refine z_imul dX10_worthFor_7 ?_
  refine z_iload_n dX10_worthFor_8 rfl 2 rfl ?_
  refine z_iadd dX10_worthFor_9 ?_
  refine z_NE (i_X11_at kt_102 (Nat.le_of_ble_eq_true rfl)) ok_X11_at nw_X10_66 ⟨Nat.le_of_ble_eq_true rfl, Nat.le_of_ble_eq_true rfl⟩ ⟨Nat.zero_le _, Nat.zero_le _⟩ rfl rfl (Nat.le_of_ble_eq_true rfl) dX10_worthFor_10 ?_
  exact z_iret rfl dX10_worthFor_13 rfl rfl rfl ⟨by first | (rw [hv]; done) | rfl, rfl⟩
abbrev Y_Worths_along : Yt := (15, (some .int), yX10_along.name, { frames := 2, cells := 0, slots := 0, locals := 43 }, 175, 0, 0)
def l_Worths_along_26 (a1 : Int) (μ : Mem) (X_26_190 : Int → Prop) : Nat → Int64 → Int64 → Int → Int → Int → Prop
  | 0, _, _, _, _, _ => False
  | fu26 + 1, v2_1, v4_1, v6, v7, v8 => if w v8 < w (rI μ 13934 0) then (∀ v9 : Int, v9 = at' μ 109 6 v8 → ∀ v10 : Int64, v10 = atL' μ 107 6 v9 → ∀ v12 : Int64, v12 = atL' μ 108 6 v9 → ∀ x88 : Bool, x88 = (if ((v10 &&& v4_1) ||| (v12 &&& v2_1)) = 0 then false else true) → if w (w_iand (w_iushr v6 v9) 1) = 0 then (if x88 = true then (if w (at' μ 105 6 v9) = w 1 then (∀ v7_1 : Int, v7_1 = v7 + (v_Worths_worthFor a1 (at' μ 103 6 v9) μ) → ∀ v2_2 : Int64, v2_2 = (v2_1 &&& (v12 ^^^ (-1))) ||| v10 → ∀ v4_2 : Int64, v4_2 = (v4_1 &&& (v10 ^^^ (-1))) ||| v12 → ∀ v6_1 : Int, v6_1 = w_ior v6 (at' μ 106 6 v9) → (l_Worths_along_26 a1 μ X_26_190 fu26) v2_2 v4_2 v6_1 v7_1 (v8 + 1)) else ((l_Worths_along_26 a1 μ X_26_190 fu26) v2_1 v4_1 v6 v7 (v8 + 1))) else (if w (at' μ 104 6 v9) = w 1 then (∀ v7_2 : Int, v7_2 = v7 + (v_Worths_worthFor a1 (at' μ 103 6 v9) μ) → ∀ v2_3 : Int64, v2_3 = (v2_1 &&& (v12 ^^^ (-1))) ||| v10 → ∀ v4_3 : Int64, v4_3 = (v4_1 &&& (v10 ^^^ (-1))) ||| v12 → ∀ v6_2 : Int, v6_2 = w_ior v6 (at' μ 106 6 v9) → (l_Worths_along_26 a1 μ X_26_190 fu26) v2_3 v4_3 v6_2 v7_2 (v8 + 1)) else ((l_Worths_along_26 a1 μ X_26_190 fu26) v2_1 v4_1 v6 v7 (v8 + 1)))) else ((l_Worths_along_26 a1 μ X_26_190 fu26) v2_1 v4_1 v6 v7 (v8 + 1))) else (X_26_190 v7)
def f_Worths_along (a1 : Int) (μ : Mem) (k : Int → Mem → Prop) : Prop := ∀ v2 : Int64, v2 = rL μ 9582 0 → ∀ v4 : Int64, v4 = rL μ 9583 0 → ∃ m26 : Nat, l_Worths_along_26 a1 μ (fun (v7_3 : Int) => k v7_3 μ) m26 v2 v4 0 0 0
theorem L_Worths_along_26 {l : Launch} {Γ : Gam} {g : Nat} {a1 : Int} {μ : Mem} {X_26_190 : Int → Prop} {k : Int → Mem → Prop} (hs : StatR μ.2.2) (hX_26_190 : ∀ (u7 : Int), X_26_190 u7 → SW l Γ yX10_along.cls cX10_along Y_Worths_along (pI k) g 175 0 0 μ 190 [(7, vi u7)] []) (n9 : Nat) : ∀ (v2_1 : Int64) (v4_1 : Int64) (v6 : Int) (v7 : Int) (v8 : Int), l_Worths_along_26 a1 μ X_26_190 n9 v2_1 v4_1 v6 v7 v8 → SW l Γ yX10_along.cls cX10_along Y_Worths_along (pI k) g 175 0 0 μ 26 [(0, vr Γ 101), (1, vi a1), (2, vl v2_1), (4, vl v4_1), (6, vi v6), (7, vi v7), (8, vi v8)] [] := by
  induction n9 with
  | zero =>
    intro v2_1 v4_1 v6 v7 v8 h
    exact h.elim
  | succ n9 hR_26 =>
    intro v2_1 v4_1 v6 v7 v8 h
    rw [l_Worths_along_26] at h
    refine z_iload dX10_along_26 6 rfl ?_
    refine z_rload_n dX10_along_28 rfl 0 rfl ?_
    refine z_getI (q := 13934) ff_10_6 dX10_along_29 kt_101 (Nat.le_of_ble_eq_true rfl) fl_X10_100 rfl ?_
    refine z_icmp_ge (tgt := 190) dX10_along_32 (by decide) h (fun h => ?_) (fun h => ?_)
    · refine z_rload_n dX10_along_35 rfl 0 rfl ?_
      refine z_getR (q := 13940) ff_10_12 dX10_along_36 kt_101 (Nat.le_of_ble_eq_true rfl) fl_X10_34 rfl (hs.1 _ _ sr_13940) ?_
      refine z_iload dX10_along_39 6 rfl ?_
      refine z_NE (i_X11_at kt_109 (Nat.le_of_ble_eq_true rfl)) ok_X11_at nw_X10_66 ⟨Nat.le_of_ble_eq_true rfl, Nat.le_of_ble_eq_true rfl⟩ ⟨Nat.zero_le _, Nat.zero_le _⟩ rfl rfl (Nat.le_of_ble_eq_true rfl) dX10_along_41 ?_
      refine z_nm (fun v9 ev9 => ?_)
      replace h := h v9 ev9
      refine z_istore (lv' := [(9, vi v9), (0, vr Γ 101), (1, vi a1), (2, vl v2_1), (4, vl v4_1), (6, vi v6), (7, vi v7), (8, vi v8)]) dX10_along_44 (Nat.le_of_ble_eq_true rfl) rfl ?_
      refine z_rload_n dX10_along_46 rfl 1 rfl ?_
      refine z_getR (q := 13938) ff_10_10 dX10_along_47 kt_101 (Nat.le_of_ble_eq_true rfl) fl_X10_27 rfl (hs.1 _ _ sr_13938) ?_
      refine z_iload dX10_along_50 0 rfl ?_
      refine z_NE (i_X11_at_ kt_107 (Nat.le_of_ble_eq_true rfl)) ok_X11_at_ nw_X10_142 ⟨Nat.le_of_ble_eq_true rfl, Nat.le_of_ble_eq_true rfl⟩ ⟨Nat.zero_le _, Nat.zero_le _⟩ rfl rfl (Nat.le_of_ble_eq_true rfl) dX10_along_52 ?_
      refine z_nmL (fun v10 ev10 => ?_)
      replace h := h v10 ev10
      refine z_lstore (lv' := [(10, vl v10), (9, vi v9), (0, vr Γ 101), (1, vi a1), (2, vl v2_1), (4, vl v4_1), (6, vi v6), (7, vi v7), (8, vi v8)]) dX10_along_55 (Nat.le_of_ble_eq_true rfl) rfl ?_
      refine z_rload_n dX10_along_57 rfl 2 rfl ?_
      refine z_getR (q := 13939) ff_10_11 dX10_along_58 kt_101 (Nat.le_of_ble_eq_true rfl) fl_X10_31 rfl (hs.1 _ _ sr_13939) ?_
      refine z_iload dX10_along_61 1 rfl ?_
      refine z_NE (i_X11_at_ kt_108 (Nat.le_of_ble_eq_true rfl)) ok_X11_at_ nw_X10_142 ⟨Nat.le_of_ble_eq_true rfl, Nat.le_of_ble_eq_true rfl⟩ ⟨Nat.zero_le _, Nat.zero_le _⟩ rfl rfl (Nat.le_of_ble_eq_true rfl) dX10_along_63 ?_
      refine z_nmL (fun v12 ev12 => ?_)
      replace h := h v12 ev12
      refine z_lstore (lv' := [(12, vl v12), (10, vl v10), (9, vi v9), (0, vr Γ 101), (1, vi a1), (2, vl v2_1), (4, vl v4_1), (6, vi v6), (7, vi v7), (8, vi v8)]) dX10_along_66 (Nat.le_of_ble_eq_true rfl) rfl ?_
      refine z_lload dX10_along_68 1 rfl ?_
      refine z_lload dX10_along_70 6 rfl ?_
      refine z_land dX10_along_72 ?_
      refine z_lload dX10_along_73 0 rfl ?_
      refine z_lload_n dX10_along_75 rfl 5 rfl ?_
      refine z_land dX10_along_76 ?_
      refine z_lor dX10_along_77 ?_
      refine z_lconst (v := 0) dX10_along_78 rfl ?_
      refine z_phiB 88 [] (fun V9 hv J9 => ?_) h (fun x88 h => ?_)
      · refine z_lcmp_eq (tgt := 87) dX10_along_79 dX10_along_80 (by decide) (eq_ite hv) (fun hv => ?_) (fun hv => ?_)
        · refine z_iconst dX10_along_87 ?_
          exact J9 false hv.symm
        · refine z_iconst dX10_along_83 ?_
          refine z_goto (tgt := 88) dX10_along_84 (by decide) ?_
          exact J9 true hv.symm
      · refine z_istore (lv' := [(14, vi (b2i x88)), (12, vl v12), (10, vl v10), (9, vi v9), (0, vr Γ 101), (1, vi a1), (2, vl v2_1), (4, vl v4_1), (6, vi v6), (7, vi v7), (8, vi v8)]) dX10_along_88 (Nat.le_of_ble_eq_true rfl) rfl ?_
        refine z_iload dX10_along_90 8 rfl ?_
        refine z_iload dX10_along_92 3 rfl ?_
        refine z_iushr dX10_along_94 ?_
        refine z_iconst dX10_along_95 ?_
        refine z_iand dX10_along_96 ?_
        refine z_if_ne (tgt := 184) dX10_along_97 (by decide) h (fun h => ?_) (fun h => ?_)
        · refine z_iload dX10_along_100 0 rfl ?_
          refine z_ifeq_b (tgt := 112) dX10_along_102 (by decide) h (fun h => ?_) (fun h => ?_)
          · refine z_rload_n dX10_along_105 rfl 4 rfl ?_
            refine z_getR (q := 13936) ff_10_8 dX10_along_106 kt_101 (Nat.le_of_ble_eq_true rfl) fl_X10_21 rfl (hs.1 _ _ sr_13936) ?_
            refine z_goto (tgt := 116) dX10_along_109 (by decide) ?_
            refine z_iload dX10_along_116 3 rfl ?_
            refine z_NE (i_X11_at kt_105 (Nat.le_of_ble_eq_true rfl)) ok_X11_at nw_X10_66 ⟨Nat.le_of_ble_eq_true rfl, Nat.le_of_ble_eq_true rfl⟩ ⟨Nat.zero_le _, Nat.zero_le _⟩ rfl rfl (Nat.le_of_ble_eq_true rfl) dX10_along_118 ?_
            refine z_iconst dX10_along_121 ?_
            refine z_icmp_ne (tgt := 184) dX10_along_122 (by decide) h (fun h => ?_) (fun h => ?_)
            · refine z_iload dX10_along_125 9 rfl ?_
              refine z_rload_n dX10_along_127 rfl 4 rfl ?_
              refine z_iload_n dX10_along_128 rfl 5 rfl ?_
              refine z_rload_n dX10_along_129 rfl 4 rfl ?_
              refine z_getR (q := 13933) ff_10_5 dX10_along_130 kt_101 (Nat.le_of_ble_eq_true rfl) fl_X10_15 rfl (hs.1 _ _ sr_13933) ?_
              refine z_iload dX10_along_133 3 rfl ?_
              refine z_NE (i_X11_at kt_103 (Nat.le_of_ble_eq_true rfl)) ok_X11_at nw_X10_66 ⟨Nat.le_of_ble_eq_true rfl, Nat.le_of_ble_eq_true rfl⟩ ⟨Nat.zero_le _, Nat.zero_le _⟩ rfl rfl (Nat.le_of_ble_eq_true rfl) dX10_along_135 ?_
              refine z_VE (i_Worths_worthFor hs) vk_X10_worthFor kt_101 (Nat.le_of_ble_eq_true rfl) rfl ml_X10_145 ⟨Nat.le_of_ble_eq_true rfl, Nat.le_of_ble_eq_true rfl⟩ ⟨Nat.zero_le _, Nat.zero_le _⟩ rfl rfl (Nat.le_of_ble_eq_true rfl) dX10_along_138 ?_
              refine z_iadd dX10_along_141 ?_
              refine z_nm (fun v7_1 ev7_1 => ?_)
              replace h := h v7_1 ev7_1
              refine z_istore (lv' := [(7, vi v7_1), (14, vi (b2i x88)), (12, vl v12), (10, vl v10), (9, vi v9), (0, vr Γ 101), (1, vi a1), (2, vl v2_1), (4, vl v4_1), (6, vi v6), (8, vi v8)]) dX10_along_142 (Nat.le_of_ble_eq_true rfl) rfl ?_
              refine z_lload_n dX10_along_144 rfl 7 rfl ?_
              refine z_lload dX10_along_145 2 rfl ?_
              refine z_ldc2 (v := (-1)) dX10_along_147 cl_X10_149 ?_
              refine z_lxor dX10_along_150 ?_
              refine z_land dX10_along_151 ?_
              refine z_lload dX10_along_152 3 rfl ?_
              refine z_lor dX10_along_154 ?_
              refine z_nmL (fun v2_2 ev2_2 => ?_)
              replace h := h v2_2 ev2_2
              refine z_lstore_n (lv' := [(2, vl v2_2), (7, vi v7_1), (14, vi (b2i x88)), (12, vl v12), (10, vl v10), (9, vi v9), (0, vr Γ 101), (1, vi a1), (4, vl v4_1), (6, vi v6), (8, vi v8)]) dX10_along_155 rfl (Nat.le_of_ble_eq_true rfl) rfl ?_
              refine z_lload dX10_along_156 8 rfl ?_
              refine z_lload dX10_along_158 4 rfl ?_
              refine z_ldc2 (v := (-1)) dX10_along_160 cl_X10_149 ?_
              refine z_lxor dX10_along_163 ?_
              refine z_land dX10_along_164 ?_
              refine z_lload dX10_along_165 3 rfl ?_
              refine z_lor dX10_along_167 ?_
              refine z_nmL (fun v4_2 ev4_2 => ?_)
              replace h := h v4_2 ev4_2
              refine z_lstore (lv' := [(4, vl v4_2), (2, vl v2_2), (7, vi v7_1), (14, vi (b2i x88)), (12, vl v12), (10, vl v10), (9, vi v9), (0, vr Γ 101), (1, vi a1), (6, vi v6), (8, vi v8)]) dX10_along_168 (Nat.le_of_ble_eq_true rfl) rfl ?_
              refine z_iload dX10_along_170 9 rfl ?_
              refine z_rload_n dX10_along_172 rfl 7 rfl ?_
              refine z_getR (q := 13937) ff_10_9 dX10_along_173 kt_101 (Nat.le_of_ble_eq_true rfl) fl_X10_24 rfl (hs.1 _ _ sr_13937) ?_
              refine z_iload dX10_along_176 6 rfl ?_
              refine z_NE (i_X11_at kt_106 (Nat.le_of_ble_eq_true rfl)) ok_X11_at nw_X10_66 ⟨Nat.le_of_ble_eq_true rfl, Nat.le_of_ble_eq_true rfl⟩ ⟨Nat.zero_le _, Nat.zero_le _⟩ rfl rfl (Nat.le_of_ble_eq_true rfl) dX10_along_178 ?_
              refine z_ior dX10_along_181 ?_
              refine z_nm (fun v6_1 ev6_1 => ?_)
              replace h := h v6_1 ev6_1
              refine z_istore (lv' := [(6, vi v6_1), (4, vl v4_2), (2, vl v2_2), (7, vi v7_1), (14, vi (b2i x88)), (12, vl v12), (10, vl v10), (9, vi v9), (0, vr Γ 101), (1, vi a1), (8, vi v8)]) dX10_along_182 (Nat.le_of_ble_eq_true rfl) rfl ?_
              refine z_iinc (j := 10) (lv' := [(8, vi (v8 + 1)), (6, vi v6_1), (4, vl v4_2), (2, vl v2_2), (7, vi v7_1), (14, vi (b2i x88)), (12, vl v12), (10, vl v10), (9, vi v9), (0, vr Γ 101), (1, vi a1)]) dX10_along_184 rfl (Nat.le_of_ble_eq_true rfl) rfl ?_
              refine z_goto (tgt := 26) dX10_along_187 (by decide) ?_
              refine z_sub (lv' := [(0, vr Γ 101), (1, vi a1), (2, vl v2_2), (4, vl v4_2), (6, vi v6_1), (7, vi v7_1), (8, vi (v8 + 1))]) [9, 10, 3, 2, 1, 4, 0] rfl ?_
              exact hR_26 v2_2 v4_2 v6_1 v7_1 (v8 + 1) h
            · refine z_iinc (j := 10) (lv' := [(8, vi (v8 + 1)), (14, vi (b2i x88)), (12, vl v12), (10, vl v10), (9, vi v9), (0, vr Γ 101), (1, vi a1), (2, vl v2_1), (4, vl v4_1), (6, vi v6), (7, vi v7)]) dX10_along_184 rfl (Nat.le_of_ble_eq_true rfl) rfl ?_
              refine z_goto (tgt := 26) dX10_along_187 (by decide) ?_
              refine z_sub (lv' := [(0, vr Γ 101), (1, vi a1), (2, vl v2_1), (4, vl v4_1), (6, vi v6), (7, vi v7), (8, vi (v8 + 1))]) [5, 6, 7, 8, 9, 10, 0] rfl ?_
              exact hR_26 v2_1 v4_1 v6 v7 (v8 + 1) h
          · refine z_rload_n dX10_along_112 rfl 4 rfl ?_
            refine z_getR (q := 13935) ff_10_7 dX10_along_113 kt_101 (Nat.le_of_ble_eq_true rfl) fl_X10_18 rfl (hs.1 _ _ sr_13935) ?_
            refine z_iload dX10_along_116 3 rfl ?_
            refine z_NE (i_X11_at kt_104 (Nat.le_of_ble_eq_true rfl)) ok_X11_at nw_X10_66 ⟨Nat.le_of_ble_eq_true rfl, Nat.le_of_ble_eq_true rfl⟩ ⟨Nat.zero_le _, Nat.zero_le _⟩ rfl rfl (Nat.le_of_ble_eq_true rfl) dX10_along_118 ?_
            refine z_iconst dX10_along_121 ?_
            refine z_icmp_ne (tgt := 184) dX10_along_122 (by decide) h (fun h => ?_) (fun h => ?_)
            · refine z_iload dX10_along_125 9 rfl ?_
              refine z_rload_n dX10_along_127 rfl 4 rfl ?_
              refine z_iload_n dX10_along_128 rfl 5 rfl ?_
              refine z_rload_n dX10_along_129 rfl 4 rfl ?_
              refine z_getR (q := 13933) ff_10_5 dX10_along_130 kt_101 (Nat.le_of_ble_eq_true rfl) fl_X10_15 rfl (hs.1 _ _ sr_13933) ?_
              refine z_iload dX10_along_133 3 rfl ?_
              refine z_NE (i_X11_at kt_103 (Nat.le_of_ble_eq_true rfl)) ok_X11_at nw_X10_66 ⟨Nat.le_of_ble_eq_true rfl, Nat.le_of_ble_eq_true rfl⟩ ⟨Nat.zero_le _, Nat.zero_le _⟩ rfl rfl (Nat.le_of_ble_eq_true rfl) dX10_along_135 ?_
              refine z_VE (i_Worths_worthFor hs) vk_X10_worthFor kt_101 (Nat.le_of_ble_eq_true rfl) rfl ml_X10_145 ⟨Nat.le_of_ble_eq_true rfl, Nat.le_of_ble_eq_true rfl⟩ ⟨Nat.zero_le _, Nat.zero_le _⟩ rfl rfl (Nat.le_of_ble_eq_true rfl) dX10_along_138 ?_
              refine z_iadd dX10_along_141 ?_
              refine z_nm (fun v7_2 ev7_2 => ?_)
              replace h := h v7_2 ev7_2
              refine z_istore (lv' := [(7, vi v7_2), (14, vi (b2i x88)), (12, vl v12), (10, vl v10), (9, vi v9), (0, vr Γ 101), (1, vi a1), (2, vl v2_1), (4, vl v4_1), (6, vi v6), (8, vi v8)]) dX10_along_142 (Nat.le_of_ble_eq_true rfl) rfl ?_
              refine z_lload_n dX10_along_144 rfl 7 rfl ?_
              refine z_lload dX10_along_145 2 rfl ?_
              refine z_ldc2 (v := (-1)) dX10_along_147 cl_X10_149 ?_
              refine z_lxor dX10_along_150 ?_
              refine z_land dX10_along_151 ?_
              refine z_lload dX10_along_152 3 rfl ?_
              refine z_lor dX10_along_154 ?_
              refine z_nmL (fun v2_3 ev2_3 => ?_)
              replace h := h v2_3 ev2_3
              refine z_lstore_n (lv' := [(2, vl v2_3), (7, vi v7_2), (14, vi (b2i x88)), (12, vl v12), (10, vl v10), (9, vi v9), (0, vr Γ 101), (1, vi a1), (4, vl v4_1), (6, vi v6), (8, vi v8)]) dX10_along_155 rfl (Nat.le_of_ble_eq_true rfl) rfl ?_
              refine z_lload dX10_along_156 8 rfl ?_
              refine z_lload dX10_along_158 4 rfl ?_
              refine z_ldc2 (v := (-1)) dX10_along_160 cl_X10_149 ?_
              refine z_lxor dX10_along_163 ?_
              refine z_land dX10_along_164 ?_
              refine z_lload dX10_along_165 3 rfl ?_
              refine z_lor dX10_along_167 ?_
              refine z_nmL (fun v4_3 ev4_3 => ?_)
              replace h := h v4_3 ev4_3
              refine z_lstore (lv' := [(4, vl v4_3), (2, vl v2_3), (7, vi v7_2), (14, vi (b2i x88)), (12, vl v12), (10, vl v10), (9, vi v9), (0, vr Γ 101), (1, vi a1), (6, vi v6), (8, vi v8)]) dX10_along_168 (Nat.le_of_ble_eq_true rfl) rfl ?_
              refine z_iload dX10_along_170 9 rfl ?_
              refine z_rload_n dX10_along_172 rfl 7 rfl ?_
              refine z_getR (q := 13937) ff_10_9 dX10_along_173 kt_101 (Nat.le_of_ble_eq_true rfl) fl_X10_24 rfl (hs.1 _ _ sr_13937) ?_
              refine z_iload dX10_along_176 6 rfl ?_
              refine z_NE (i_X11_at kt_106 (Nat.le_of_ble_eq_true rfl)) ok_X11_at nw_X10_66 ⟨Nat.le_of_ble_eq_true rfl, Nat.le_of_ble_eq_true rfl⟩ ⟨Nat.zero_le _, Nat.zero_le _⟩ rfl rfl (Nat.le_of_ble_eq_true rfl) dX10_along_178 ?_
              refine z_ior dX10_along_181 ?_
              refine z_nm (fun v6_2 ev6_2 => ?_)
              replace h := h v6_2 ev6_2
              refine z_istore (lv' := [(6, vi v6_2), (4, vl v4_3), (2, vl v2_3), (7, vi v7_2), (14, vi (b2i x88)), (12, vl v12), (10, vl v10), (9, vi v9), (0, vr Γ 101), (1, vi a1), (8, vi v8)]) dX10_along_182 (Nat.le_of_ble_eq_true rfl) rfl ?_
              refine z_iinc (j := 10) (lv' := [(8, vi (v8 + 1)), (6, vi v6_2), (4, vl v4_3), (2, vl v2_3), (7, vi v7_2), (14, vi (b2i x88)), (12, vl v12), (10, vl v10), (9, vi v9), (0, vr Γ 101), (1, vi a1)]) dX10_along_184 rfl (Nat.le_of_ble_eq_true rfl) rfl ?_
              refine z_goto (tgt := 26) dX10_along_187 (by decide) ?_
              refine z_sub (lv' := [(0, vr Γ 101), (1, vi a1), (2, vl v2_3), (4, vl v4_3), (6, vi v6_2), (7, vi v7_2), (8, vi (v8 + 1))]) [9, 10, 3, 2, 1, 4, 0] rfl ?_
              exact hR_26 v2_3 v4_3 v6_2 v7_2 (v8 + 1) h
            · refine z_iinc (j := 10) (lv' := [(8, vi (v8 + 1)), (14, vi (b2i x88)), (12, vl v12), (10, vl v10), (9, vi v9), (0, vr Γ 101), (1, vi a1), (2, vl v2_1), (4, vl v4_1), (6, vi v6), (7, vi v7)]) dX10_along_184 rfl (Nat.le_of_ble_eq_true rfl) rfl ?_
              refine z_goto (tgt := 26) dX10_along_187 (by decide) ?_
              refine z_sub (lv' := [(0, vr Γ 101), (1, vi a1), (2, vl v2_1), (4, vl v4_1), (6, vi v6), (7, vi v7), (8, vi (v8 + 1))]) [5, 6, 7, 8, 9, 10, 0] rfl ?_
              exact hR_26 v2_1 v4_1 v6 v7 (v8 + 1) h
        · refine z_iinc (j := 10) (lv' := [(8, vi (v8 + 1)), (14, vi (b2i x88)), (12, vl v12), (10, vl v10), (9, vi v9), (0, vr Γ 101), (1, vi a1), (2, vl v2_1), (4, vl v4_1), (6, vi v6), (7, vi v7)]) dX10_along_184 rfl (Nat.le_of_ble_eq_true rfl) rfl ?_
          refine z_goto (tgt := 26) dX10_along_187 (by decide) ?_
          refine z_sub (lv' := [(0, vr Γ 101), (1, vi a1), (2, vl v2_1), (4, vl v4_1), (6, vi v6), (7, vi v7), (8, vi (v8 + 1))]) [5, 6, 7, 8, 9, 10, 0] rfl ?_
          exact hR_26 v2_1 v4_1 v6 v7 (v8 + 1) h
    · refine z_sub (lv' := [(7, vi v7)]) [5] rfl ?_
      exact hX_26_190 v7 h
theorem i_Worths_along {l : Launch} {Γ : Gam} {g : Nat} {a1 : Int} {μ : Mem} {k : Int → Mem → Prop} (hs : StatR μ.2.2) (h : f_Worths_along a1 μ k) : CT l Γ yX10_along cX10_along 15 (some .int) 2 43 0 0 [vr Γ 101, vi a1] g 175 μ (pI k) := by
  refine SW.ct (by decide) (Nat.le_of_ble_eq_true rfl) ?_
  refine z_sub (lv' := [(0, vr Γ 101), (1, vi a1)]) [0, 1] rfl ?_
  show SW l Γ yX10_along.cls cX10_along Y_Worths_along (pI k) g 175 0 0 μ 0 [(0, vr Γ 101), (1, vi a1)] []
  unfold f_Worths_along at h
  refine z_rload_n dX10_along_0 rfl 0 rfl ?_
  refine z_getR (q := 13930) ff_10_2 dX10_along_1 kt_101 (Nat.le_of_ble_eq_true rfl) fl_X10_54 rfl (hs.1 _ _ sr_13930) ?_
  refine z_getJ (q := 9582) ff_3_6 dX10_along_4 kt_67 (Nat.le_of_ble_eq_true rfl) fl_X10_135 rfl ?_
  refine z_nmL (fun v2 ev2 => ?_)
  replace h := h v2 ev2
  refine z_lstore_n (lv' := [(2, vl v2), (0, vr Γ 101), (1, vi a1)]) dX10_along_7 rfl (Nat.le_of_ble_eq_true rfl) rfl ?_
  refine z_rload_n dX10_along_8 rfl 1 rfl ?_
  refine z_getR (q := 13930) ff_10_2 dX10_along_9 kt_101 (Nat.le_of_ble_eq_true rfl) fl_X10_54 rfl (hs.1 _ _ sr_13930) ?_
  refine z_getJ (q := 9583) ff_3_7 dX10_along_12 kt_67 (Nat.le_of_ble_eq_true rfl) fl_X10_139 rfl ?_
  refine z_nmL (fun v4 ev4 => ?_)
  replace h := h v4 ev4
  refine z_lstore (lv' := [(4, vl v4), (2, vl v2), (0, vr Γ 101), (1, vi a1)]) dX10_along_15 (Nat.le_of_ble_eq_true rfl) rfl ?_
  refine z_iconst dX10_along_17 ?_
  refine z_istore (lv' := [(6, vi 0), (4, vl v4), (2, vl v2), (0, vr Γ 101), (1, vi a1)]) dX10_along_18 (Nat.le_of_ble_eq_true rfl) rfl ?_
  refine z_iconst dX10_along_20 ?_
  refine z_istore (lv' := [(7, vi 0), (6, vi 0), (4, vl v4), (2, vl v2), (0, vr Γ 101), (1, vi a1)]) dX10_along_21 (Nat.le_of_ble_eq_true rfl) rfl ?_
  refine z_iconst dX10_along_23 ?_
  refine z_istore (lv' := [(8, vi 0), (7, vi 0), (6, vi 0), (4, vl v4), (2, vl v2), (0, vr Γ 101), (1, vi a1)]) dX10_along_24 (Nat.le_of_ble_eq_true rfl) rfl ?_
  obtain ⟨m26, h⟩ := h
  refine z_sub (lv' := [(0, vr Γ 101), (1, vi a1), (2, vl v2), (4, vl v4), (6, vi 0), (7, vi 0), (8, vi 0)]) [5, 6, 4, 3, 2, 1, 0] rfl ?_
  refine L_Worths_along_26 hs (fun v7_3 h => ?_) m26 v2 v4 0 0 0 h
  refine z_iload dX10_along_190 0 rfl ?_
  exact z_iret rfl dX10_along_192 rfl rfl rfl ⟨_, rfl, hs, h⟩
abbrev Y_Worths_contraryTo : Yt := (4, (some .int), yX10_contraryTo.name, { frames := 3, cells := 0, slots := 0, locals := 70 }, 175, 0, 0)
def l_Worths_contraryTo_4 (a1 : Int) (X_4_47 : Int → Mem → Prop) : Nat → Int → Int → Mem → Prop
  | 0, _, _, _ => False
  | fu4 + 1, v2, v3, μ_1 => if w v3 < w (rI μ_1 13934 0) then (f_Floor_areContrary a1 (at' μ_1 103 6 v3) μ_1 (fun r26 μ_2 => ∀ x39 : Int, x39 = (if r26 = true then (w_ishl 1 v3) else 0) → ∀ v2_1 : Int, v2_1 = w_ior v2 x39 → (l_Worths_contraryTo_4 a1 X_4_47 fu4) v2_1 (v3 + 1) μ_2)) else (X_4_47 v2 μ_1)
def f_Worths_contraryTo (a1 : Int) (μ : Mem) (k : Int → Mem → Prop) : Prop := ∃ m4 : Nat, l_Worths_contraryTo_4 a1 (fun (v2_2 : Int) (μ_3 : Mem) => k v2_2 μ_3) m4 0 0 μ
theorem L_Worths_contraryTo_4 {l : Launch} {Γ : Gam} {g : Nat} {a1 : Int} {X_4_47 : Int → Mem → Prop} {k : Int → Mem → Prop} (hX_4_47 : ∀ (u2 : Int) (ν : Mem), StatR ν.2.2 → X_4_47 u2 ν → SW l Γ yX10_contraryTo.cls cX10_contraryTo Y_Worths_contraryTo (pI k) g 175 0 0 ν 47 [(2, vi u2)] []) (n9 : Nat) : ∀ (v2 : Int) (v3 : Int) (μ_1 : Mem), StatR μ_1.2.2 → l_Worths_contraryTo_4 a1 X_4_47 n9 v2 v3 μ_1 → SW l Γ yX10_contraryTo.cls cX10_contraryTo Y_Worths_contraryTo (pI k) g 175 0 0 μ_1 4 [(0, vr Γ 101), (1, vi a1), (2, vi v2), (3, vi v3)] [] := by
  induction n9 with
  | zero =>
    intro v2 v3 μ_1 hs h
    exact h.elim
  | succ n9 hR_4 =>
    intro v2 v3 μ_1 hs h
    rw [l_Worths_contraryTo_4] at h
    refine z_iload_n dX10_contraryTo_4 rfl 3 rfl ?_
    refine z_rload_n dX10_contraryTo_5 rfl 0 rfl ?_
    refine z_getI (q := 13934) ff_10_6 dX10_contraryTo_6 kt_101 (Nat.le_of_ble_eq_true rfl) fl_X10_100 rfl ?_
    refine z_icmp_ge (tgt := 47) dX10_contraryTo_9 (by decide) h (fun h => ?_) (fun h => ?_)
    · refine z_iload_n dX10_contraryTo_12 rfl 2 rfl ?_
      refine z_rload_n dX10_contraryTo_13 rfl 0 rfl ?_
      refine z_getR (q := 13930) ff_10_2 dX10_contraryTo_14 kt_101 (Nat.le_of_ble_eq_true rfl) fl_X10_54 rfl (hs.1 _ _ sr_13930) ?_
      refine z_iload_n dX10_contraryTo_17 rfl 1 rfl ?_
      refine z_rload_n dX10_contraryTo_18 rfl 0 rfl ?_
      refine z_getR (q := 13933) ff_10_5 dX10_contraryTo_19 kt_101 (Nat.le_of_ble_eq_true rfl) fl_X10_15 rfl (hs.1 _ _ sr_13933) ?_
      refine z_iload_n dX10_contraryTo_22 rfl 3 rfl ?_
      refine z_NE (i_X11_at kt_103 (Nat.le_of_ble_eq_true rfl)) ok_X11_at nw_X10_66 ⟨Nat.le_of_ble_eq_true rfl, Nat.le_of_ble_eq_true rfl⟩ ⟨Nat.zero_le _, Nat.zero_le _⟩ rfl rfl (Nat.le_of_ble_eq_true rfl) dX10_contraryTo_23 ?_
      refine z_VB (i_Floor_areContrary  hs h) vk_X3_areContrary kt_67 (Nat.le_of_ble_eq_true rfl) rfl ml_X10_131 ⟨Nat.le_of_ble_eq_true rfl, Nat.le_of_ble_eq_true rfl⟩ ⟨Nat.zero_le _, Nat.zero_le _⟩ rfl rfl (Nat.le_of_ble_eq_true rfl) dX10_contraryTo_26 (fun r26 μ_2 hs h => ?_)
      refine z_phi 39 [vi v2] (fun V9 hv J9 => ?_) h (fun x39 h => ?_)
      · refine z_ifeq_b (tgt := 38) dX10_contraryTo_29 (by decide) (eq_ite hv) (fun hv => ?_) (fun hv => ?_)
        · refine z_iconst dX10_contraryTo_32 ?_
          refine z_iload_n dX10_contraryTo_33 rfl 3 rfl ?_
          refine z_ishl dX10_contraryTo_34 ?_
          refine z_goto (tgt := 39) dX10_contraryTo_35 (by decide) ?_
          exact J9 _ hv.symm
        · refine z_iconst dX10_contraryTo_38 ?_
          exact J9 _ hv.symm
      · refine z_ior dX10_contraryTo_39 ?_
        refine z_nm (fun v2_1 ev2_1 => ?_)
        replace h := h v2_1 ev2_1
        refine z_istore_n (lv' := [(2, vi v2_1), (0, vr Γ 101), (1, vi a1), (3, vi v3)]) dX10_contraryTo_40 rfl (Nat.le_of_ble_eq_true rfl) rfl ?_
        refine z_iinc (j := 3) (lv' := [(3, vi (v3 + 1)), (2, vi v2_1), (0, vr Γ 101), (1, vi a1)]) dX10_contraryTo_41 rfl (Nat.le_of_ble_eq_true rfl) rfl ?_
        refine z_goto (tgt := 4) dX10_contraryTo_44 (by decide) ?_
        refine z_sub (lv' := [(0, vr Γ 101), (1, vi a1), (2, vi v2_1), (3, vi (v3 + 1))]) [2, 3, 1, 0] rfl ?_
        exact hR_4 v2_1 (v3 + 1) μ_2 hs h
    · refine z_sub (lv' := [(2, vi v2)]) [2] rfl ?_
      exact hX_4_47 v2 μ_1 hs h
theorem i_Worths_contraryTo {l : Launch} {Γ : Gam} {g : Nat} {a1 : Int} {μ : Mem} {k : Int → Mem → Prop} (hs : StatR μ.2.2) (h : f_Worths_contraryTo a1 μ k) : CT l Γ yX10_contraryTo cX10_contraryTo 4 (some .int) 3 70 0 0 [vr Γ 101, vi a1] g 175 μ (pI k) := by
  refine SW.ct (by decide) (Nat.le_of_ble_eq_true rfl) ?_
  refine z_sub (lv' := [(0, vr Γ 101), (1, vi a1)]) [0, 1] rfl ?_
  show SW l Γ yX10_contraryTo.cls cX10_contraryTo Y_Worths_contraryTo (pI k) g 175 0 0 μ 0 [(0, vr Γ 101), (1, vi a1)] []
  unfold f_Worths_contraryTo at h
  refine z_iconst dX10_contraryTo_0 ?_
  refine z_istore_n (lv' := [(2, vi 0), (0, vr Γ 101), (1, vi a1)]) dX10_contraryTo_1 rfl (Nat.le_of_ble_eq_true rfl) rfl ?_
  refine z_iconst dX10_contraryTo_2 ?_
  refine z_istore_n (lv' := [(3, vi 0), (2, vi 0), (0, vr Γ 101), (1, vi a1)]) dX10_contraryTo_3 rfl (Nat.le_of_ble_eq_true rfl) rfl ?_
  obtain ⟨m4, h⟩ := h
  refine z_sub (lv' := [(0, vr Γ 101), (1, vi a1), (2, vi 0), (3, vi 0)]) [2, 3, 1, 0] rfl ?_
  refine L_Worths_contraryTo_4 (fun v2_2 μ_3 hs h => ?_) m4 0 0 μ hs h
  refine z_iload_n dX10_contraryTo_47 rfl 0 rfl ?_
  exact z_iret rfl dX10_contraryTo_48 rfl rfl rfl ⟨_, rfl, hs, h⟩
abbrev Y_Worths_countMotion : Yt := (3, none, yX10_countMotion.name, { frames := 4, cells := 0, slots := 0, locals := 98 }, 175, 0, 0)
def f_Worths_countMotion (a1 : Int) (a2 : Nat) (μ : Mem) (k : Mem → Prop) : Prop := f_Count_take a1 (rI μ 1139 0) μ (fun μ_1 => f_Count_weigh a2 0 μ_1 (fun μ_2 => f_Count_sumUp (-1) μ_2 (fun μ_3 => k μ_3)))
theorem i_Worths_countMotion {l : Launch} {Γ : Gam} {g : Nat} {a1 : Int} {a2 : Nat} {μ : Mem} {k : Mem → Prop} (hr_a2 : isRu a2 = true) (hs : StatR μ.2.2) (h : f_Worths_countMotion a1 a2 μ k) : CT l Γ yX10_countMotion cX10_countMotion 3 none 4 98 0 0 [vr Γ 101, vi a1, vr Γ a2] g 175 μ (pV k) := by
  refine SW.ct (by decide) (Nat.le_of_ble_eq_true rfl) ?_
  refine z_sub (lv' := [(0, vr Γ 101), (1, vi a1), (2, vr Γ a2)]) [0, 1, 2] rfl ?_
  show SW l Γ yX10_countMotion.cls cX10_countMotion Y_Worths_countMotion (pV k) g 175 0 0 μ 0 [(0, vr Γ 101), (1, vi a1), (2, vr Γ a2)] []
  unfold f_Worths_countMotion at h
  refine z_rload_n dX10_countMotion_0 rfl 0 rfl ?_
  refine z_getR (q := 13931) ff_10_3 dX10_countMotion_1 kt_101 (Nat.le_of_ble_eq_true rfl) fl_X10_58 rfl (hs.1 _ _ sr_13931) ?_
  refine z_iload_n dX10_countMotion_4 rfl 1 rfl ?_
  refine z_rload_n dX10_countMotion_5 rfl 0 rfl ?_
  refine z_getR (q := 13928) ff_10_0 dX10_countMotion_6 kt_101 (Nat.le_of_ble_eq_true rfl) fl_X10_46 rfl (hs.1 _ _ sr_13928) ?_
  refine z_getI (q := 1139) ff_7_11 dX10_countMotion_9 kt_1 (Nat.le_of_ble_eq_true rfl) fl_X10_70 rfl ?_
  refine z_VU (i_Count_take  hs h) vk_X2_take kt_73 (Nat.le_of_ble_eq_true rfl) rfl ml_X10_76 ⟨Nat.le_of_ble_eq_true rfl, Nat.le_of_ble_eq_true rfl⟩ ⟨Nat.zero_le _, Nat.zero_le _⟩ rfl rfl (Nat.le_of_ble_eq_true rfl) dX10_countMotion_12 (fun μ_1 hs h => ?_)
  refine z_rload_n dX10_countMotion_15 rfl 0 rfl ?_
  refine z_getR (q := 13931) ff_10_3 dX10_countMotion_16 kt_101 (Nat.le_of_ble_eq_true rfl) fl_X10_58 rfl (hs.1 _ _ sr_13931) ?_
  refine z_rload_n dX10_countMotion_19 rfl 2 rfl ?_
  refine z_iconst dX10_countMotion_20 ?_
  refine z_VU (i_Count_weigh hr_a2 hs h) vk_X2_weigh kt_73 (Nat.le_of_ble_eq_true rfl) rfl ml_X10_82 ⟨Nat.le_of_ble_eq_true rfl, Nat.le_of_ble_eq_true rfl⟩ ⟨Nat.zero_le _, Nat.zero_le _⟩ rfl rfl (Nat.le_of_ble_eq_true rfl) dX10_countMotion_21 (fun μ_2 hs h => ?_)
  refine z_rload_n dX10_countMotion_24 rfl 0 rfl ?_
  refine z_getR (q := 13931) ff_10_3 dX10_countMotion_25 kt_101 (Nat.le_of_ble_eq_true rfl) fl_X10_58 rfl (hs.1 _ _ sr_13931) ?_
  refine z_iconst dX10_countMotion_28 ?_
  refine z_VU (i_Count_sumUp  hs h) vk_X2_sumUp kt_73 (Nat.le_of_ble_eq_true rfl) rfl ml_X10_86 ⟨Nat.le_of_ble_eq_true rfl, Nat.le_of_ble_eq_true rfl⟩ ⟨Nat.zero_le _, Nat.zero_le _⟩ rfl rfl (Nat.le_of_ble_eq_true rfl) dX10_countMotion_29 (fun μ_3 hs h => ?_)
  exact z_vret rfl dX10_countMotion_32 rfl rfl rfl ⟨rfl, hs, h⟩
abbrev Y_Worths_passesNow : Yt := (3, (some .int), yX10_passesNow.name, { frames := 3, cells := 0, slots := 0, locals := 76 }, 175, 0, 0)
def f_Worths_passesNow (a1 : Nat) (a2 : Int) (μ : Mem) (k : Int → Mem → Prop) : Prop := f_Count_passes a1 0 a2 (rI μ 1139 0) μ (fun r14 μ_1 => ∀ x25 : Int, x25 = (if r14 = true then 1 else 0) → k x25 μ_1)
theorem i_Worths_passesNow {l : Launch} {Γ : Gam} {g : Nat} {a1 : Nat} {a2 : Int} {μ : Mem} {k : Int → Mem → Prop} (hr_a1 : isRu a1 = true) (hs : StatR μ.2.2) (h : f_Worths_passesNow a1 a2 μ k) : CT l Γ yX10_passesNow cX10_passesNow 3 (some .int) 3 76 0 0 [vr Γ 101, vr Γ a1, vi a2] g 175 μ (pI k) := by
  refine SW.ct (by decide) (Nat.le_of_ble_eq_true rfl) ?_
  refine z_sub (lv' := [(0, vr Γ 101), (1, vr Γ a1), (2, vi a2)]) [0, 1, 2] rfl ?_
  show SW l Γ yX10_passesNow.cls cX10_passesNow Y_Worths_passesNow (pI k) g 175 0 0 μ 0 [(0, vr Γ 101), (1, vr Γ a1), (2, vi a2)] []
  unfold f_Worths_passesNow at h
  refine z_rload_n dX10_passesNow_0 rfl 0 rfl ?_
  refine z_getR (q := 13931) ff_10_3 dX10_passesNow_1 kt_101 (Nat.le_of_ble_eq_true rfl) fl_X10_58 rfl (hs.1 _ _ sr_13931) ?_
  refine z_rload_n dX10_passesNow_4 rfl 1 rfl ?_
  refine z_iconst dX10_passesNow_5 ?_
  refine z_iload_n dX10_passesNow_6 rfl 2 rfl ?_
  refine z_rload_n dX10_passesNow_7 rfl 0 rfl ?_
  refine z_getR (q := 13928) ff_10_0 dX10_passesNow_8 kt_101 (Nat.le_of_ble_eq_true rfl) fl_X10_46 rfl (hs.1 _ _ sr_13928) ?_
  refine z_getI (q := 1139) ff_7_11 dX10_passesNow_11 kt_1 (Nat.le_of_ble_eq_true rfl) fl_X10_70 rfl ?_
  refine z_VB (i_Count_passes hr_a1 hs h) vk_X2_passes kt_73 (Nat.le_of_ble_eq_true rfl) rfl ml_X10_90 ⟨Nat.le_of_ble_eq_true rfl, Nat.le_of_ble_eq_true rfl⟩ ⟨Nat.zero_le _, Nat.zero_le _⟩ rfl rfl (Nat.le_of_ble_eq_true rfl) dX10_passesNow_14 (fun r14 μ_1 hs h => ?_)
  refine z_phi 25 [] (fun V9 hv J9 => ?_) h (fun x25 h => ?_)
  · refine z_ifeq_b (tgt := 24) dX10_passesNow_17 (by decide) (eq_ite hv) (fun hv => ?_) (fun hv => ?_)
    · refine z_iconst dX10_passesNow_20 ?_
      refine z_goto (tgt := 25) dX10_passesNow_21 (by decide) ?_
      exact J9 _ hv.symm
    · refine z_iconst dX10_passesNow_24 ?_
      exact J9 _ hv.symm
  · exact z_iret rfl dX10_passesNow_25 rfl rfl rfl ⟨_, rfl, hs, h⟩
abbrev Y_Worths_prepare : Yt := (5, (some .boolean), yX10_prepare.name, { frames := 5, cells := 0, slots := 0, locals := 120 }, 175, 0, 0)
def l_Worths_prepare_33 (r27 : Nat) (X_33_142 : Mem → Prop) : Nat → Int → Mem → Prop
  | 0, _, _ => False
  | fu33 + 1, v3, μ_4 => if w v3 < w (rI μ_4 13934 0) then (∀ v4 : Int, v4 = at' μ_4 103 6 v3 → f_Worths_countMotion v4 r27 μ_4 (fun μ_5 => f_Worths_passesNow r27 0 μ_5 (fun r66 μ_6 => ∀ μ_7 : Mem, μ_7 = set' μ_6 104 6 v3 r66 → f_Worths_passesNow r27 1 μ_7 (fun r80 μ_8 => ∀ μ_9 : Mem, μ_9 = set' μ_8 105 6 v3 r80 → f_Worths_contraryTo v4 μ_9 (fun r94 μ_10 => ∀ μ_11 : Mem, μ_11 = set' μ_10 106 6 v3 r94 → f_Floor_bitsOf v4 1 μ_11 (fun r112 μ_12 => ∀ μ_13 : Mem, μ_13 = setL' μ_12 107 6 v3 r112 → f_Floor_bitsOf v4 (-1) μ_13 (fun r130 μ_14 => ∀ μ_15 : Mem, μ_15 = setL' μ_14 108 6 v3 r130 → (l_Worths_prepare_33 r27 X_33_142 fu33) (v3 + 1) μ_15))))))) else (X_33_142 μ_4)
def f_Worths_prepare (a1 : Int) (μ : Mem) (k : Bool → Mem → Prop) : Prop := f_Floor_chosen a1 103 6 μ (fun r10 μ_1 => ∀ μ_2 : Mem, μ_2 = sI μ_1 13934 0 r10 → f_Papers_inForce (rI μ_2 9584 0) μ_2 (fun r27 μ_3 => isRu r27 = true ∧ ∃ m33 : Nat, l_Worths_prepare_33 r27 (fun (μ_16 : Mem) => ∀ x154 : Bool, x154 = (if 0 < w (rI μ_16 13934 0) then true else false) → k x154 μ_16) m33 0 μ_3))
theorem L_Worths_prepare_33 {l : Launch} {Γ : Gam} {g : Nat} {r27 : Nat} {X_33_142 : Mem → Prop} {k : Bool → Mem → Prop} (hr_r27 : isRu r27 = true) (hX_33_142 : ∀ (ν : Mem), StatR ν.2.2 → X_33_142 ν → SW l Γ yX10_prepare.cls cX10_prepare Y_Worths_prepare (pB k) g 175 0 0 ν 142 [(0, vr Γ 101)] []) (n9 : Nat) : ∀ (v3 : Int) (μ_4 : Mem), StatR μ_4.2.2 → l_Worths_prepare_33 r27 X_33_142 n9 v3 μ_4 → SW l Γ yX10_prepare.cls cX10_prepare Y_Worths_prepare (pB k) g 175 0 0 μ_4 33 [(0, vr Γ 101), (2, vr Γ r27), (3, vi v3)] [] := by
  induction n9 with
  | zero =>
    intro v3 μ_4 hs h
    exact h.elim
  | succ n9 hR_33 =>
    intro v3 μ_4 hs h
    rw [l_Worths_prepare_33] at h
    refine z_iload_n dX10_prepare_33 rfl 2 rfl ?_
    refine z_rload_n dX10_prepare_34 rfl 0 rfl ?_
    refine z_getI (q := 13934) ff_10_6 dX10_prepare_35 kt_101 (Nat.le_of_ble_eq_true rfl) fl_X10_100 rfl ?_
    refine z_icmp_ge (tgt := 142) dX10_prepare_38 (by decide) h (fun h => ?_) (fun h => ?_)
    · refine z_rload_n dX10_prepare_41 rfl 0 rfl ?_
      refine z_getR (q := 13933) ff_10_5 dX10_prepare_42 kt_101 (Nat.le_of_ble_eq_true rfl) fl_X10_15 rfl (hs.1 _ _ sr_13933) ?_
      refine z_iload_n dX10_prepare_45 rfl 2 rfl ?_
      refine z_NE (i_X11_at kt_103 (Nat.le_of_ble_eq_true rfl)) ok_X11_at nw_X10_66 ⟨Nat.le_of_ble_eq_true rfl, Nat.le_of_ble_eq_true rfl⟩ ⟨Nat.zero_le _, Nat.zero_le _⟩ rfl rfl (Nat.le_of_ble_eq_true rfl) dX10_prepare_46 ?_
      refine z_nm (fun v4 ev4 => ?_)
      replace h := h v4 ev4
      refine z_istore (lv' := [(4, vi v4), (0, vr Γ 101), (2, vr Γ r27), (3, vi v3)]) dX10_prepare_49 (Nat.le_of_ble_eq_true rfl) rfl ?_
      refine z_rload_n dX10_prepare_51 rfl 1 rfl ?_
      refine z_iload dX10_prepare_52 0 rfl ?_
      refine z_rload_n dX10_prepare_54 rfl 2 rfl ?_
      refine z_VU (i_Worths_countMotion hr_r27 hs h) vk_X10_countMotion kt_101 (Nat.le_of_ble_eq_true rfl) rfl ml_X10_112 ⟨Nat.le_of_ble_eq_true rfl, Nat.le_of_ble_eq_true rfl⟩ ⟨Nat.zero_le _, Nat.zero_le _⟩ rfl rfl (Nat.le_of_ble_eq_true rfl) dX10_prepare_55 (fun μ_5 hs h => ?_)
      refine z_rload_n dX10_prepare_58 rfl 1 rfl ?_
      refine z_getR (q := 13935) ff_10_7 dX10_prepare_59 kt_101 (Nat.le_of_ble_eq_true rfl) fl_X10_18 rfl (hs.1 _ _ sr_13935) ?_
      refine z_iload_n dX10_prepare_62 rfl 3 rfl ?_
      refine z_rload_n dX10_prepare_63 rfl 1 rfl ?_
      refine z_rload_n dX10_prepare_64 rfl 2 rfl ?_
      refine z_iconst dX10_prepare_65 ?_
      refine z_VI (i_Worths_passesNow hr_r27 hs h) vk_X10_passesNow kt_101 (Nat.le_of_ble_eq_true rfl) rfl ml_X10_116 ⟨Nat.le_of_ble_eq_true rfl, Nat.le_of_ble_eq_true rfl⟩ ⟨Nat.zero_le _, Nat.zero_le _⟩ rfl rfl (Nat.le_of_ble_eq_true rfl) dX10_prepare_66 (fun r66 μ_6 hs h => ?_)
      refine z_NM (i_X11_set kt_104 (Nat.le_of_ble_eq_true rfl)) ok_X11_set nw_X10_62 ⟨Nat.le_of_ble_eq_true rfl, Nat.le_of_ble_eq_true rfl⟩ ⟨Nat.zero_le _, Nat.zero_le _⟩ rfl rfl (Nat.le_of_ble_eq_true rfl) dX10_prepare_69 ?_
      refine z_mm (fun μ_7 eμ_7 => ?_)
      replace h := h μ_7 eμ_7
      replace hs : StatR μ_7.2.2 := by rw [eμ_7]; exact (StatR.set hs)
      refine z_rload_n dX10_prepare_72 rfl 1 rfl ?_
      refine z_getR (q := 13936) ff_10_8 dX10_prepare_73 kt_101 (Nat.le_of_ble_eq_true rfl) fl_X10_21 rfl (hs.1 _ _ sr_13936) ?_
      refine z_iload_n dX10_prepare_76 rfl 3 rfl ?_
      refine z_rload_n dX10_prepare_77 rfl 1 rfl ?_
      refine z_rload_n dX10_prepare_78 rfl 2 rfl ?_
      refine z_iconst dX10_prepare_79 ?_
      refine z_VI (i_Worths_passesNow hr_r27 hs h) vk_X10_passesNow kt_101 (Nat.le_of_ble_eq_true rfl) rfl ml_X10_116 ⟨Nat.le_of_ble_eq_true rfl, Nat.le_of_ble_eq_true rfl⟩ ⟨Nat.zero_le _, Nat.zero_le _⟩ rfl rfl (Nat.le_of_ble_eq_true rfl) dX10_prepare_80 (fun r80 μ_8 hs h => ?_)
      refine z_NM (i_X11_set kt_105 (Nat.le_of_ble_eq_true rfl)) ok_X11_set nw_X10_62 ⟨Nat.le_of_ble_eq_true rfl, Nat.le_of_ble_eq_true rfl⟩ ⟨Nat.zero_le _, Nat.zero_le _⟩ rfl rfl (Nat.le_of_ble_eq_true rfl) dX10_prepare_83 ?_
      refine z_mm (fun μ_9 eμ_9 => ?_)
      replace h := h μ_9 eμ_9
      replace hs : StatR μ_9.2.2 := by rw [eμ_9]; exact (StatR.set hs)
      refine z_rload_n dX10_prepare_86 rfl 1 rfl ?_
      refine z_getR (q := 13937) ff_10_9 dX10_prepare_87 kt_101 (Nat.le_of_ble_eq_true rfl) fl_X10_24 rfl (hs.1 _ _ sr_13937) ?_
      refine z_iload_n dX10_prepare_90 rfl 3 rfl ?_
      refine z_rload_n dX10_prepare_91 rfl 1 rfl ?_
      refine z_iload dX10_prepare_92 0 rfl ?_
      refine z_VI (i_Worths_contraryTo  hs h) vk_X10_contraryTo kt_101 (Nat.le_of_ble_eq_true rfl) rfl ml_X10_120 ⟨Nat.le_of_ble_eq_true rfl, Nat.le_of_ble_eq_true rfl⟩ ⟨Nat.zero_le _, Nat.zero_le _⟩ rfl rfl (Nat.le_of_ble_eq_true rfl) dX10_prepare_94 (fun r94 μ_10 hs h => ?_)
      refine z_NM (i_X11_set kt_106 (Nat.le_of_ble_eq_true rfl)) ok_X11_set nw_X10_62 ⟨Nat.le_of_ble_eq_true rfl, Nat.le_of_ble_eq_true rfl⟩ ⟨Nat.zero_le _, Nat.zero_le _⟩ rfl rfl (Nat.le_of_ble_eq_true rfl) dX10_prepare_97 ?_
      refine z_mm (fun μ_11 eμ_11 => ?_)
      replace h := h μ_11 eμ_11
      replace hs : StatR μ_11.2.2 := by rw [eμ_11]; exact (StatR.set hs)
      refine z_rload_n dX10_prepare_100 rfl 1 rfl ?_
      refine z_getR (q := 13938) ff_10_10 dX10_prepare_101 kt_101 (Nat.le_of_ble_eq_true rfl) fl_X10_27 rfl (hs.1 _ _ sr_13938) ?_
      refine z_iload_n dX10_prepare_104 rfl 3 rfl ?_
      refine z_rload_n dX10_prepare_105 rfl 1 rfl ?_
      refine z_getR (q := 13930) ff_10_2 dX10_prepare_106 kt_101 (Nat.le_of_ble_eq_true rfl) fl_X10_54 rfl (hs.1 _ _ sr_13930) ?_
      refine z_iload dX10_prepare_109 0 rfl ?_
      refine z_iconst dX10_prepare_111 ?_
      refine z_VL (i_Floor_bitsOf  hs h) vk_X3_bitsOf kt_67 (Nat.le_of_ble_eq_true rfl) rfl ml_X10_124 ⟨Nat.le_of_ble_eq_true rfl, Nat.le_of_ble_eq_true rfl⟩ ⟨Nat.zero_le _, Nat.zero_le _⟩ rfl rfl (Nat.le_of_ble_eq_true rfl) dX10_prepare_112 (fun r112 μ_12 hs h => ?_)
      refine z_NM (i_X11_set_ kt_107 (Nat.le_of_ble_eq_true rfl)) ok_X11_set_ nw_X10_128 ⟨Nat.le_of_ble_eq_true rfl, Nat.le_of_ble_eq_true rfl⟩ ⟨Nat.zero_le _, Nat.zero_le _⟩ rfl rfl (Nat.le_of_ble_eq_true rfl) dX10_prepare_115 ?_
      refine z_mm (fun μ_13 eμ_13 => ?_)
      replace h := h μ_13 eμ_13
      replace hs : StatR μ_13.2.2 := by rw [eμ_13]; exact (StatR.setL hs)
      refine z_rload_n dX10_prepare_118 rfl 1 rfl ?_
      refine z_getR (q := 13939) ff_10_11 dX10_prepare_119 kt_101 (Nat.le_of_ble_eq_true rfl) fl_X10_31 rfl (hs.1 _ _ sr_13939) ?_
      refine z_iload_n dX10_prepare_122 rfl 3 rfl ?_
      refine z_rload_n dX10_prepare_123 rfl 1 rfl ?_
      refine z_getR (q := 13930) ff_10_2 dX10_prepare_124 kt_101 (Nat.le_of_ble_eq_true rfl) fl_X10_54 rfl (hs.1 _ _ sr_13930) ?_
      refine z_iload dX10_prepare_127 0 rfl ?_
      refine z_iconst dX10_prepare_129 ?_
      refine z_VL (i_Floor_bitsOf  hs h) vk_X3_bitsOf kt_67 (Nat.le_of_ble_eq_true rfl) rfl ml_X10_124 ⟨Nat.le_of_ble_eq_true rfl, Nat.le_of_ble_eq_true rfl⟩ ⟨Nat.zero_le _, Nat.zero_le _⟩ rfl rfl (Nat.le_of_ble_eq_true rfl) dX10_prepare_130 (fun r130 μ_14 hs h => ?_)
      refine z_NM (i_X11_set_ kt_108 (Nat.le_of_ble_eq_true rfl)) ok_X11_set_ nw_X10_128 ⟨Nat.le_of_ble_eq_true rfl, Nat.le_of_ble_eq_true rfl⟩ ⟨Nat.zero_le _, Nat.zero_le _⟩ rfl rfl (Nat.le_of_ble_eq_true rfl) dX10_prepare_133 ?_
      refine z_mm (fun μ_15 eμ_15 => ?_)
      replace h := h μ_15 eμ_15
      replace hs : StatR μ_15.2.2 := by rw [eμ_15]; exact (StatR.setL hs)
      refine z_iinc (j := 3) (lv' := [(3, vi (v3 + 1)), (4, vi v4), (0, vr Γ 101), (2, vr Γ r27)]) dX10_prepare_136 rfl (Nat.le_of_ble_eq_true rfl) rfl ?_
      refine z_goto (tgt := 33) dX10_prepare_139 (by decide) ?_
      refine z_sub (lv' := [(0, vr Γ 101), (2, vr Γ r27), (3, vi (v3 + 1))]) [2, 3, 0] rfl ?_
      exact hR_33 (v3 + 1) μ_15 hs h
    · refine z_sub (lv' := [(0, vr Γ 101)]) [0] rfl ?_
      exact hX_33_142 μ_4 hs h
theorem i_Worths_prepare {l : Launch} {Γ : Gam} {g : Nat} {a1 : Int} {μ : Mem} {k : Bool → Mem → Prop} (hs : StatR μ.2.2) (h : f_Worths_prepare a1 μ k) : CT l Γ yX10_prepare cX10_prepare 5 (some .boolean) 5 120 0 0 [vr Γ 101, vi a1] g 175 μ (pB k) := by
  refine SW.ct (by decide) (Nat.le_of_ble_eq_true rfl) ?_
  refine z_sub (lv' := [(0, vr Γ 101), (1, vi a1)]) [0, 1] rfl ?_
  show SW l Γ yX10_prepare.cls cX10_prepare Y_Worths_prepare (pB k) g 175 0 0 μ 0 [(0, vr Γ 101), (1, vi a1)] []
  unfold f_Worths_prepare at h
  refine z_rload_n dX10_prepare_0 rfl 0 rfl ?_
  refine z_rload_n dX10_prepare_1 rfl 0 rfl ?_
  refine z_getR (q := 13930) ff_10_2 dX10_prepare_2 kt_101 (Nat.le_of_ble_eq_true rfl) fl_X10_54 rfl (hs.1 _ _ sr_13930) ?_
  refine z_iload_n dX10_prepare_5 rfl 1 rfl ?_
  refine z_rload_n dX10_prepare_6 rfl 0 rfl ?_
  refine z_getR (q := 13933) ff_10_5 dX10_prepare_7 kt_101 (Nat.le_of_ble_eq_true rfl) fl_X10_15 rfl (hs.1 _ _ sr_13933) ?_
  refine z_VI (i_Floor_chosen kt_103 (Nat.le_of_ble_eq_true rfl) hs h) vk_X3_chosen kt_67 (Nat.le_of_ble_eq_true rfl) rfl ml_X10_94 ⟨Nat.le_of_ble_eq_true rfl, Nat.le_of_ble_eq_true rfl⟩ ⟨Nat.zero_le _, Nat.zero_le _⟩ rfl rfl (Nat.le_of_ble_eq_true rfl) dX10_prepare_10 (fun r10 μ_1 hs h => ?_)
  refine z_putI (q := 13934) ff_10_6 (Or.inl rfl) rfl dX10_prepare_13 kt_101 (Nat.le_of_ble_eq_true rfl) fl_X10_100 rfl ?_
  refine z_mm (fun μ_2 eμ_2 => ?_)
  replace h := h μ_2 eμ_2
  replace hs : StatR μ_2.2.2 := by rw [eμ_2]; exact hs
  refine z_rload_n dX10_prepare_16 rfl 0 rfl ?_
  refine z_getR (q := 13929) ff_10_1 dX10_prepare_17 kt_101 (Nat.le_of_ble_eq_true rfl) fl_X10_50 rfl (hs.1 _ _ sr_13929) ?_
  refine z_rload_n dX10_prepare_20 rfl 0 rfl ?_
  refine z_getR (q := 13930) ff_10_2 dX10_prepare_21 kt_101 (Nat.le_of_ble_eq_true rfl) fl_X10_54 rfl (hs.1 _ _ sr_13930) ?_
  refine z_getI (q := 9584) ff_3_8 dX10_prepare_24 kt_67 (Nat.le_of_ble_eq_true rfl) fl_X10_103 rfl ?_
  refine z_VA (i_Papers_inForce  hs h) vk_X6_inForce kt_12 (Nat.le_of_ble_eq_true rfl) rfl ml_X10_106 ⟨Nat.le_of_ble_eq_true rfl, Nat.le_of_ble_eq_true rfl⟩ ⟨Nat.zero_le _, Nat.zero_le _⟩ rfl rfl (Nat.le_of_ble_eq_true rfl) dX10_prepare_27 (fun r27 μ_3 hs h => ?_)
  obtain ⟨hr_r27, h⟩ := h
  refine z_rstore_n (lv' := [(2, vr Γ r27), (0, vr Γ 101), (1, vi a1)]) dX10_prepare_30 rfl (Nat.le_of_ble_eq_true rfl) rfl ?_
  refine z_iconst dX10_prepare_31 ?_
  refine z_istore_n (lv' := [(3, vi 0), (2, vr Γ r27), (0, vr Γ 101), (1, vi a1)]) dX10_prepare_32 rfl (Nat.le_of_ble_eq_true rfl) rfl ?_
  obtain ⟨m33, h⟩ := h
  refine z_sub (lv' := [(0, vr Γ 101), (2, vr Γ r27), (3, vi 0)]) [2, 1, 0] rfl ?_
  refine L_Worths_prepare_33 hr_r27 (fun μ_16 hs h => ?_) m33 0 μ_3 hs h
  refine z_rload_n dX10_prepare_142 rfl 0 rfl ?_
  refine z_getI (q := 13934) ff_10_6 dX10_prepare_143 kt_101 (Nat.le_of_ble_eq_true rfl) fl_X10_100 rfl ?_
  refine z_phiB 154 [] (fun V9 hv J9 => ?_) h (fun x154 h => ?_)
  · refine z_if_le (tgt := 153) dX10_prepare_146 (by decide) (eq_ite hv) (fun hv => ?_) (fun hv => ?_)
    · refine z_iconst dX10_prepare_149 ?_
      refine z_goto (tgt := 154) dX10_prepare_150 (by decide) ?_
      exact J9 true hv.symm
    · refine z_iconst dX10_prepare_153 ?_
      exact J9 false hv.symm
  · exact z_zret (b := x154) rfl dX10_prepare_154 rfl rfl rfl ⟨_, rfl, hs, h⟩
abbrev Y_Worths_readOrder : Yt := (6, (some .boolean), yX10_readOrder.name, { frames := 1, cells := 0, slots := 0, locals := 22 }, 175, 0, 0)
def l_Worths_readOrder_12 (X_12_48 : Mem → Prop) (X_12_79 : Int → Mem → Prop) : Nat → Int → Int → Int → Mem → Prop
  | 0, _, _, _, _ => False
  | fu12 + 1, v2, v3, v4_1, μ_1 => if w v4_1 < 0 then (X_12_79 v2 μ_1) else (∀ v5 : Int, v5 = (w_irem v2 10) - 1 → if w v5 < 0 then (X_12_48 μ_1) else (if w v5 < w (rI μ_1 13934 0) then (if w (w_iand (w_iushr v3 v5) 1) = 0 then (∀ v3_1 : Int, v3_1 = w_ior v3 (w_ishl 1 v5) → ∀ μ_2 : Mem, μ_2 = set' μ_1 109 6 v4_1 v5 → ∀ v2_1 : Int, v2_1 = w_idiv v2 10 → (l_Worths_readOrder_12 X_12_48 X_12_79 fu12) v2_1 v3_1 (v4_1 + (-1)) μ_2) else (X_12_48 μ_1)) else (X_12_48 μ_1)))
def f_Worths_readOrder (a1 : Int) (μ : Mem) (k : Bool → Mem → Prop) : Prop := ∀ v4 : Int, v4 = (rI μ 13934 0) - 1 → ∃ m12 : Nat, l_Worths_readOrder_12 (fun (μ_3 : Mem) => k false μ_3) (fun (v2_2 : Int) (μ_4 : Mem) => ∀ x88 : Bool, x88 = (if w v2_2 = 0 then true else false) → k x88 μ_4) m12 a1 0 v4 μ
theorem L_Worths_readOrder_12 {l : Launch} {Γ : Gam} {g : Nat} {X_12_48 : Mem → Prop} {X_12_79 : Int → Mem → Prop} {k : Bool → Mem → Prop} (hX_12_48 : ∀ (ν : Mem), StatR ν.2.2 → X_12_48 ν → SW l Γ yX10_readOrder.cls cX10_readOrder Y_Worths_readOrder (pB k) g 175 0 0 ν 48 [] []) (hX_12_79 : ∀ (u2 : Int) (ν : Mem), StatR ν.2.2 → X_12_79 u2 ν → SW l Γ yX10_readOrder.cls cX10_readOrder Y_Worths_readOrder (pB k) g 175 0 0 ν 79 [(2, vi u2)] []) (n9 : Nat) : ∀ (v2 : Int) (v3 : Int) (v4_1 : Int) (μ_1 : Mem), StatR μ_1.2.2 → l_Worths_readOrder_12 X_12_48 X_12_79 n9 v2 v3 v4_1 μ_1 → SW l Γ yX10_readOrder.cls cX10_readOrder Y_Worths_readOrder (pB k) g 175 0 0 μ_1 12 [(0, vr Γ 101), (2, vi v2), (3, vi v3), (4, vi v4_1)] [] := by
  induction n9 with
  | zero =>
    intro v2 v3 v4_1 μ_1 hs h
    exact h.elim
  | succ n9 hR_12 =>
    intro v2 v3 v4_1 μ_1 hs h
    rw [l_Worths_readOrder_12] at h
    refine z_iload dX10_readOrder_12 3 rfl ?_
    refine z_if_lt (tgt := 79) dX10_readOrder_14 (by decide) h (fun h => ?_) (fun h => ?_)
    · refine z_sub (lv' := [(2, vi v2)]) [1] rfl ?_
      exact hX_12_79 v2 μ_1 hs h
    · refine z_iload_n dX10_readOrder_17 rfl 1 rfl ?_
      refine z_bipush dX10_readOrder_18 (by decide) ?_
      refine z_irem dX10_readOrder_20 (by decide) ?_
      refine z_iconst dX10_readOrder_21 ?_
      refine z_isub dX10_readOrder_22 ?_
      refine z_nm (fun v5 ev5 => ?_)
      replace h := h v5 ev5
      refine z_istore (lv' := [(5, vi v5), (0, vr Γ 101), (2, vi v2), (3, vi v3), (4, vi v4_1)]) dX10_readOrder_23 (Nat.le_of_ble_eq_true rfl) rfl ?_
      refine z_iload dX10_readOrder_25 0 rfl ?_
      refine z_if_lt (tgt := 48) dX10_readOrder_27 (by decide) h (fun h => ?_) (fun h => ?_)
      · refine z_sub (lv' := []) [] rfl ?_
        exact hX_12_48 μ_1 hs h
      · refine z_iload dX10_readOrder_30 0 rfl ?_
        refine z_rload_n dX10_readOrder_32 rfl 1 rfl ?_
        refine z_getI (q := 13934) ff_10_6 dX10_readOrder_33 kt_101 (Nat.le_of_ble_eq_true rfl) fl_X10_100 rfl ?_
        refine z_icmp_ge (tgt := 48) dX10_readOrder_36 (by decide) h (fun h => ?_) (fun h => ?_)
        · refine z_iload_n dX10_readOrder_39 rfl 3 rfl ?_
          refine z_iload dX10_readOrder_40 0 rfl ?_
          refine z_iushr dX10_readOrder_42 ?_
          refine z_iconst dX10_readOrder_43 ?_
          refine z_iand dX10_readOrder_44 ?_
          refine z_if_eq (tgt := 50) dX10_readOrder_45 (by decide) h (fun h => ?_) (fun h => ?_)
          · refine z_iload_n dX10_readOrder_50 rfl 3 rfl ?_
            refine z_iconst dX10_readOrder_51 ?_
            refine z_iload dX10_readOrder_52 0 rfl ?_
            refine z_ishl dX10_readOrder_54 ?_
            refine z_ior dX10_readOrder_55 ?_
            refine z_nm (fun v3_1 ev3_1 => ?_)
            replace h := h v3_1 ev3_1
            refine z_istore_n (lv' := [(3, vi v3_1), (5, vi v5), (0, vr Γ 101), (2, vi v2), (4, vi v4_1)]) dX10_readOrder_56 rfl (Nat.le_of_ble_eq_true rfl) rfl ?_
            refine z_rload_n dX10_readOrder_57 rfl 2 rfl ?_
            refine z_getR (q := 13940) ff_10_12 dX10_readOrder_58 kt_101 (Nat.le_of_ble_eq_true rfl) fl_X10_34 rfl (hs.1 _ _ sr_13940) ?_
            refine z_iload dX10_readOrder_61 4 rfl ?_
            refine z_iload dX10_readOrder_63 1 rfl ?_
            refine z_NM (i_X11_set kt_109 (Nat.le_of_ble_eq_true rfl)) ok_X11_set nw_X10_62 ⟨Nat.le_of_ble_eq_true rfl, Nat.le_of_ble_eq_true rfl⟩ ⟨Nat.zero_le _, Nat.zero_le _⟩ rfl rfl (Nat.le_of_ble_eq_true rfl) dX10_readOrder_65 ?_
            refine z_mm (fun μ_2 eμ_2 => ?_)
            replace h := h μ_2 eμ_2
            replace hs : StatR μ_2.2.2 := by rw [eμ_2]; exact (StatR.set hs)
            refine z_iload_n dX10_readOrder_68 rfl 3 rfl ?_
            refine z_bipush dX10_readOrder_69 (by decide) ?_
            refine z_idiv dX10_readOrder_71 (by decide) ?_
            refine z_nm (fun v2_1 ev2_1 => ?_)
            replace h := h v2_1 ev2_1
            refine z_istore_n (lv' := [(2, vi v2_1), (3, vi v3_1), (5, vi v5), (0, vr Γ 101), (4, vi v4_1)]) dX10_readOrder_72 rfl (Nat.le_of_ble_eq_true rfl) rfl ?_
            refine z_iinc (j := 4) (lv' := [(4, vi (v4_1 + (-1))), (2, vi v2_1), (3, vi v3_1), (5, vi v5), (0, vr Γ 101)]) dX10_readOrder_73 rfl (Nat.le_of_ble_eq_true rfl) rfl ?_
            refine z_goto (tgt := 12) dX10_readOrder_76 (by decide) ?_
            refine z_sub (lv' := [(0, vr Γ 101), (2, vi v2_1), (3, vi v3_1), (4, vi (v4_1 + (-1)))]) [4, 1, 2, 0] rfl ?_
            exact hR_12 v2_1 v3_1 (v4_1 + (-1)) μ_2 hs h
          · refine z_sub (lv' := []) [] rfl ?_
            exact hX_12_48 μ_1 hs h
        · refine z_sub (lv' := []) [] rfl ?_
          exact hX_12_48 μ_1 hs h
theorem i_Worths_readOrder {l : Launch} {Γ : Gam} {g : Nat} {a1 : Int} {μ : Mem} {k : Bool → Mem → Prop} (hs : StatR μ.2.2) (h : f_Worths_readOrder a1 μ k) : CT l Γ yX10_readOrder cX10_readOrder 6 (some .boolean) 1 22 0 0 [vr Γ 101, vi a1] g 175 μ (pB k) := by
  refine SW.ct (by decide) (Nat.le_of_ble_eq_true rfl) ?_
  refine z_sub (lv' := [(0, vr Γ 101), (1, vi a1)]) [0, 1] rfl ?_
  show SW l Γ yX10_readOrder.cls cX10_readOrder Y_Worths_readOrder (pB k) g 175 0 0 μ 0 [(0, vr Γ 101), (1, vi a1)] []
  unfold f_Worths_readOrder at h
  refine z_iload_n dX10_readOrder_0 rfl 1 rfl ?_
  refine z_istore_n (lv' := [(2, vi a1), (0, vr Γ 101), (1, vi a1)]) dX10_readOrder_1 rfl (Nat.le_of_ble_eq_true rfl) rfl ?_
  refine z_iconst dX10_readOrder_2 ?_
  refine z_istore_n (lv' := [(3, vi 0), (2, vi a1), (0, vr Γ 101), (1, vi a1)]) dX10_readOrder_3 rfl (Nat.le_of_ble_eq_true rfl) rfl ?_
  refine z_rload_n dX10_readOrder_4 rfl 2 rfl ?_
  refine z_getI (q := 13934) ff_10_6 dX10_readOrder_5 kt_101 (Nat.le_of_ble_eq_true rfl) fl_X10_100 rfl ?_
  refine z_iconst dX10_readOrder_8 ?_
  refine z_isub dX10_readOrder_9 ?_
  refine z_nm (fun v4 ev4 => ?_)
  replace h := h v4 ev4
  refine z_istore (lv' := [(4, vi v4), (3, vi 0), (2, vi a1), (0, vr Γ 101), (1, vi a1)]) dX10_readOrder_10 (Nat.le_of_ble_eq_true rfl) rfl ?_
  obtain ⟨m12, h⟩ := h
  refine z_sub (lv' := [(0, vr Γ 101), (2, vi a1), (3, vi 0), (4, vi v4)]) [3, 2, 1, 0] rfl ?_
  refine L_Worths_readOrder_12 (fun μ_3 hs h => ?_) (fun v2_2 μ_4 hs h => ?_) m12 a1 0 v4 μ hs h
  · refine z_iconst dX10_readOrder_48 ?_
    exact z_zret (b := false) rfl dX10_readOrder_49 rfl rfl rfl ⟨_, rfl, hs, h⟩
  · refine z_iload_n dX10_readOrder_79 rfl 0 rfl ?_
    refine z_phiB 88 [] (fun V9 hv J9 => ?_) h (fun x88 h => ?_)
    · refine z_if_ne (tgt := 87) dX10_readOrder_80 (by decide) (eq_ite hv) (fun hv => ?_) (fun hv => ?_)
      · refine z_iconst dX10_readOrder_83 ?_
        refine z_goto (tgt := 88) dX10_readOrder_84 (by decide) ?_
        exact J9 true hv.symm
      · refine z_iconst dX10_readOrder_87 ?_
        exact J9 false hv.symm
    · exact z_zret (b := x88) rfl dX10_readOrder_88 rfl rfl rfl ⟨_, rfl, hs, h⟩
abbrev Y_H_inOrder : Yt := (4, (some .int), yX11_inOrder.name, { frames := 6, cells := 0, slots := 0, locals := 144 }, 175, 0, 0)
def f_H_inOrder (a1 : Int) (a2 : Int) (a3 : Int) (μ : Mem) (k : Int → Mem → Prop) : Prop := if (v_Reg_hasAffiliate a3 μ) = true then (f_Worths_prepare a1 μ (fun r16 μ_1 => if r16 = true then (f_Worths_readOrder a2 μ_1 (fun r27 μ_2 => if r27 = true then (f_Worths_along a3 μ_2 (fun r42 μ_3 => k r42 μ_3)) else (k (-1000) μ_2))) else (k (-1000) μ_1))) else (k (-1000) μ)
theorem i_H_inOrder {l : Launch} {Γ : Gam} {g : Nat} {a1 : Int} {a2 : Int} {a3 : Int} {μ : Mem} {k : Int → Mem → Prop} (hs : StatR μ.2.2) (h : f_H_inOrder a1 a2 a3 μ k) : CT l Γ yX11_inOrder cX11_inOrder 4 (some .int) 6 144 0 0 [vr Γ 0, vi a1, vi a2, vi a3] g 175 μ (pI k) := by
  refine SW.ct (by decide) (Nat.le_of_ble_eq_true rfl) ?_
  refine z_sub (lv' := [(0, vr Γ 0), (1, vi a1), (2, vi a2), (3, vi a3)]) [0, 1, 2, 3] rfl ?_
  show SW l Γ yX11_inOrder.cls cX11_inOrder Y_H_inOrder (pI k) g 175 0 0 μ 0 [(0, vr Γ 0), (1, vi a1), (2, vi a2), (3, vi a3)] []
  unfold f_H_inOrder at h
  refine z_rload_n dX11_inOrder_0 rfl 0 rfl ?_
  refine z_getR (q := 1000) ff_11_0 dX11_inOrder_1 kt_0 (Nat.le_of_ble_eq_true rfl) fl_X11_12 rfl (hs.1 _ _ sr_1000) ?_
  refine z_iload_n dX11_inOrder_4 rfl 3 rfl ?_
  refine z_VE (i_Reg_hasAffiliate ) vk_X7_hasAffiliate kt_1 (Nat.le_of_ble_eq_true rfl) rfl ml_X11_103 ⟨Nat.le_of_ble_eq_true rfl, Nat.le_of_ble_eq_true rfl⟩ ⟨Nat.zero_le _, Nat.zero_le _⟩ rfl rfl (Nat.le_of_ble_eq_true rfl) dX11_inOrder_5 ?_
  refine z_ifeq_b (tgt := 33) dX11_inOrder_8 (by decide) h (fun h => ?_) (fun h => ?_)
  · refine z_rload_n dX11_inOrder_11 rfl 0 rfl ?_
    refine z_getR (q := 1009) ff_11_9 dX11_inOrder_12 kt_0 (Nat.le_of_ble_eq_true rfl) fl_X11_91 rfl (hs.1 _ _ sr_1009) ?_
    refine z_iload_n dX11_inOrder_15 rfl 1 rfl ?_
    refine z_VB (i_Worths_prepare  hs h) vk_X10_prepare kt_101 (Nat.le_of_ble_eq_true rfl) rfl ml_X11_332 ⟨Nat.le_of_ble_eq_true rfl, Nat.le_of_ble_eq_true rfl⟩ ⟨Nat.zero_le _, Nat.zero_le _⟩ rfl rfl (Nat.le_of_ble_eq_true rfl) dX11_inOrder_16 (fun r16 μ_1 hs h => ?_)
    refine z_ifeq_b (tgt := 33) dX11_inOrder_19 (by decide) h (fun h => ?_) (fun h => ?_)
    · refine z_rload_n dX11_inOrder_22 rfl 0 rfl ?_
      refine z_getR (q := 1009) ff_11_9 dX11_inOrder_23 kt_0 (Nat.le_of_ble_eq_true rfl) fl_X11_91 rfl (hs.1 _ _ sr_1009) ?_
      refine z_iload_n dX11_inOrder_26 rfl 2 rfl ?_
      refine z_VB (i_Worths_readOrder  hs h) vk_X10_readOrder kt_101 (Nat.le_of_ble_eq_true rfl) rfl ml_X11_335 ⟨Nat.le_of_ble_eq_true rfl, Nat.le_of_ble_eq_true rfl⟩ ⟨Nat.zero_le _, Nat.zero_le _⟩ rfl rfl (Nat.le_of_ble_eq_true rfl) dX11_inOrder_27 (fun r27 μ_2 hs h => ?_)
      refine z_ifne_b (tgt := 37) dX11_inOrder_30 (by decide) h (fun h => ?_) (fun h => ?_)
      · refine z_rload_n dX11_inOrder_37 rfl 0 rfl ?_
        refine z_getR (q := 1009) ff_11_9 dX11_inOrder_38 kt_0 (Nat.le_of_ble_eq_true rfl) fl_X11_91 rfl (hs.1 _ _ sr_1009) ?_
        refine z_iload_n dX11_inOrder_41 rfl 3 rfl ?_
        refine z_VI (i_Worths_along  hs h) vk_X10_along kt_101 (Nat.le_of_ble_eq_true rfl) rfl ml_X11_338 ⟨Nat.le_of_ble_eq_true rfl, Nat.le_of_ble_eq_true rfl⟩ ⟨Nat.zero_le _, Nat.zero_le _⟩ rfl rfl (Nat.le_of_ble_eq_true rfl) dX11_inOrder_42 (fun r42 μ_3 hs h => ?_)
        exact z_iret rfl dX11_inOrder_45 rfl rfl rfl ⟨_, rfl, hs, h⟩
      · refine z_sipush dX11_inOrder_33 (by decide) ?_
        exact z_iret rfl dX11_inOrder_36 rfl rfl rfl ⟨_, rfl, hs, h⟩
    · refine z_sipush dX11_inOrder_33 (by decide) ?_
      exact z_iret rfl dX11_inOrder_36 rfl rfl rfl ⟨_, rfl, hs, h⟩
  · refine z_sipush dX11_inOrder_33 (by decide) ?_
    exact z_iret rfl dX11_inOrder_36 rfl rfl rfl ⟨_, rfl, hs, h⟩
def v_Worths_bestMotionAt (a1 : Int) (μ : Mem) : Int := at' μ 103 6 (at' μ 110 6 a1)
theorem i_Worths_bestMotionAt {l : Launch} {Γ : Gam} {g : Nat} {μ : Mem} {a1 : Int} (hs : StatR μ.2.2) : CT l Γ yX10_bestMotionAt cX10_bestMotionAt 2 (some .int) 1 21 0 0 [vr Γ 101, vi a1] g 175 μ (pE (vi (v_Worths_bestMotionAt a1 μ)) μ) := by
  refine SW.ct (by decide) (Nat.le_of_ble_eq_true rfl) ?_
  refine z_sub (lv' := [(0, vr Γ 101), (1, vi a1)]) [0, 1] rfl ?_
  have hv : v_Worths_bestMotionAt a1 μ = v_Worths_bestMotionAt a1 μ := rfl
  refine z_rload_n dX10_bestMotionAt_0 rfl 0 rfl ?_
  refine z_getR (q := 13933) ff_10_5 dX10_bestMotionAt_1 kt_101 (Nat.le_of_ble_eq_true rfl) fl_X10_15 rfl (hs.1 _ _ sr_13933) ?_
  refine z_rload_n dX10_bestMotionAt_4 rfl 0 rfl ?_
  refine z_getR (q := 13941) ff_10_13 dX10_bestMotionAt_5 kt_101 (Nat.le_of_ble_eq_true rfl) fl_X10_37 rfl (hs.1 _ _ sr_13941) ?_
  refine z_iload_n dX10_bestMotionAt_8 rfl 1 rfl ?_
  refine z_NE (i_X11_at kt_110 (Nat.le_of_ble_eq_true rfl)) ok_X11_at nw_X10_66 ⟨Nat.le_of_ble_eq_true rfl, Nat.le_of_ble_eq_true rfl⟩ ⟨Nat.zero_le _, Nat.zero_le _⟩ rfl rfl (Nat.le_of_ble_eq_true rfl) dX10_bestMotionAt_9 ?_
  refine z_NE (i_X11_at kt_103 (Nat.le_of_ble_eq_true rfl)) ok_X11_at nw_X10_66 ⟨Nat.le_of_ble_eq_true rfl, Nat.le_of_ble_eq_true rfl⟩ ⟨Nat.zero_le _, Nat.zero_le _⟩ rfl rfl (Nat.le_of_ble_eq_true rfl) dX10_bestMotionAt_12 ?_
  exact z_iret rfl dX10_bestMotionAt_15 rfl rfl rfl ⟨by first | (rw [hv]; done) | rfl, rfl⟩
abbrev Y_Worths_swap : Yt := (4, none, yX10_swap.name, { frames := 1, cells := 0, slots := 0, locals := 22 }, 175, 0, 0)
def f_Worths_swap (a1 : Int) (a2 : Int) (μ : Mem) (k : Mem → Prop) : Prop := ∀ v3 : Int, v3 = at' μ 109 6 a1 → ∀ μ_1 : Mem, μ_1 = set' μ 109 6 a1 (at' μ 109 6 a2) → ∀ μ_2 : Mem, μ_2 = set' μ_1 109 6 a2 v3 → k μ_2
theorem i_Worths_swap {l : Launch} {Γ : Gam} {g : Nat} {a1 : Int} {a2 : Int} {μ : Mem} {k : Mem → Prop} (hs : StatR μ.2.2) (h : f_Worths_swap a1 a2 μ k) : CT l Γ yX10_swap cX10_swap 4 none 1 22 0 0 [vr Γ 101, vi a1, vi a2] g 175 μ (pV k) := by
  refine SW.ct (by decide) (Nat.le_of_ble_eq_true rfl) ?_
  refine z_sub (lv' := [(0, vr Γ 101), (1, vi a1), (2, vi a2)]) [0, 1, 2] rfl ?_
  show SW l Γ yX10_swap.cls cX10_swap Y_Worths_swap (pV k) g 175 0 0 μ 0 [(0, vr Γ 101), (1, vi a1), (2, vi a2)] []
  unfold f_Worths_swap at h
  refine z_rload_n dX10_swap_0 rfl 0 rfl ?_
  refine z_getR (q := 13940) ff_10_12 dX10_swap_1 kt_101 (Nat.le_of_ble_eq_true rfl) fl_X10_34 rfl (hs.1 _ _ sr_13940) ?_
  refine z_iload_n dX10_swap_4 rfl 1 rfl ?_
  refine z_NE (i_X11_at kt_109 (Nat.le_of_ble_eq_true rfl)) ok_X11_at nw_X10_66 ⟨Nat.le_of_ble_eq_true rfl, Nat.le_of_ble_eq_true rfl⟩ ⟨Nat.zero_le _, Nat.zero_le _⟩ rfl rfl (Nat.le_of_ble_eq_true rfl) dX10_swap_5 ?_
  refine z_nm (fun v3 ev3 => ?_)
  replace h := h v3 ev3
  refine z_istore_n (lv' := [(3, vi v3), (0, vr Γ 101), (1, vi a1), (2, vi a2)]) dX10_swap_8 rfl (Nat.le_of_ble_eq_true rfl) rfl ?_
  refine z_rload_n dX10_swap_9 rfl 1 rfl ?_
  refine z_getR (q := 13940) ff_10_12 dX10_swap_10 kt_101 (Nat.le_of_ble_eq_true rfl) fl_X10_34 rfl (hs.1 _ _ sr_13940) ?_
  refine z_iload_n dX10_swap_13 rfl 2 rfl ?_
  refine z_rload_n dX10_swap_14 rfl 1 rfl ?_
  refine z_getR (q := 13940) ff_10_12 dX10_swap_15 kt_101 (Nat.le_of_ble_eq_true rfl) fl_X10_34 rfl (hs.1 _ _ sr_13940) ?_
  refine z_iload_n dX10_swap_18 rfl 3 rfl ?_
  refine z_NE (i_X11_at kt_109 (Nat.le_of_ble_eq_true rfl)) ok_X11_at nw_X10_66 ⟨Nat.le_of_ble_eq_true rfl, Nat.le_of_ble_eq_true rfl⟩ ⟨Nat.zero_le _, Nat.zero_le _⟩ rfl rfl (Nat.le_of_ble_eq_true rfl) dX10_swap_19 ?_
  refine z_NM (i_X11_set kt_109 (Nat.le_of_ble_eq_true rfl)) ok_X11_set nw_X10_62 ⟨Nat.le_of_ble_eq_true rfl, Nat.le_of_ble_eq_true rfl⟩ ⟨Nat.zero_le _, Nat.zero_le _⟩ rfl rfl (Nat.le_of_ble_eq_true rfl) dX10_swap_22 ?_
  refine z_mm (fun μ_1 eμ_1 => ?_)
  replace h := h μ_1 eμ_1
  replace hs : StatR μ_1.2.2 := by rw [eμ_1]; exact (StatR.set hs)
  refine z_rload_n dX10_swap_25 rfl 1 rfl ?_
  refine z_getR (q := 13940) ff_10_12 dX10_swap_26 kt_101 (Nat.le_of_ble_eq_true rfl) fl_X10_34 rfl (hs.1 _ _ sr_13940) ?_
  refine z_iload_n dX10_swap_29 rfl 3 rfl ?_
  refine z_iload_n dX10_swap_30 rfl 0 rfl ?_
  refine z_NM (i_X11_set kt_109 (Nat.le_of_ble_eq_true rfl)) ok_X11_set nw_X10_62 ⟨Nat.le_of_ble_eq_true rfl, Nat.le_of_ble_eq_true rfl⟩ ⟨Nat.zero_le _, Nat.zero_le _⟩ rfl rfl (Nat.le_of_ble_eq_true rfl) dX10_swap_31 ?_
  refine z_mm (fun μ_2 eμ_2 => ?_)
  replace h := h μ_2 eμ_2
  replace hs : StatR μ_2.2.2 := by rw [eμ_2]; exact (StatR.set hs)
  exact z_vret rfl dX10_swap_34 rfl rfl rfl ⟨rfl, hs, h⟩
abbrev Y_Worths_nextOrder : Yt := (5, (some .boolean), yX10_nextOrder.name, { frames := 2, cells := 0, slots := 0, locals := 45 }, 175, 0, 0)
def l_Worths_nextOrder_7 (μ : Mem) (X_7_38 : Int → Prop) : Nat → Int → Prop
  | 0, _ => False
  | fu7 + 1, v1_1 => if w v1_1 < 0 then (X_7_38 v1_1) else (if w (at' μ 109 6 (v1_1 + 1)) < w (at' μ 109 6 v1_1) then ((l_Worths_nextOrder_7 μ X_7_38 fu7) (v1_1 + (-1))) else (X_7_38 v1_1))
def l_Worths_nextOrder_51 (μ : Mem) (v1_2 : Int) (X_51_81 : Int → Prop) : Nat → Int → Prop
  | 0, _ => False
  | fu51 + 1, v2_1 => if w v1_2 < w v2_1 then (if w (at' μ 109 6 v2_1) < w (at' μ 109 6 v1_2) then ((l_Worths_nextOrder_51 μ v1_2 X_51_81 fu51) (v2_1 + (-1))) else (X_51_81 v2_1)) else (X_51_81 v2_1)
def l_Worths_nextOrder_99 (X_99_121 : Mem → Prop) : Nat → Int → Int → Mem → Prop
  | 0, _, _, _ => False
  | fu99 + 1, v3_1, v4, μ_2 => if w v4 < w v3_1 then (f_Worths_swap v4 v3_1 μ_2 (fun μ_3 => (l_Worths_nextOrder_99 X_99_121 fu99) (v3_1 + (-1)) (v4 + 1) μ_3)) else (X_99_121 μ_2)
def f_Worths_nextOrder  (μ : Mem) (k : Bool → Mem → Prop) : Prop := ∀ v1 : Int, v1 = (rI μ 13934 0) - 2 → ∃ m7 : Nat, l_Worths_nextOrder_7 μ (fun (v1_2 : Int) => if w v1_2 < 0 then (k false μ) else (∀ v2 : Int, v2 = (rI μ 13934 0) - 1 → ∃ m51 : Nat, l_Worths_nextOrder_51 μ v1_2 (fun (v2_2 : Int) => f_Worths_swap v1_2 v2_2 μ (fun μ_1 => ∀ v3 : Int, v3 = (rI μ_1 13934 0) - 1 → ∃ m99 : Nat, l_Worths_nextOrder_99 (fun (μ_4 : Mem) => k true μ_4) m99 v3 (v1_2 + 1) μ_1)) m51 v2)) m7 v1
theorem L_Worths_nextOrder_7 {l : Launch} {Γ : Gam} {g : Nat} {μ : Mem} {X_7_38 : Int → Prop} {k : Bool → Mem → Prop} (hs : StatR μ.2.2) (hX_7_38 : ∀ (u1 : Int), X_7_38 u1 → SW l Γ yX10_nextOrder.cls cX10_nextOrder Y_Worths_nextOrder (pB k) g 175 0 0 μ 38 [(0, vr Γ 101), (1, vi u1)] []) (n9 : Nat) : ∀ (v1_1 : Int), l_Worths_nextOrder_7 μ X_7_38 n9 v1_1 → SW l Γ yX10_nextOrder.cls cX10_nextOrder Y_Worths_nextOrder (pB k) g 175 0 0 μ 7 [(0, vr Γ 101), (1, vi v1_1)] [] := by
  induction n9 with
  | zero =>
    intro v1_1 h
    exact h.elim
  | succ n9 hR_7 =>
    intro v1_1 h
    rw [l_Worths_nextOrder_7] at h
    refine z_iload_n dX10_nextOrder_7 rfl 1 rfl ?_
    refine z_if_lt (tgt := 38) dX10_nextOrder_8 (by decide) h (fun h => ?_) (fun h => ?_)
    · refine z_sub (lv' := [(0, vr Γ 101), (1, vi v1_1)]) [0, 1] rfl ?_
      exact hX_7_38 v1_1 h
    · refine z_rload_n dX10_nextOrder_11 rfl 0 rfl ?_
      refine z_getR (q := 13940) ff_10_12 dX10_nextOrder_12 kt_101 (Nat.le_of_ble_eq_true rfl) fl_X10_34 rfl (hs.1 _ _ sr_13940) ?_
      refine z_iload_n dX10_nextOrder_15 rfl 1 rfl ?_
      refine z_NE (i_X11_at kt_109 (Nat.le_of_ble_eq_true rfl)) ok_X11_at nw_X10_66 ⟨Nat.le_of_ble_eq_true rfl, Nat.le_of_ble_eq_true rfl⟩ ⟨Nat.zero_le _, Nat.zero_le _⟩ rfl rfl (Nat.le_of_ble_eq_true rfl) dX10_nextOrder_16 ?_
      refine z_rload_n dX10_nextOrder_19 rfl 0 rfl ?_
      refine z_getR (q := 13940) ff_10_12 dX10_nextOrder_20 kt_101 (Nat.le_of_ble_eq_true rfl) fl_X10_34 rfl (hs.1 _ _ sr_13940) ?_
      refine z_iload_n dX10_nextOrder_23 rfl 1 rfl ?_
      refine z_iconst dX10_nextOrder_24 ?_
      refine z_iadd dX10_nextOrder_25 ?_
      refine z_NE (i_X11_at kt_109 (Nat.le_of_ble_eq_true rfl)) ok_X11_at nw_X10_66 ⟨Nat.le_of_ble_eq_true rfl, Nat.le_of_ble_eq_true rfl⟩ ⟨Nat.zero_le _, Nat.zero_le _⟩ rfl rfl (Nat.le_of_ble_eq_true rfl) dX10_nextOrder_26 ?_
      refine z_icmp_le (tgt := 38) dX10_nextOrder_29 (by decide) h (fun h => ?_) (fun h => ?_)
      · refine z_iinc (j := 1) (lv' := [(1, vi (v1_1 + (-1))), (0, vr Γ 101)]) dX10_nextOrder_32 rfl (Nat.le_of_ble_eq_true rfl) rfl ?_
        refine z_goto (tgt := 7) dX10_nextOrder_35 (by decide) ?_
        refine z_sub (lv' := [(0, vr Γ 101), (1, vi (v1_1 + (-1)))]) [1, 0] rfl ?_
        exact hR_7 (v1_1 + (-1)) h
      · refine z_sub (lv' := [(0, vr Γ 101), (1, vi v1_1)]) [0, 1] rfl ?_
        exact hX_7_38 v1_1 h
theorem L_Worths_nextOrder_51 {l : Launch} {Γ : Gam} {g : Nat} {μ : Mem} {v1_2 : Int} {X_51_81 : Int → Prop} {k : Bool → Mem → Prop} (hs : StatR μ.2.2) (hX_51_81 : ∀ (u2 : Int), X_51_81 u2 → SW l Γ yX10_nextOrder.cls cX10_nextOrder Y_Worths_nextOrder (pB k) g 175 0 0 μ 81 [(0, vr Γ 101), (1, vi v1_2), (2, vi u2)] []) (n9 : Nat) : ∀ (v2_1 : Int), l_Worths_nextOrder_51 μ v1_2 X_51_81 n9 v2_1 → SW l Γ yX10_nextOrder.cls cX10_nextOrder Y_Worths_nextOrder (pB k) g 175 0 0 μ 51 [(0, vr Γ 101), (1, vi v1_2), (2, vi v2_1)] [] := by
  induction n9 with
  | zero =>
    intro v2_1 h
    exact h.elim
  | succ n9 hR_51 =>
    intro v2_1 h
    rw [l_Worths_nextOrder_51] at h
    refine z_iload_n dX10_nextOrder_51 rfl 2 rfl ?_
    refine z_iload_n dX10_nextOrder_52 rfl 1 rfl ?_
    refine z_icmp_le (tgt := 81) dX10_nextOrder_53 (by decide) h (fun h => ?_) (fun h => ?_)
    · refine z_rload_n dX10_nextOrder_56 rfl 0 rfl ?_
      refine z_getR (q := 13940) ff_10_12 dX10_nextOrder_57 kt_101 (Nat.le_of_ble_eq_true rfl) fl_X10_34 rfl (hs.1 _ _ sr_13940) ?_
      refine z_iload_n dX10_nextOrder_60 rfl 2 rfl ?_
      refine z_NE (i_X11_at kt_109 (Nat.le_of_ble_eq_true rfl)) ok_X11_at nw_X10_66 ⟨Nat.le_of_ble_eq_true rfl, Nat.le_of_ble_eq_true rfl⟩ ⟨Nat.zero_le _, Nat.zero_le _⟩ rfl rfl (Nat.le_of_ble_eq_true rfl) dX10_nextOrder_61 ?_
      refine z_rload_n dX10_nextOrder_64 rfl 0 rfl ?_
      refine z_getR (q := 13940) ff_10_12 dX10_nextOrder_65 kt_101 (Nat.le_of_ble_eq_true rfl) fl_X10_34 rfl (hs.1 _ _ sr_13940) ?_
      refine z_iload_n dX10_nextOrder_68 rfl 1 rfl ?_
      refine z_NE (i_X11_at kt_109 (Nat.le_of_ble_eq_true rfl)) ok_X11_at nw_X10_66 ⟨Nat.le_of_ble_eq_true rfl, Nat.le_of_ble_eq_true rfl⟩ ⟨Nat.zero_le _, Nat.zero_le _⟩ rfl rfl (Nat.le_of_ble_eq_true rfl) dX10_nextOrder_69 ?_
      refine z_icmp_ge (tgt := 81) dX10_nextOrder_72 (by decide) h (fun h => ?_) (fun h => ?_)
      · refine z_iinc (j := 2) (lv' := [(2, vi (v2_1 + (-1))), (0, vr Γ 101), (1, vi v1_2)]) dX10_nextOrder_75 rfl (Nat.le_of_ble_eq_true rfl) rfl ?_
        refine z_goto (tgt := 51) dX10_nextOrder_78 (by decide) ?_
        refine z_sub (lv' := [(0, vr Γ 101), (1, vi v1_2), (2, vi (v2_1 + (-1)))]) [1, 2, 0] rfl ?_
        exact hR_51 (v2_1 + (-1)) h
      · refine z_sub (lv' := [(0, vr Γ 101), (1, vi v1_2), (2, vi v2_1)]) [0, 1, 2] rfl ?_
        exact hX_51_81 v2_1 h
    · refine z_sub (lv' := [(0, vr Γ 101), (1, vi v1_2), (2, vi v2_1)]) [0, 1, 2] rfl ?_
      exact hX_51_81 v2_1 h
theorem L_Worths_nextOrder_99 {l : Launch} {Γ : Gam} {g : Nat} {X_99_121 : Mem → Prop} {k : Bool → Mem → Prop} (hX_99_121 : ∀ (ν : Mem), StatR ν.2.2 → X_99_121 ν → SW l Γ yX10_nextOrder.cls cX10_nextOrder Y_Worths_nextOrder (pB k) g 175 0 0 ν 121 [] []) (n9 : Nat) : ∀ (v3_1 : Int) (v4 : Int) (μ_2 : Mem), StatR μ_2.2.2 → l_Worths_nextOrder_99 X_99_121 n9 v3_1 v4 μ_2 → SW l Γ yX10_nextOrder.cls cX10_nextOrder Y_Worths_nextOrder (pB k) g 175 0 0 μ_2 99 [(0, vr Γ 101), (3, vi v3_1), (4, vi v4)] [] := by
  induction n9 with
  | zero =>
    intro v3_1 v4 μ_2 hs h
    exact h.elim
  | succ n9 hR_99 =>
    intro v3_1 v4 μ_2 hs h
    rw [l_Worths_nextOrder_99] at h
    refine z_iload dX10_nextOrder_99 2 rfl ?_
    refine z_iload_n dX10_nextOrder_101 rfl 1 rfl ?_
    refine z_icmp_ge (tgt := 121) dX10_nextOrder_102 (by decide) h (fun h => ?_) (fun h => ?_)
    · refine z_rload_n dX10_nextOrder_105 rfl 0 rfl ?_
      refine z_iload dX10_nextOrder_106 2 rfl ?_
      refine z_iload_n dX10_nextOrder_108 rfl 1 rfl ?_
      refine z_VU (i_Worths_swap  hs h) vk_X10_swap kt_101 (Nat.le_of_ble_eq_true rfl) rfl ml_X10_162 ⟨Nat.le_of_ble_eq_true rfl, Nat.le_of_ble_eq_true rfl⟩ ⟨Nat.zero_le _, Nat.zero_le _⟩ rfl rfl (Nat.le_of_ble_eq_true rfl) dX10_nextOrder_109 (fun μ_3 hs h => ?_)
      refine z_iinc (j := 1) (lv' := [(3, vi (v3_1 + (-1))), (0, vr Γ 101), (4, vi v4)]) dX10_nextOrder_112 rfl (Nat.le_of_ble_eq_true rfl) rfl ?_
      refine z_iinc (j := 2) (lv' := [(4, vi (v4 + 1)), (3, vi (v3_1 + (-1))), (0, vr Γ 101)]) dX10_nextOrder_115 rfl (Nat.le_of_ble_eq_true rfl) rfl ?_
      refine z_goto (tgt := 99) dX10_nextOrder_118 (by decide) ?_
      refine z_sub (lv' := [(0, vr Γ 101), (3, vi (v3_1 + (-1))), (4, vi (v4 + 1))]) [2, 1, 0] rfl ?_
      exact hR_99 (v3_1 + (-1)) (v4 + 1) μ_3 hs h
    · refine z_sub (lv' := []) [] rfl ?_
      exact hX_99_121 μ_2 hs h
theorem i_Worths_nextOrder {l : Launch} {Γ : Gam} {g : Nat} {μ : Mem} {k : Bool → Mem → Prop} (hs : StatR μ.2.2) (h : f_Worths_nextOrder  μ k) : CT l Γ yX10_nextOrder cX10_nextOrder 5 (some .boolean) 2 45 0 0 [vr Γ 101] g 175 μ (pB k) := by
  refine SW.ct (by decide) (Nat.le_of_ble_eq_true rfl) ?_
  refine z_sub (lv' := [(0, vr Γ 101)]) [0] rfl ?_
  show SW l Γ yX10_nextOrder.cls cX10_nextOrder Y_Worths_nextOrder (pB k) g 175 0 0 μ 0 [(0, vr Γ 101)] []
  unfold f_Worths_nextOrder at h
  refine z_rload_n dX10_nextOrder_0 rfl 0 rfl ?_
  refine z_getI (q := 13934) ff_10_6 dX10_nextOrder_1 kt_101 (Nat.le_of_ble_eq_true rfl) fl_X10_100 rfl ?_
  refine z_iconst dX10_nextOrder_4 ?_
  refine z_isub dX10_nextOrder_5 ?_
  refine z_nm (fun v1 ev1 => ?_)
  replace h := h v1 ev1
  refine z_istore_n (lv' := [(1, vi v1), (0, vr Γ 101)]) dX10_nextOrder_6 rfl (Nat.le_of_ble_eq_true rfl) rfl ?_
  obtain ⟨m7, h⟩ := h
  refine z_sub (lv' := [(0, vr Γ 101), (1, vi v1)]) [1, 0] rfl ?_
  refine L_Worths_nextOrder_7 hs (fun v1_2 h => ?_) m7 v1 h
  refine z_iload_n dX10_nextOrder_38 rfl 1 rfl ?_
  refine z_if_ge (tgt := 44) dX10_nextOrder_39 (by decide) h (fun h => ?_) (fun h => ?_)
  · refine z_iconst dX10_nextOrder_42 ?_
    exact z_zret (b := false) rfl dX10_nextOrder_43 rfl rfl rfl ⟨_, rfl, hs, h⟩
  · refine z_rload_n dX10_nextOrder_44 rfl 0 rfl ?_
    refine z_getI (q := 13934) ff_10_6 dX10_nextOrder_45 kt_101 (Nat.le_of_ble_eq_true rfl) fl_X10_100 rfl ?_
    refine z_iconst dX10_nextOrder_48 ?_
    refine z_isub dX10_nextOrder_49 ?_
    refine z_nm (fun v2 ev2 => ?_)
    replace h := h v2 ev2
    refine z_istore_n (lv' := [(2, vi v2), (0, vr Γ 101), (1, vi v1_2)]) dX10_nextOrder_50 rfl (Nat.le_of_ble_eq_true rfl) rfl ?_
    obtain ⟨m51, h⟩ := h
    refine z_sub (lv' := [(0, vr Γ 101), (1, vi v1_2), (2, vi v2)]) [1, 2, 0] rfl ?_
    refine L_Worths_nextOrder_51 hs (fun v2_2 h => ?_) m51 v2 h
    refine z_rload_n dX10_nextOrder_81 rfl 0 rfl ?_
    refine z_iload_n dX10_nextOrder_82 rfl 1 rfl ?_
    refine z_iload_n dX10_nextOrder_83 rfl 2 rfl ?_
    refine z_VU (i_Worths_swap  hs h) vk_X10_swap kt_101 (Nat.le_of_ble_eq_true rfl) rfl ml_X10_162 ⟨Nat.le_of_ble_eq_true rfl, Nat.le_of_ble_eq_true rfl⟩ ⟨Nat.zero_le _, Nat.zero_le _⟩ rfl rfl (Nat.le_of_ble_eq_true rfl) dX10_nextOrder_84 (fun μ_1 hs h => ?_)
    refine z_rload_n dX10_nextOrder_87 rfl 0 rfl ?_
    refine z_getI (q := 13934) ff_10_6 dX10_nextOrder_88 kt_101 (Nat.le_of_ble_eq_true rfl) fl_X10_100 rfl ?_
    refine z_iconst dX10_nextOrder_91 ?_
    refine z_isub dX10_nextOrder_92 ?_
    refine z_nm (fun v3 ev3 => ?_)
    replace h := h v3 ev3
    refine z_istore_n (lv' := [(3, vi v3), (0, vr Γ 101), (1, vi v1_2), (2, vi v2_2)]) dX10_nextOrder_93 rfl (Nat.le_of_ble_eq_true rfl) rfl ?_
    refine z_iload_n dX10_nextOrder_94 rfl 2 rfl ?_
    refine z_iconst dX10_nextOrder_95 ?_
    refine z_iadd dX10_nextOrder_96 ?_
    refine z_istore (lv' := [(4, vi (v1_2 + 1)), (3, vi v3), (0, vr Γ 101), (1, vi v1_2), (2, vi v2_2)]) dX10_nextOrder_97 (Nat.le_of_ble_eq_true rfl) rfl ?_
    obtain ⟨m99, h⟩ := h
    refine z_sub (lv' := [(0, vr Γ 101), (3, vi v3), (4, vi (v1_2 + 1))]) [2, 1, 0] rfl ?_
    refine L_Worths_nextOrder_99 (fun μ_4 hs h => ?_) m99 v3 (v1_2 + 1) μ_1 hs h
    refine z_iconst dX10_nextOrder_121 ?_
    exact z_zret (b := true) rfl dX10_nextOrder_122 rfl rfl rfl ⟨_, rfl, hs, h⟩
