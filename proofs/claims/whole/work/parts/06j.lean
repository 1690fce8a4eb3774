abbrev Y_Worths_prepare : Yt := (5, (some .boolean), yX10_prepare.name, { frames := 5, cells := 0, slots := 0, locals := 120 }, 174, 0, 0)
def l_Worths_prepare_33 (r27 : Nat) (X_33_142 : Mem → Prop) : Nat → Int → Mem → Prop
  | 0, _, _ => False
  | fu33 + 1, v3, μ_4 => if w v3 < w (rI μ_4 13806 0) then (∀ v4 : Int, v4 = at' μ_4 102 6 v3 → f_Worths_countMotion v4 r27 μ_4 (fun μ_5 => f_Worths_passesNow r27 0 μ_5 (fun r66 μ_6 => ∀ μ_7 : Mem, μ_7 = set' μ_6 103 6 v3 r66 → f_Worths_passesNow r27 1 μ_7 (fun r80 μ_8 => ∀ μ_9 : Mem, μ_9 = set' μ_8 104 6 v3 r80 → f_Worths_contraryTo v4 μ_9 (fun r94 μ_10 => ∀ μ_11 : Mem, μ_11 = set' μ_10 105 6 v3 r94 → f_Floor_bitsOf v4 1 μ_11 (fun r112 μ_12 => ∀ μ_13 : Mem, μ_13 = setL' μ_12 106 6 v3 r112 → f_Floor_bitsOf v4 (-1) μ_13 (fun r130 μ_14 => ∀ μ_15 : Mem, μ_15 = setL' μ_14 107 6 v3 r130 → (l_Worths_prepare_33 r27 X_33_142 fu33) (v3 + 1) μ_15))))))) else (X_33_142 μ_4)
def f_Worths_prepare (a1 : Int) (μ : Mem) (k : Bool → Mem → Prop) : Prop := f_Floor_chosen a1 102 6 μ (fun r10 μ_1 => ∀ μ_2 : Mem, μ_2 = sI μ_1 13806 0 r10 → f_Papers_inForce (rI μ_2 9584 0) μ_2 (fun r27 μ_3 => isRu r27 = true ∧ ∃ m33 : Nat, l_Worths_prepare_33 r27 (fun (μ_16 : Mem) => ∀ x154 : Bool, x154 = (if 0 < w (rI μ_16 13806 0) then true else false) → k x154 μ_16) m33 0 μ_3))
theorem L_Worths_prepare_33 {l : Launch} {Γ : Gam} {g : Nat} {r27 : Nat} {X_33_142 : Mem → Prop} {k : Bool → Mem → Prop} (hr_r27 : isRu r27 = true) (hX_33_142 : ∀ (ν : Mem), StatR ν.2.2 → X_33_142 ν → SW l Γ yX10_prepare.cls cX10_prepare Y_Worths_prepare (pB k) g 174 0 0 ν 142 [(0, vr Γ 100)] []) (n9 : Nat) : ∀ (v3 : Int) (μ_4 : Mem), StatR μ_4.2.2 → l_Worths_prepare_33 r27 X_33_142 n9 v3 μ_4 → SW l Γ yX10_prepare.cls cX10_prepare Y_Worths_prepare (pB k) g 174 0 0 μ_4 33 [(0, vr Γ 100), (2, vr Γ r27), (3, vi v3)] [] := by
  induction n9 with
  | zero =>
    intro v3 μ_4 hs h
    exact h.elim
  | succ n9 hR_33 =>
    intro v3 μ_4 hs h
    rw [l_Worths_prepare_33] at h
    refine z_iload_n dX10_prepare_33 rfl 2 rfl ?_
    refine z_rload_n dX10_prepare_34 rfl 0 rfl ?_
    refine z_getI (q := 13806) ff_10_6 dX10_prepare_35 kt_100 (Nat.le_of_ble_eq_true rfl) fl_X10_100 rfl ?_
    refine z_icmp_ge (tgt := 142) dX10_prepare_38 (by decide) h (fun h => ?_) (fun h => ?_)
    · refine z_rload_n dX10_prepare_41 rfl 0 rfl ?_
      refine z_getR (q := 13805) ff_10_5 dX10_prepare_42 kt_100 (Nat.le_of_ble_eq_true rfl) fl_X10_15 rfl (hs.1 _ _ sr_13805) ?_
      refine z_iload_n dX10_prepare_45 rfl 2 rfl ?_
      refine z_NE (i_X11_at kt_102 (Nat.le_of_ble_eq_true rfl)) ok_X11_at nw_X10_66 ⟨Nat.le_of_ble_eq_true rfl, Nat.le_of_ble_eq_true rfl⟩ ⟨Nat.zero_le _, Nat.zero_le _⟩ rfl rfl (Nat.le_of_ble_eq_true rfl) dX10_prepare_46 ?_
      refine z_nm (fun v4 ev4 => ?_)
      replace h := h v4 ev4
      refine z_istore (lv' := [(4, vi v4), (0, vr Γ 100), (2, vr Γ r27), (3, vi v3)]) dX10_prepare_49 (Nat.le_of_ble_eq_true rfl) rfl ?_
      refine z_rload_n dX10_prepare_51 rfl 1 rfl ?_
      refine z_iload dX10_prepare_52 0 rfl ?_
      refine z_rload_n dX10_prepare_54 rfl 2 rfl ?_
      refine z_VU (i_Worths_countMotion hr_r27 hs h) vk_X10_countMotion kt_100 (Nat.le_of_ble_eq_true rfl) rfl ml_X10_112 ⟨Nat.le_of_ble_eq_true rfl, Nat.le_of_ble_eq_true rfl⟩ ⟨Nat.zero_le _, Nat.zero_le _⟩ rfl rfl (Nat.le_of_ble_eq_true rfl) dX10_prepare_55 (fun μ_5 hs h => ?_)
      refine z_rload_n dX10_prepare_58 rfl 1 rfl ?_
      refine z_getR (q := 13807) ff_10_7 dX10_prepare_59 kt_100 (Nat.le_of_ble_eq_true rfl) fl_X10_18 rfl (hs.1 _ _ sr_13807) ?_
      refine z_iload_n dX10_prepare_62 rfl 3 rfl ?_
      refine z_rload_n dX10_prepare_63 rfl 1 rfl ?_
      refine z_rload_n dX10_prepare_64 rfl 2 rfl ?_
      refine z_iconst dX10_prepare_65 ?_
      refine z_VI (i_Worths_passesNow hr_r27 hs h) vk_X10_passesNow kt_100 (Nat.le_of_ble_eq_true rfl) rfl ml_X10_116 ⟨Nat.le_of_ble_eq_true rfl, Nat.le_of_ble_eq_true rfl⟩ ⟨Nat.zero_le _, Nat.zero_le _⟩ rfl rfl (Nat.le_of_ble_eq_true rfl) dX10_prepare_66 (fun r66 μ_6 hs h => ?_)
      refine z_NM (i_X11_set kt_103 (Nat.le_of_ble_eq_true rfl)) ok_X11_set nw_X10_62 ⟨Nat.le_of_ble_eq_true rfl, Nat.le_of_ble_eq_true rfl⟩ ⟨Nat.zero_le _, Nat.zero_le _⟩ rfl rfl (Nat.le_of_ble_eq_true rfl) dX10_prepare_69 ?_
      refine z_mm (fun μ_7 eμ_7 => ?_)
      replace h := h μ_7 eμ_7
      replace hs : StatR μ_7.2.2 := by rw [eμ_7]; exact (StatR.set hs)
      refine z_rload_n dX10_prepare_72 rfl 1 rfl ?_
      refine z_getR (q := 13808) ff_10_8 dX10_prepare_73 kt_100 (Nat.le_of_ble_eq_true rfl) fl_X10_21 rfl (hs.1 _ _ sr_13808) ?_
      refine z_iload_n dX10_prepare_76 rfl 3 rfl ?_
      refine z_rload_n dX10_prepare_77 rfl 1 rfl ?_
      refine z_rload_n dX10_prepare_78 rfl 2 rfl ?_
      refine z_iconst dX10_prepare_79 ?_
      refine z_VI (i_Worths_passesNow hr_r27 hs h) vk_X10_passesNow kt_100 (Nat.le_of_ble_eq_true rfl) rfl ml_X10_116 ⟨Nat.le_of_ble_eq_true rfl, Nat.le_of_ble_eq_true rfl⟩ ⟨Nat.zero_le _, Nat.zero_le _⟩ rfl rfl (Nat.le_of_ble_eq_true rfl) dX10_prepare_80 (fun r80 μ_8 hs h => ?_)
      refine z_NM (i_X11_set kt_104 (Nat.le_of_ble_eq_true rfl)) ok_X11_set nw_X10_62 ⟨Nat.le_of_ble_eq_true rfl, Nat.le_of_ble_eq_true rfl⟩ ⟨Nat.zero_le _, Nat.zero_le _⟩ rfl rfl (Nat.le_of_ble_eq_true rfl) dX10_prepare_83 ?_
      refine z_mm (fun μ_9 eμ_9 => ?_)
      replace h := h μ_9 eμ_9
      replace hs : StatR μ_9.2.2 := by rw [eμ_9]; exact (StatR.set hs)
      refine z_rload_n dX10_prepare_86 rfl 1 rfl ?_
      refine z_getR (q := 13809) ff_10_9 dX10_prepare_87 kt_100 (Nat.le_of_ble_eq_true rfl) fl_X10_24 rfl (hs.1 _ _ sr_13809) ?_
      refine z_iload_n dX10_prepare_90 rfl 3 rfl ?_
      refine z_rload_n dX10_prepare_91 rfl 1 rfl ?_
      refine z_iload dX10_prepare_92 0 rfl ?_
      refine z_VI (i_Worths_contraryTo  hs h) vk_X10_contraryTo kt_100 (Nat.le_of_ble_eq_true rfl) rfl ml_X10_120 ⟨Nat.le_of_ble_eq_true rfl, Nat.le_of_ble_eq_true rfl⟩ ⟨Nat.zero_le _, Nat.zero_le _⟩ rfl rfl (Nat.le_of_ble_eq_true rfl) dX10_prepare_94 (fun r94 μ_10 hs h => ?_)
      refine z_NM (i_X11_set kt_105 (Nat.le_of_ble_eq_true rfl)) ok_X11_set nw_X10_62 ⟨Nat.le_of_ble_eq_true rfl, Nat.le_of_ble_eq_true rfl⟩ ⟨Nat.zero_le _, Nat.zero_le _⟩ rfl rfl (Nat.le_of_ble_eq_true rfl) dX10_prepare_97 ?_
      refine z_mm (fun μ_11 eμ_11 => ?_)
      replace h := h μ_11 eμ_11
      replace hs : StatR μ_11.2.2 := by rw [eμ_11]; exact (StatR.set hs)
      refine z_rload_n dX10_prepare_100 rfl 1 rfl ?_
      refine z_getR (q := 13810) ff_10_10 dX10_prepare_101 kt_100 (Nat.le_of_ble_eq_true rfl) fl_X10_27 rfl (hs.1 _ _ sr_13810) ?_
      refine z_iload_n dX10_prepare_104 rfl 3 rfl ?_
      refine z_rload_n dX10_prepare_105 rfl 1 rfl ?_
      refine z_getR (q := 13802) ff_10_2 dX10_prepare_106 kt_100 (Nat.le_of_ble_eq_true rfl) fl_X10_54 rfl (hs.1 _ _ sr_13802) ?_
      refine z_iload dX10_prepare_109 0 rfl ?_
      refine z_iconst dX10_prepare_111 ?_
      refine z_VL (i_Floor_bitsOf  hs h) vk_X3_bitsOf kt_67 (Nat.le_of_ble_eq_true rfl) rfl ml_X10_124 ⟨Nat.le_of_ble_eq_true rfl, Nat.le_of_ble_eq_true rfl⟩ ⟨Nat.zero_le _, Nat.zero_le _⟩ rfl rfl (Nat.le_of_ble_eq_true rfl) dX10_prepare_112 (fun r112 μ_12 hs h => ?_)
      refine z_NM (i_X11_set_ kt_106 (Nat.le_of_ble_eq_true rfl)) ok_X11_set_ nw_X10_128 ⟨Nat.le_of_ble_eq_true rfl, Nat.le_of_ble_eq_true rfl⟩ ⟨Nat.zero_le _, Nat.zero_le _⟩ rfl rfl (Nat.le_of_ble_eq_true rfl) dX10_prepare_115 ?_
      refine z_mm (fun μ_13 eμ_13 => ?_)
      replace h := h μ_13 eμ_13
      replace hs : StatR μ_13.2.2 := by rw [eμ_13]; exact (StatR.setL hs)
      refine z_rload_n dX10_prepare_118 rfl 1 rfl ?_
      refine z_getR (q := 13811) ff_10_11 dX10_prepare_119 kt_100 (Nat.le_of_ble_eq_true rfl) fl_X10_31 rfl (hs.1 _ _ sr_13811) ?_
      refine z_iload_n dX10_prepare_122 rfl 3 rfl ?_
      refine z_rload_n dX10_prepare_123 rfl 1 rfl ?_
      refine z_getR (q := 13802) ff_10_2 dX10_prepare_124 kt_100 (Nat.le_of_ble_eq_true rfl) fl_X10_54 rfl (hs.1 _ _ sr_13802) ?_
      refine z_iload dX10_prepare_127 0 rfl ?_
      refine z_iconst dX10_prepare_129 ?_
      refine z_VL (i_Floor_bitsOf  hs h) vk_X3_bitsOf kt_67 (Nat.le_of_ble_eq_true rfl) rfl ml_X10_124 ⟨Nat.le_of_ble_eq_true rfl, Nat.le_of_ble_eq_true rfl⟩ ⟨Nat.zero_le _, Nat.zero_le _⟩ rfl rfl (Nat.le_of_ble_eq_true rfl) dX10_prepare_130 (fun r130 μ_14 hs h => ?_)
      refine z_NM (i_X11_set_ kt_107 (Nat.le_of_ble_eq_true rfl)) ok_X11_set_ nw_X10_128 ⟨Nat.le_of_ble_eq_true rfl, Nat.le_of_ble_eq_true rfl⟩ ⟨Nat.zero_le _, Nat.zero_le _⟩ rfl rfl (Nat.le_of_ble_eq_true rfl) dX10_prepare_133 ?_
      refine z_mm (fun μ_15 eμ_15 => ?_)
      replace h := h μ_15 eμ_15
      replace hs : StatR μ_15.2.2 := by rw [eμ_15]; exact (StatR.setL hs)
      refine z_iinc (j := 3) (lv' := [(3, vi (v3 + 1)), (4, vi v4), (0, vr Γ 100), (2, vr Γ r27)]) dX10_prepare_136 rfl (Nat.le_of_ble_eq_true rfl) rfl ?_
      refine z_goto (tgt := 33) dX10_prepare_139 (by decide) ?_
      refine z_sub (lv' := [(0, vr Γ 100), (2, vr Γ r27), (3, vi (v3 + 1))]) [2, 3, 0] rfl ?_
      exact hR_33 (v3 + 1) μ_15 hs h
    · refine z_sub (lv' := [(0, vr Γ 100)]) [0] rfl ?_
      exact hX_33_142 μ_4 hs h
theorem i_Worths_prepare {l : Launch} {Γ : Gam} {g : Nat} {a1 : Int} {μ : Mem} {k : Bool → Mem → Prop} (hs : StatR μ.2.2) (h : f_Worths_prepare a1 μ k) : CT l Γ yX10_prepare cX10_prepare 5 (some .boolean) 5 120 0 0 [vr Γ 100, vi a1] g 174 μ (pB k) := by
  refine SW.ct (by decide) (Nat.le_of_ble_eq_true rfl) ?_
  refine z_sub (lv' := [(0, vr Γ 100), (1, vi a1)]) [0, 1] rfl ?_
  show SW l Γ yX10_prepare.cls cX10_prepare Y_Worths_prepare (pB k) g 174 0 0 μ 0 [(0, vr Γ 100), (1, vi a1)] []
  unfold f_Worths_prepare at h
  refine z_rload_n dX10_prepare_0 rfl 0 rfl ?_
  refine z_rload_n dX10_prepare_1 rfl 0 rfl ?_
  refine z_getR (q := 13802) ff_10_2 dX10_prepare_2 kt_100 (Nat.le_of_ble_eq_true rfl) fl_X10_54 rfl (hs.1 _ _ sr_13802) ?_
  refine z_iload_n dX10_prepare_5 rfl 1 rfl ?_
  refine z_rload_n dX10_prepare_6 rfl 0 rfl ?_
  refine z_getR (q := 13805) ff_10_5 dX10_prepare_7 kt_100 (Nat.le_of_ble_eq_true rfl) fl_X10_15 rfl (hs.1 _ _ sr_13805) ?_
  refine z_VI (i_Floor_chosen kt_102 (Nat.le_of_ble_eq_true rfl) hs h) vk_X3_chosen kt_67 (Nat.le_of_ble_eq_true rfl) rfl ml_X10_94 ⟨Nat.le_of_ble_eq_true rfl, Nat.le_of_ble_eq_true rfl⟩ ⟨Nat.zero_le _, Nat.zero_le _⟩ rfl rfl (Nat.le_of_ble_eq_true rfl) dX10_prepare_10 (fun r10 μ_1 hs h => ?_)
  refine z_putI (q := 13806) ff_10_6 (Or.inl rfl) rfl dX10_prepare_13 kt_100 (Nat.le_of_ble_eq_true rfl) fl_X10_100 rfl ?_
  refine z_mm (fun μ_2 eμ_2 => ?_)
  replace h := h μ_2 eμ_2
  replace hs : StatR μ_2.2.2 := by rw [eμ_2]; exact hs
  refine z_rload_n dX10_prepare_16 rfl 0 rfl ?_
  refine z_getR (q := 13801) ff_10_1 dX10_prepare_17 kt_100 (Nat.le_of_ble_eq_true rfl) fl_X10_50 rfl (hs.1 _ _ sr_13801) ?_
  refine z_rload_n dX10_prepare_20 rfl 0 rfl ?_
  refine z_getR (q := 13802) ff_10_2 dX10_prepare_21 kt_100 (Nat.le_of_ble_eq_true rfl) fl_X10_54 rfl (hs.1 _ _ sr_13802) ?_
  refine z_getI (q := 9584) ff_3_8 dX10_prepare_24 kt_67 (Nat.le_of_ble_eq_true rfl) fl_X10_103 rfl ?_
  refine z_VA (i_Papers_inForce  hs h) vk_X6_inForce kt_12 (Nat.le_of_ble_eq_true rfl) rfl ml_X10_106 ⟨Nat.le_of_ble_eq_true rfl, Nat.le_of_ble_eq_true rfl⟩ ⟨Nat.zero_le _, Nat.zero_le _⟩ rfl rfl (Nat.le_of_ble_eq_true rfl) dX10_prepare_27 (fun r27 μ_3 hs h => ?_)
  obtain ⟨hr_r27, h⟩ := h
  refine z_rstore_n (lv' := [(2, vr Γ r27), (0, vr Γ 100), (1, vi a1)]) dX10_prepare_30 rfl (Nat.le_of_ble_eq_true rfl) rfl ?_
  refine z_iconst dX10_prepare_31 ?_
  refine z_istore_n (lv' := [(3, vi 0), (2, vr Γ r27), (0, vr Γ 100), (1, vi a1)]) dX10_prepare_32 rfl (Nat.le_of_ble_eq_true rfl) rfl ?_
  obtain ⟨m33, h⟩ := h
  refine z_sub (lv' := [(0, vr Γ 100), (2, vr Γ r27), (3, vi 0)]) [2, 1, 0] rfl ?_
  refine L_Worths_prepare_33 hr_r27 (fun μ_16 hs h => ?_) m33 0 μ_3 hs h
  refine z_rload_n dX10_prepare_142 rfl 0 rfl ?_
  refine z_getI (q := 13806) ff_10_6 dX10_prepare_143 kt_100 (Nat.le_of_ble_eq_true rfl) fl_X10_100 rfl ?_
  refine z_phiB 154 [] (fun V9 hv J9 => ?_) h (fun x154 h => ?_)
  · refine z_if_le (tgt := 153) dX10_prepare_146 (by decide) (eq_ite hv) (fun hv => ?_) (fun hv => ?_)
    · refine z_iconst dX10_prepare_149 ?_
      refine z_goto (tgt := 154) dX10_prepare_150 (by decide) ?_
      exact J9 true hv.symm
    · refine z_iconst dX10_prepare_153 ?_
      exact J9 false hv.symm
  · exact z_zret (b := x154) rfl dX10_prepare_154 rfl rfl rfl ⟨_, rfl, hs, h⟩
abbrev Y_Worths_readOrder : Yt := (6, (some .boolean), yX10_readOrder.name, { frames := 1, cells := 0, slots := 0, locals := 22 }, 174, 0, 0)
def l_Worths_readOrder_12 (X_12_48 : Mem → Prop) (X_12_79 : Int → Mem → Prop) : Nat → Int → Int → Int → Mem → Prop
  | 0, _, _, _, _ => False
  | fu12 + 1, v2, v3, v4_1, μ_1 => if w v4_1 < 0 then (X_12_79 v2 μ_1) else (∀ v5 : Int, v5 = (w_irem v2 10) - 1 → if w v5 < 0 then (X_12_48 μ_1) else (if w v5 < w (rI μ_1 13806 0) then (if w (w_iand (w_iushr v3 v5) 1) = 0 then (∀ v3_1 : Int, v3_1 = w_ior v3 (w_ishl 1 v5) → ∀ μ_2 : Mem, μ_2 = set' μ_1 108 6 v4_1 v5 → ∀ v2_1 : Int, v2_1 = w_idiv v2 10 → (l_Worths_readOrder_12 X_12_48 X_12_79 fu12) v2_1 v3_1 (v4_1 + (-1)) μ_2) else (X_12_48 μ_1)) else (X_12_48 μ_1)))
def f_Worths_readOrder (a1 : Int) (μ : Mem) (k : Bool → Mem → Prop) : Prop := ∀ v4 : Int, v4 = (rI μ 13806 0) - 1 → ∃ m12 : Nat, l_Worths_readOrder_12 (fun (μ_3 : Mem) => k false μ_3) (fun (v2_2 : Int) (μ_4 : Mem) => ∀ x88 : Bool, x88 = (if w v2_2 = 0 then true else false) → k x88 μ_4) m12 a1 0 v4 μ
theorem L_Worths_readOrder_12 {l : Launch} {Γ : Gam} {g : Nat} {X_12_48 : Mem → Prop} {X_12_79 : Int → Mem → Prop} {k : Bool → Mem → Prop} (hX_12_48 : ∀ (ν : Mem), StatR ν.2.2 → X_12_48 ν → SW l Γ yX10_readOrder.cls cX10_readOrder Y_Worths_readOrder (pB k) g 174 0 0 ν 48 [] []) (hX_12_79 : ∀ (u2 : Int) (ν : Mem), StatR ν.2.2 → X_12_79 u2 ν → SW l Γ yX10_readOrder.cls cX10_readOrder Y_Worths_readOrder (pB k) g 174 0 0 ν 79 [(2, vi u2)] []) (n9 : Nat) : ∀ (v2 : Int) (v3 : Int) (v4_1 : Int) (μ_1 : Mem), StatR μ_1.2.2 → l_Worths_readOrder_12 X_12_48 X_12_79 n9 v2 v3 v4_1 μ_1 → SW l Γ yX10_readOrder.cls cX10_readOrder Y_Worths_readOrder (pB k) g 174 0 0 μ_1 12 [(0, vr Γ 100), (2, vi v2), (3, vi v3), (4, vi v4_1)] [] := by
  induction n9 with
  | zero =>
    intro v2 v3 v4_1 μ_1 hs h
    exact h.elim
  | succ n9 hR_12 =>
    intro v2 v3 v4_1 μ_1 hs h
    rw [l_Worths_readOrder_12] at h
    refine z_iload dX10_readOrder_12 3 rfl ?_
    refine z_if_lt (tgt := 79) dX10_readOrder_14 (by decide) h (fun h => ?_) (fun h => ?_)
    · refine z_sub (lv' := [(2, vi v2)]) [1] rfl ?_
      exact hX_12_79 v2 μ_1 hs h
    · refine z_iload_n dX10_readOrder_17 rfl 1 rfl ?_
      refine z_bipush dX10_readOrder_18 (by decide) ?_
      refine z_irem dX10_readOrder_20 (by decide) ?_
      refine z_iconst dX10_readOrder_21 ?_
      refine z_isub dX10_readOrder_22 ?_
      refine z_nm (fun v5 ev5 => ?_)
      replace h := h v5 ev5
      refine z_istore (lv' := [(5, vi v5), (0, vr Γ 100), (2, vi v2), (3, vi v3), (4, vi v4_1)]) dX10_readOrder_23 (Nat.le_of_ble_eq_true rfl) rfl ?_
      refine z_iload dX10_readOrder_25 0 rfl ?_
      refine z_if_lt (tgt := 48) dX10_readOrder_27 (by decide) h (fun h => ?_) (fun h => ?_)
      · refine z_sub (lv' := []) [] rfl ?_
        exact hX_12_48 μ_1 hs h
      · refine z_iload dX10_readOrder_30 0 rfl ?_
        refine z_rload_n dX10_readOrder_32 rfl 1 rfl ?_
        refine z_getI (q := 13806) ff_10_6 dX10_readOrder_33 kt_100 (Nat.le_of_ble_eq_true rfl) fl_X10_100 rfl ?_
        refine z_icmp_ge (tgt := 48) dX10_readOrder_36 (by decide) h (fun h => ?_) (fun h => ?_)
        · refine z_iload_n dX10_readOrder_39 rfl 3 rfl ?_
          refine z_iload dX10_readOrder_40 0 rfl ?_
          refine z_iushr dX10_readOrder_42 ?_
          refine z_iconst dX10_readOrder_43 ?_
          refine z_iand dX10_readOrder_44 ?_
          refine z_if_eq (tgt := 50) dX10_readOrder_45 (by decide) h (fun h => ?_) (fun h => ?_)
          · refine z_iload_n dX10_readOrder_50 rfl 3 rfl ?_
            refine z_iconst dX10_readOrder_51 ?_
            refine z_iload dX10_readOrder_52 0 rfl ?_
            refine z_ishl dX10_readOrder_54 ?_
            refine z_ior dX10_readOrder_55 ?_
            refine z_nm (fun v3_1 ev3_1 => ?_)
            replace h := h v3_1 ev3_1
            refine z_istore_n (lv' := [(3, vi v3_1), (5, vi v5), (0, vr Γ 100), (2, vi v2), (4, vi v4_1)]) dX10_readOrder_56 rfl (Nat.le_of_ble_eq_true rfl) rfl ?_
            refine z_rload_n dX10_readOrder_57 rfl 2 rfl ?_
            refine z_getR (q := 13812) ff_10_12 dX10_readOrder_58 kt_100 (Nat.le_of_ble_eq_true rfl) fl_X10_34 rfl (hs.1 _ _ sr_13812) ?_
            refine z_iload dX10_readOrder_61 4 rfl ?_
            refine z_iload dX10_readOrder_63 1 rfl ?_
            refine z_NM (i_X11_set kt_108 (Nat.le_of_ble_eq_true rfl)) ok_X11_set nw_X10_62 ⟨Nat.le_of_ble_eq_true rfl, Nat.le_of_ble_eq_true rfl⟩ ⟨Nat.zero_le _, Nat.zero_le _⟩ rfl rfl (Nat.le_of_ble_eq_true rfl) dX10_readOrder_65 ?_
            refine z_mm (fun μ_2 eμ_2 => ?_)
            replace h := h μ_2 eμ_2
            replace hs : StatR μ_2.2.2 := by rw [eμ_2]; exact (StatR.set hs)
            refine z_iload_n dX10_readOrder_68 rfl 3 rfl ?_
            refine z_bipush dX10_readOrder_69 (by decide) ?_
            refine z_idiv dX10_readOrder_71 (by decide) ?_
            refine z_nm (fun v2_1 ev2_1 => ?_)
            replace h := h v2_1 ev2_1
            refine z_istore_n (lv' := [(2, vi v2_1), (3, vi v3_1), (5, vi v5), (0, vr Γ 100), (4, vi v4_1)]) dX10_readOrder_72 rfl (Nat.le_of_ble_eq_true rfl) rfl ?_
            refine z_iinc (j := 4) (lv' := [(4, vi (v4_1 + (-1))), (2, vi v2_1), (3, vi v3_1), (5, vi v5), (0, vr Γ 100)]) dX10_readOrder_73 rfl (Nat.le_of_ble_eq_true rfl) rfl ?_
            refine z_goto (tgt := 12) dX10_readOrder_76 (by decide) ?_
            refine z_sub (lv' := [(0, vr Γ 100), (2, vi v2_1), (3, vi v3_1), (4, vi (v4_1 + (-1)))]) [4, 1, 2, 0] rfl ?_
            exact hR_12 v2_1 v3_1 (v4_1 + (-1)) μ_2 hs h
          · refine z_sub (lv' := []) [] rfl ?_
            exact hX_12_48 μ_1 hs h
        · refine z_sub (lv' := []) [] rfl ?_
          exact hX_12_48 μ_1 hs h
theorem i_Worths_readOrder {l : Launch} {Γ : Gam} {g : Nat} {a1 : Int} {μ : Mem} {k : Bool → Mem → Prop} (hs : StatR μ.2.2) (h : f_Worths_readOrder a1 μ k) : CT l Γ yX10_readOrder cX10_readOrder 6 (some .boolean) 1 22 0 0 [vr Γ 100, vi a1] g 174 μ (pB k) := by
  refine SW.ct (by decide) (Nat.le_of_ble_eq_true rfl) ?_
  refine z_sub (lv' := [(0, vr Γ 100), (1, vi a1)]) [0, 1] rfl ?_
  show SW l Γ yX10_readOrder.cls cX10_readOrder Y_Worths_readOrder (pB k) g 174 0 0 μ 0 [(0, vr Γ 100), (1, vi a1)] []
  unfold f_Worths_readOrder at h
  refine z_iload_n dX10_readOrder_0 rfl 1 rfl ?_
  refine z_istore_n (lv' := [(2, vi a1), (0, vr Γ 100), (1, vi a1)]) dX10_readOrder_1 rfl (Nat.le_of_ble_eq_true rfl) rfl ?_
  refine z_iconst dX10_readOrder_2 ?_
  refine z_istore_n (lv' := [(3, vi 0), (2, vi a1), (0, vr Γ 100), (1, vi a1)]) dX10_readOrder_3 rfl (Nat.le_of_ble_eq_true rfl) rfl ?_
  refine z_rload_n dX10_readOrder_4 rfl 2 rfl ?_
  refine z_getI (q := 13806) ff_10_6 dX10_readOrder_5 kt_100 (Nat.le_of_ble_eq_true rfl) fl_X10_100 rfl ?_
  refine z_iconst dX10_readOrder_8 ?_
  refine z_isub dX10_readOrder_9 ?_
  refine z_nm (fun v4 ev4 => ?_)
  replace h := h v4 ev4
  refine z_istore (lv' := [(4, vi v4), (3, vi 0), (2, vi a1), (0, vr Γ 100), (1, vi a1)]) dX10_readOrder_10 (Nat.le_of_ble_eq_true rfl) rfl ?_
  obtain ⟨m12, h⟩ := h
  refine z_sub (lv' := [(0, vr Γ 100), (2, vi a1), (3, vi 0), (4, vi v4)]) [3, 2, 1, 0] rfl ?_
  refine L_Worths_readOrder_12 (fun μ_3 hs h => ?_) (fun v2_2 μ_4 hs h => ?_) m12 a1 0 v4 μ hs h
  · refine z_iconst dX10_readOrder_48 ?_
    exact z_zret (b := false) rfl dX10_readOrder_49 rfl rfl rfl ⟨_, rfl, hs, h⟩
  · refine z_iload_n dX10_readOrder_79 rfl 0 rfl ?_
    refine z_phiB 88 [] (fun V9 hv J9 => ?_) h (fun x88 h => ?_)
    · refine z_if_ne (tgt := 87) dX10_readOrder_80 (by decide) (eq_ite hv) (fun hv => ?_) (fun hv => ?_)
      · refine z_iconst dX10_readOrder_83 ?_
        refine z_goto (tgt := 88) dX10_readOrder_84 (by decide) ?_
        exact J9 true hv.symm
      · refine z_iconst dX10_readOrder_87 ?_
        exact J9 false hv.symm
    · exact z_zret (b := x88) rfl dX10_readOrder_88 rfl rfl rfl ⟨_, rfl, hs, h⟩
abbrev Y_H_inOrder : Yt := (4, (some .int), yX11_inOrder.name, { frames := 6, cells := 0, slots := 0, locals := 144 }, 174, 0, 0)
def f_H_inOrder (a1 : Int) (a2 : Int) (a3 : Int) (μ : Mem) (k : Int → Mem → Prop) : Prop := if (v_Reg_hasAffiliate a3 μ) = true then (f_Worths_prepare a1 μ (fun r16 μ_1 => if r16 = true then (f_Worths_readOrder a2 μ_1 (fun r27 μ_2 => if r27 = true then (f_Worths_along a3 μ_2 (fun r42 μ_3 => k r42 μ_3)) else (k (-1000) μ_2))) else (k (-1000) μ_1))) else (k (-1000) μ)
theorem i_H_inOrder {l : Launch} {Γ : Gam} {g : Nat} {a1 : Int} {a2 : Int} {a3 : Int} {μ : Mem} {k : Int → Mem → Prop} (hs : StatR μ.2.2) (h : f_H_inOrder a1 a2 a3 μ k) : CT l Γ yX11_inOrder cX11_inOrder 4 (some .int) 6 144 0 0 [vr Γ 0, vi a1, vi a2, vi a3] g 174 μ (pI k) := by
  refine SW.ct (by decide) (Nat.le_of_ble_eq_true rfl) ?_
  refine z_sub (lv' := [(0, vr Γ 0), (1, vi a1), (2, vi a2), (3, vi a3)]) [0, 1, 2, 3] rfl ?_
  show SW l Γ yX11_inOrder.cls cX11_inOrder Y_H_inOrder (pI k) g 174 0 0 μ 0 [(0, vr Γ 0), (1, vi a1), (2, vi a2), (3, vi a3)] []
  unfold f_H_inOrder at h
  refine z_rload_n dX11_inOrder_0 rfl 0 rfl ?_
  refine z_getR (q := 1000) ff_11_0 dX11_inOrder_1 kt_0 (Nat.le_of_ble_eq_true rfl) fl_X11_12 rfl (hs.1 _ _ sr_1000) ?_
  refine z_iload_n dX11_inOrder_4 rfl 3 rfl ?_
  refine z_VE (i_Reg_hasAffiliate ) vk_X7_hasAffiliate kt_1 (Nat.le_of_ble_eq_true rfl) rfl ml_X11_103 ⟨Nat.le_of_ble_eq_true rfl, Nat.le_of_ble_eq_true rfl⟩ ⟨Nat.zero_le _, Nat.zero_le _⟩ rfl rfl (Nat.le_of_ble_eq_true rfl) dX11_inOrder_5 ?_
  refine z_ifeq_b (tgt := 33) dX11_inOrder_8 (by decide) h (fun h => ?_) (fun h => ?_)
  · refine z_rload_n dX11_inOrder_11 rfl 0 rfl ?_
    refine z_getR (q := 1009) ff_11_9 dX11_inOrder_12 kt_0 (Nat.le_of_ble_eq_true rfl) fl_X11_91 rfl (hs.1 _ _ sr_1009) ?_
    refine z_iload_n dX11_inOrder_15 rfl 1 rfl ?_
    refine z_VB (i_Worths_prepare  hs h) vk_X10_prepare kt_100 (Nat.le_of_ble_eq_true rfl) rfl ml_X11_332 ⟨Nat.le_of_ble_eq_true rfl, Nat.le_of_ble_eq_true rfl⟩ ⟨Nat.zero_le _, Nat.zero_le _⟩ rfl rfl (Nat.le_of_ble_eq_true rfl) dX11_inOrder_16 (fun r16 μ_1 hs h => ?_)
    refine z_ifeq_b (tgt := 33) dX11_inOrder_19 (by decide) h (fun h => ?_) (fun h => ?_)
    · refine z_rload_n dX11_inOrder_22 rfl 0 rfl ?_
      refine z_getR (q := 1009) ff_11_9 dX11_inOrder_23 kt_0 (Nat.le_of_ble_eq_true rfl) fl_X11_91 rfl (hs.1 _ _ sr_1009) ?_
      refine z_iload_n dX11_inOrder_26 rfl 2 rfl ?_
      refine z_VB (i_Worths_readOrder  hs h) vk_X10_readOrder kt_100 (Nat.le_of_ble_eq_true rfl) rfl ml_X11_335 ⟨Nat.le_of_ble_eq_true rfl, Nat.le_of_ble_eq_true rfl⟩ ⟨Nat.zero_le _, Nat.zero_le _⟩ rfl rfl (Nat.le_of_ble_eq_true rfl) dX11_inOrder_27 (fun r27 μ_2 hs h => ?_)
      refine z_ifne_b (tgt := 37) dX11_inOrder_30 (by decide) h (fun h => ?_) (fun h => ?_)
      · refine z_rload_n dX11_inOrder_37 rfl 0 rfl ?_
        refine z_getR (q := 1009) ff_11_9 dX11_inOrder_38 kt_0 (Nat.le_of_ble_eq_true rfl) fl_X11_91 rfl (hs.1 _ _ sr_1009) ?_
        refine z_iload_n dX11_inOrder_41 rfl 3 rfl ?_
        refine z_VI (i_Worths_along  hs h) vk_X10_along kt_100 (Nat.le_of_ble_eq_true rfl) rfl ml_X11_338 ⟨Nat.le_of_ble_eq_true rfl, Nat.le_of_ble_eq_true rfl⟩ ⟨Nat.zero_le _, Nat.zero_le _⟩ rfl rfl (Nat.le_of_ble_eq_true rfl) dX11_inOrder_42 (fun r42 μ_3 hs h => ?_)
        exact z_iret rfl dX11_inOrder_45 rfl rfl rfl ⟨_, rfl, hs, h⟩
      · refine z_sipush dX11_inOrder_33 (by decide) ?_
        exact z_iret rfl dX11_inOrder_36 rfl rfl rfl ⟨_, rfl, hs, h⟩
    · refine z_sipush dX11_inOrder_33 (by decide) ?_
      exact z_iret rfl dX11_inOrder_36 rfl rfl rfl ⟨_, rfl, hs, h⟩
  · refine z_sipush dX11_inOrder_33 (by decide) ?_
    exact z_iret rfl dX11_inOrder_36 rfl rfl rfl ⟨_, rfl, hs, h⟩
def v_Worths_bestMotionAt (a1 : Int) (μ : Mem) : Int := at' μ 102 6 (at' μ 109 6 a1)
theorem i_Worths_bestMotionAt {l : Launch} {Γ : Gam} {g : Nat} {μ : Mem} {a1 : Int} (hs : StatR μ.2.2) : CT l Γ yX10_bestMotionAt cX10_bestMotionAt 2 (some .int) 1 21 0 0 [vr Γ 100, vi a1] g 174 μ (pE (vi (v_Worths_bestMotionAt a1 μ)) μ) := by
  refine SW.ct (by decide) (Nat.le_of_ble_eq_true rfl) ?_
  refine z_sub (lv' := [(0, vr Γ 100), (1, vi a1)]) [0, 1] rfl ?_
  have hv : v_Worths_bestMotionAt a1 μ = v_Worths_bestMotionAt a1 μ := rfl
  refine z_rload_n dX10_bestMotionAt_0 rfl 0 rfl ?_
  refine z_getR (q := 13805) ff_10_5 dX10_bestMotionAt_1 kt_100 (Nat.le_of_ble_eq_true rfl) fl_X10_15 rfl (hs.1 _ _ sr_13805) ?_
  refine z_rload_n dX10_bestMotionAt_4 rfl 0 rfl ?_
  refine z_getR (q := 13813) ff_10_13 dX10_bestMotionAt_5 kt_100 (Nat.le_of_ble_eq_true rfl) fl_X10_37 rfl (hs.1 _ _ sr_13813) ?_
  refine z_iload_n dX10_bestMotionAt_8 rfl 1 rfl ?_
  refine z_NE (i_X11_at kt_109 (Nat.le_of_ble_eq_true rfl)) ok_X11_at nw_X10_66 ⟨Nat.le_of_ble_eq_true rfl, Nat.le_of_ble_eq_true rfl⟩ ⟨Nat.zero_le _, Nat.zero_le _⟩ rfl rfl (Nat.le_of_ble_eq_true rfl) dX10_bestMotionAt_9 ?_
  refine z_NE (i_X11_at kt_102 (Nat.le_of_ble_eq_true rfl)) ok_X11_at nw_X10_66 ⟨Nat.le_of_ble_eq_true rfl, Nat.le_of_ble_eq_true rfl⟩ ⟨Nat.zero_le _, Nat.zero_le _⟩ rfl rfl (Nat.le_of_ble_eq_true rfl) dX10_bestMotionAt_12 ?_
  exact z_iret rfl dX10_bestMotionAt_15 rfl rfl rfl ⟨by first | (rw [hv]; done) | rfl, rfl⟩
abbrev Y_Worths_swap : Yt := (4, none, yX10_swap.name, { frames := 1, cells := 0, slots := 0, locals := 22 }, 174, 0, 0)
def f_Worths_swap (a1 : Int) (a2 : Int) (μ : Mem) (k : Mem → Prop) : Prop := ∀ v3 : Int, v3 = at' μ 108 6 a1 → ∀ μ_1 : Mem, μ_1 = set' μ 108 6 a1 (at' μ 108 6 a2) → ∀ μ_2 : Mem, μ_2 = set' μ_1 108 6 a2 v3 → k μ_2
theorem i_Worths_swap {l : Launch} {Γ : Gam} {g : Nat} {a1 : Int} {a2 : Int} {μ : Mem} {k : Mem → Prop} (hs : StatR μ.2.2) (h : f_Worths_swap a1 a2 μ k) : CT l Γ yX10_swap cX10_swap 4 none 1 22 0 0 [vr Γ 100, vi a1, vi a2] g 174 μ (pV k) := by
  refine SW.ct (by decide) (Nat.le_of_ble_eq_true rfl) ?_
  refine z_sub (lv' := [(0, vr Γ 100), (1, vi a1), (2, vi a2)]) [0, 1, 2] rfl ?_
  show SW l Γ yX10_swap.cls cX10_swap Y_Worths_swap (pV k) g 174 0 0 μ 0 [(0, vr Γ 100), (1, vi a1), (2, vi a2)] []
  unfold f_Worths_swap at h
  refine z_rload_n dX10_swap_0 rfl 0 rfl ?_
  refine z_getR (q := 13812) ff_10_12 dX10_swap_1 kt_100 (Nat.le_of_ble_eq_true rfl) fl_X10_34 rfl (hs.1 _ _ sr_13812) ?_
  refine z_iload_n dX10_swap_4 rfl 1 rfl ?_
  refine z_NE (i_X11_at kt_108 (Nat.le_of_ble_eq_true rfl)) ok_X11_at nw_X10_66 ⟨Nat.le_of_ble_eq_true rfl, Nat.le_of_ble_eq_true rfl⟩ ⟨Nat.zero_le _, Nat.zero_le _⟩ rfl rfl (Nat.le_of_ble_eq_true rfl) dX10_swap_5 ?_
  refine z_nm (fun v3 ev3 => ?_)
  replace h := h v3 ev3
  refine z_istore_n (lv' := [(3, vi v3), (0, vr Γ 100), (1, vi a1), (2, vi a2)]) dX10_swap_8 rfl (Nat.le_of_ble_eq_true rfl) rfl ?_
  refine z_rload_n dX10_swap_9 rfl 1 rfl ?_
  refine z_getR (q := 13812) ff_10_12 dX10_swap_10 kt_100 (Nat.le_of_ble_eq_true rfl) fl_X10_34 rfl (hs.1 _ _ sr_13812) ?_
  refine z_iload_n dX10_swap_13 rfl 2 rfl ?_
  refine z_rload_n dX10_swap_14 rfl 1 rfl ?_
  refine z_getR (q := 13812) ff_10_12 dX10_swap_15 kt_100 (Nat.le_of_ble_eq_true rfl) fl_X10_34 rfl (hs.1 _ _ sr_13812) ?_
  refine z_iload_n dX10_swap_18 rfl 3 rfl ?_
  refine z_NE (i_X11_at kt_108 (Nat.le_of_ble_eq_true rfl)) ok_X11_at nw_X10_66 ⟨Nat.le_of_ble_eq_true rfl, Nat.le_of_ble_eq_true rfl⟩ ⟨Nat.zero_le _, Nat.zero_le _⟩ rfl rfl (Nat.le_of_ble_eq_true rfl) dX10_swap_19 ?_
  refine z_NM (i_X11_set kt_108 (Nat.le_of_ble_eq_true rfl)) ok_X11_set nw_X10_62 ⟨Nat.le_of_ble_eq_true rfl, Nat.le_of_ble_eq_true rfl⟩ ⟨Nat.zero_le _, Nat.zero_le _⟩ rfl rfl (Nat.le_of_ble_eq_true rfl) dX10_swap_22 ?_
  refine z_mm (fun μ_1 eμ_1 => ?_)
  replace h := h μ_1 eμ_1
  replace hs : StatR μ_1.2.2 := by rw [eμ_1]; exact (StatR.set hs)
  refine z_rload_n dX10_swap_25 rfl 1 rfl ?_
  refine z_getR (q := 13812) ff_10_12 dX10_swap_26 kt_100 (Nat.le_of_ble_eq_true rfl) fl_X10_34 rfl (hs.1 _ _ sr_13812) ?_
  refine z_iload_n dX10_swap_29 rfl 3 rfl ?_
  refine z_iload_n dX10_swap_30 rfl 0 rfl ?_
  refine z_NM (i_X11_set kt_108 (Nat.le_of_ble_eq_true rfl)) ok_X11_set nw_X10_62 ⟨Nat.le_of_ble_eq_true rfl, Nat.le_of_ble_eq_true rfl⟩ ⟨Nat.zero_le _, Nat.zero_le _⟩ rfl rfl (Nat.le_of_ble_eq_true rfl) dX10_swap_31 ?_
  refine z_mm (fun μ_2 eμ_2 => ?_)
  replace h := h μ_2 eμ_2
  replace hs : StatR μ_2.2.2 := by rw [eμ_2]; exact (StatR.set hs)
  exact z_vret rfl dX10_swap_34 rfl rfl rfl ⟨rfl, hs, h⟩
abbrev Y_Worths_nextOrder : Yt := (5, (some .boolean), yX10_nextOrder.name, { frames := 2, cells := 0, slots := 0, locals := 45 }, 174, 0, 0)
def l_Worths_nextOrder_7 (μ : Mem) (X_7_38 : Int → Prop) : Nat → Int → Prop
  | 0, _ => False
  | fu7 + 1, v1_1 => if w v1_1 < 0 then (X_7_38 v1_1) else (if w (at' μ 108 6 (v1_1 + 1)) < w (at' μ 108 6 v1_1) then ((l_Worths_nextOrder_7 μ X_7_38 fu7) (v1_1 + (-1))) else (X_7_38 v1_1))
def l_Worths_nextOrder_51 (μ : Mem) (v1_2 : Int) (X_51_81 : Int → Prop) : Nat → Int → Prop
  | 0, _ => False
  | fu51 + 1, v2_1 => if w v1_2 < w v2_1 then (if w (at' μ 108 6 v2_1) < w (at' μ 108 6 v1_2) then ((l_Worths_nextOrder_51 μ v1_2 X_51_81 fu51) (v2_1 + (-1))) else (X_51_81 v2_1)) else (X_51_81 v2_1)
def l_Worths_nextOrder_99 (X_99_121 : Mem → Prop) : Nat → Int → Int → Mem → Prop
  | 0, _, _, _ => False
  | fu99 + 1, v3_1, v4, μ_2 => if w v4 < w v3_1 then (f_Worths_swap v4 v3_1 μ_2 (fun μ_3 => (l_Worths_nextOrder_99 X_99_121 fu99) (v3_1 + (-1)) (v4 + 1) μ_3)) else (X_99_121 μ_2)
def f_Worths_nextOrder  (μ : Mem) (k : Bool → Mem → Prop) : Prop := ∀ v1 : Int, v1 = (rI μ 13806 0) - 2 → ∃ m7 : Nat, l_Worths_nextOrder_7 μ (fun (v1_2 : Int) => if w v1_2 < 0 then (k false μ) else (∀ v2 : Int, v2 = (rI μ 13806 0) - 1 → ∃ m51 : Nat, l_Worths_nextOrder_51 μ v1_2 (fun (v2_2 : Int) => f_Worths_swap v1_2 v2_2 μ (fun μ_1 => ∀ v3 : Int, v3 = (rI μ_1 13806 0) - 1 → ∃ m99 : Nat, l_Worths_nextOrder_99 (fun (μ_4 : Mem) => k true μ_4) m99 v3 (v1_2 + 1) μ_1)) m51 v2)) m7 v1
theorem L_Worths_nextOrder_7 {l : Launch} {Γ : Gam} {g : Nat} {μ : Mem} {X_7_38 : Int → Prop} {k : Bool → Mem → Prop} (hs : StatR μ.2.2) (hX_7_38 : ∀ (u1 : Int), X_7_38 u1 → SW l Γ yX10_nextOrder.cls cX10_nextOrder Y_Worths_nextOrder (pB k) g 174 0 0 μ 38 [(0, vr Γ 100), (1, vi u1)] []) (n9 : Nat) : ∀ (v1_1 : Int), l_Worths_nextOrder_7 μ X_7_38 n9 v1_1 → SW l Γ yX10_nextOrder.cls cX10_nextOrder Y_Worths_nextOrder (pB k) g 174 0 0 μ 7 [(0, vr Γ 100), (1, vi v1_1)] [] := by
  induction n9 with
  | zero =>
    intro v1_1 h
    exact h.elim
  | succ n9 hR_7 =>
    intro v1_1 h
    rw [l_Worths_nextOrder_7] at h
    refine z_iload_n dX10_nextOrder_7 rfl 1 rfl ?_
    refine z_if_lt (tgt := 38) dX10_nextOrder_8 (by decide) h (fun h => ?_) (fun h => ?_)
    · refine z_sub (lv' := [(0, vr Γ 100), (1, vi v1_1)]) [0, 1] rfl ?_
      exact hX_7_38 v1_1 h
    · refine z_rload_n dX10_nextOrder_11 rfl 0 rfl ?_
      refine z_getR (q := 13812) ff_10_12 dX10_nextOrder_12 kt_100 (Nat.le_of_ble_eq_true rfl) fl_X10_34 rfl (hs.1 _ _ sr_13812) ?_
      refine z_iload_n dX10_nextOrder_15 rfl 1 rfl ?_
      refine z_NE (i_X11_at kt_108 (Nat.le_of_ble_eq_true rfl)) ok_X11_at nw_X10_66 ⟨Nat.le_of_ble_eq_true rfl, Nat.le_of_ble_eq_true rfl⟩ ⟨Nat.zero_le _, Nat.zero_le _⟩ rfl rfl (Nat.le_of_ble_eq_true rfl) dX10_nextOrder_16 ?_
      refine z_rload_n dX10_nextOrder_19 rfl 0 rfl ?_
      refine z_getR (q := 13812) ff_10_12 dX10_nextOrder_20 kt_100 (Nat.le_of_ble_eq_true rfl) fl_X10_34 rfl (hs.1 _ _ sr_13812) ?_
      refine z_iload_n dX10_nextOrder_23 rfl 1 rfl ?_
      refine z_iconst dX10_nextOrder_24 ?_
      refine z_iadd dX10_nextOrder_25 ?_
      refine z_NE (i_X11_at kt_108 (Nat.le_of_ble_eq_true rfl)) ok_X11_at nw_X10_66 ⟨Nat.le_of_ble_eq_true rfl, Nat.le_of_ble_eq_true rfl⟩ ⟨Nat.zero_le _, Nat.zero_le _⟩ rfl rfl (Nat.le_of_ble_eq_true rfl) dX10_nextOrder_26 ?_
      refine z_icmp_le (tgt := 38) dX10_nextOrder_29 (by decide) h (fun h => ?_) (fun h => ?_)
      · refine z_iinc (j := 1) (lv' := [(1, vi (v1_1 + (-1))), (0, vr Γ 100)]) dX10_nextOrder_32 rfl (Nat.le_of_ble_eq_true rfl) rfl ?_
        refine z_goto (tgt := 7) dX10_nextOrder_35 (by decide) ?_
        refine z_sub (lv' := [(0, vr Γ 100), (1, vi (v1_1 + (-1)))]) [1, 0] rfl ?_
        exact hR_7 (v1_1 + (-1)) h
      · refine z_sub (lv' := [(0, vr Γ 100), (1, vi v1_1)]) [0, 1] rfl ?_
        exact hX_7_38 v1_1 h
theorem L_Worths_nextOrder_51 {l : Launch} {Γ : Gam} {g : Nat} {μ : Mem} {v1_2 : Int} {X_51_81 : Int → Prop} {k : Bool → Mem → Prop} (hs : StatR μ.2.2) (hX_51_81 : ∀ (u2 : Int), X_51_81 u2 → SW l Γ yX10_nextOrder.cls cX10_nextOrder Y_Worths_nextOrder (pB k) g 174 0 0 μ 81 [(0, vr Γ 100), (1, vi v1_2), (2, vi u2)] []) (n9 : Nat) : ∀ (v2_1 : Int), l_Worths_nextOrder_51 μ v1_2 X_51_81 n9 v2_1 → SW l Γ yX10_nextOrder.cls cX10_nextOrder Y_Worths_nextOrder (pB k) g 174 0 0 μ 51 [(0, vr Γ 100), (1, vi v1_2), (2, vi v2_1)] [] := by
  induction n9 with
  | zero =>
    intro v2_1 h
    exact h.elim
  | succ n9 hR_51 =>
    intro v2_1 h
    rw [l_Worths_nextOrder_51] at h
    refine z_iload_n dX10_nextOrder_51 rfl 2 rfl ?_
    refine z_iload_n dX10_nextOrder_52 rfl 1 rfl ?_
    refine z_icmp_le (tgt := 81) dX10_nextOrder_53 (by decide) h (fun h => ?_) (fun h => ?_)
    · refine z_rload_n dX10_nextOrder_56 rfl 0 rfl ?_
      refine z_getR (q := 13812) ff_10_12 dX10_nextOrder_57 kt_100 (Nat.le_of_ble_eq_true rfl) fl_X10_34 rfl (hs.1 _ _ sr_13812) ?_
      refine z_iload_n dX10_nextOrder_60 rfl 2 rfl ?_
      refine z_NE (i_X11_at kt_108 (Nat.le_of_ble_eq_true rfl)) ok_X11_at nw_X10_66 ⟨Nat.le_of_ble_eq_true rfl, Nat.le_of_ble_eq_true rfl⟩ ⟨Nat.zero_le _, Nat.zero_le _⟩ rfl rfl (Nat.le_of_ble_eq_true rfl) dX10_nextOrder_61 ?_
      refine z_rload_n dX10_nextOrder_64 rfl 0 rfl ?_
      refine z_getR (q := 13812) ff_10_12 dX10_nextOrder_65 kt_100 (Nat.le_of_ble_eq_true rfl) fl_X10_34 rfl (hs.1 _ _ sr_13812) ?_
      refine z_iload_n dX10_nextOrder_68 rfl 1 rfl ?_
      refine z_NE (i_X11_at kt_108 (Nat.le_of_ble_eq_true rfl)) ok_X11_at nw_X10_66 ⟨Nat.le_of_ble_eq_true rfl, Nat.le_of_ble_eq_true rfl⟩ ⟨Nat.zero_le _, Nat.zero_le _⟩ rfl rfl (Nat.le_of_ble_eq_true rfl) dX10_nextOrder_69 ?_
      refine z_icmp_ge (tgt := 81) dX10_nextOrder_72 (by decide) h (fun h => ?_) (fun h => ?_)
      · refine z_iinc (j := 2) (lv' := [(2, vi (v2_1 + (-1))), (0, vr Γ 100), (1, vi v1_2)]) dX10_nextOrder_75 rfl (Nat.le_of_ble_eq_true rfl) rfl ?_
        refine z_goto (tgt := 51) dX10_nextOrder_78 (by decide) ?_
        refine z_sub (lv' := [(0, vr Γ 100), (1, vi v1_2), (2, vi (v2_1 + (-1)))]) [1, 2, 0] rfl ?_
        exact hR_51 (v2_1 + (-1)) h
      · refine z_sub (lv' := [(0, vr Γ 100), (1, vi v1_2), (2, vi v2_1)]) [0, 1, 2] rfl ?_
        exact hX_51_81 v2_1 h
    · refine z_sub (lv' := [(0, vr Γ 100), (1, vi v1_2), (2, vi v2_1)]) [0, 1, 2] rfl ?_
      exact hX_51_81 v2_1 h
theorem L_Worths_nextOrder_99 {l : Launch} {Γ : Gam} {g : Nat} {X_99_121 : Mem → Prop} {k : Bool → Mem → Prop} (hX_99_121 : ∀ (ν : Mem), StatR ν.2.2 → X_99_121 ν → SW l Γ yX10_nextOrder.cls cX10_nextOrder Y_Worths_nextOrder (pB k) g 174 0 0 ν 121 [] []) (n9 : Nat) : ∀ (v3_1 : Int) (v4 : Int) (μ_2 : Mem), StatR μ_2.2.2 → l_Worths_nextOrder_99 X_99_121 n9 v3_1 v4 μ_2 → SW l Γ yX10_nextOrder.cls cX10_nextOrder Y_Worths_nextOrder (pB k) g 174 0 0 μ_2 99 [(0, vr Γ 100), (3, vi v3_1), (4, vi v4)] [] := by
  induction n9 with
  | zero =>
    intro v3_1 v4 μ_2 hs h
    exact h.elim
  | succ n9 hR_99 =>
    intro v3_1 v4 μ_2 hs h
    rw [l_Worths_nextOrder_99] at h
    refine z_iload dX10_nextOrder_99 2 rfl ?_
    refine z_iload_n dX10_nextOrder_101 rfl 1 rfl ?_
    refine z_icmp_ge (tgt := 121) dX10_nextOrder_102 (by decide) h (fun h => ?_) (fun h => ?_)
    · refine z_rload_n dX10_nextOrder_105 rfl 0 rfl ?_
      refine z_iload dX10_nextOrder_106 2 rfl ?_
      refine z_iload_n dX10_nextOrder_108 rfl 1 rfl ?_
      refine z_VU (i_Worths_swap  hs h) vk_X10_swap kt_100 (Nat.le_of_ble_eq_true rfl) rfl ml_X10_162 ⟨Nat.le_of_ble_eq_true rfl, Nat.le_of_ble_eq_true rfl⟩ ⟨Nat.zero_le _, Nat.zero_le _⟩ rfl rfl (Nat.le_of_ble_eq_true rfl) dX10_nextOrder_109 (fun μ_3 hs h => ?_)
      refine z_iinc (j := 1) (lv' := [(3, vi (v3_1 + (-1))), (0, vr Γ 100), (4, vi v4)]) dX10_nextOrder_112 rfl (Nat.le_of_ble_eq_true rfl) rfl ?_
      refine z_iinc (j := 2) (lv' := [(4, vi (v4 + 1)), (3, vi (v3_1 + (-1))), (0, vr Γ 100)]) dX10_nextOrder_115 rfl (Nat.le_of_ble_eq_true rfl) rfl ?_
      refine z_goto (tgt := 99) dX10_nextOrder_118 (by decide) ?_
      refine z_sub (lv' := [(0, vr Γ 100), (3, vi (v3_1 + (-1))), (4, vi (v4 + 1))]) [2, 1, 0] rfl ?_
      exact hR_99 (v3_1 + (-1)) (v4 + 1) μ_3 hs h
    · refine z_sub (lv' := []) [] rfl ?_
      exact hX_99_121 μ_2 hs h
theorem i_Worths_nextOrder {l : Launch} {Γ : Gam} {g : Nat} {μ : Mem} {k : Bool → Mem → Prop} (hs : StatR μ.2.2) (h : f_Worths_nextOrder  μ k) : CT l Γ yX10_nextOrder cX10_nextOrder 5 (some .boolean) 2 45 0 0 [vr Γ 100] g 174 μ (pB k) := by
  refine SW.ct (by decide) (Nat.le_of_ble_eq_true rfl) ?_
  refine z_sub (lv' := [(0, vr Γ 100)]) [0] rfl ?_
  show SW l Γ yX10_nextOrder.cls cX10_nextOrder Y_Worths_nextOrder (pB k) g 174 0 0 μ 0 [(0, vr Γ 100)] []
  unfold f_Worths_nextOrder at h
  refine z_rload_n dX10_nextOrder_0 rfl 0 rfl ?_
  refine z_getI (q := 13806) ff_10_6 dX10_nextOrder_1 kt_100 (Nat.le_of_ble_eq_true rfl) fl_X10_100 rfl ?_
  refine z_iconst dX10_nextOrder_4 ?_
  refine z_isub dX10_nextOrder_5 ?_
  refine z_nm (fun v1 ev1 => ?_)
  replace h := h v1 ev1
  refine z_istore_n (lv' := [(1, vi v1), (0, vr Γ 100)]) dX10_nextOrder_6 rfl (Nat.le_of_ble_eq_true rfl) rfl ?_
  obtain ⟨m7, h⟩ := h
  refine z_sub (lv' := [(0, vr Γ 100), (1, vi v1)]) [1, 0] rfl ?_
  refine L_Worths_nextOrder_7 hs (fun v1_2 h => ?_) m7 v1 h
  refine z_iload_n dX10_nextOrder_38 rfl 1 rfl ?_
  refine z_if_ge (tgt := 44) dX10_nextOrder_39 (by decide) h (fun h => ?_) (fun h => ?_)
  · refine z_iconst dX10_nextOrder_42 ?_
    exact z_zret (b := false) rfl dX10_nextOrder_43 rfl rfl rfl ⟨_, rfl, hs, h⟩
  · refine z_rload_n dX10_nextOrder_44 rfl 0 rfl ?_
    refine z_getI (q := 13806) ff_10_6 dX10_nextOrder_45 kt_100 (Nat.le_of_ble_eq_true rfl) fl_X10_100 rfl ?_
    refine z_iconst dX10_nextOrder_48 ?_
    refine z_isub dX10_nextOrder_49 ?_
    refine z_nm (fun v2 ev2 => ?_)
    replace h := h v2 ev2
    refine z_istore_n (lv' := [(2, vi v2), (0, vr Γ 100), (1, vi v1_2)]) dX10_nextOrder_50 rfl (Nat.le_of_ble_eq_true rfl) rfl ?_
    obtain ⟨m51, h⟩ := h
    refine z_sub (lv' := [(0, vr Γ 100), (1, vi v1_2), (2, vi v2)]) [1, 2, 0] rfl ?_
    refine L_Worths_nextOrder_51 hs (fun v2_2 h => ?_) m51 v2 h
    refine z_rload_n dX10_nextOrder_81 rfl 0 rfl ?_
    refine z_iload_n dX10_nextOrder_82 rfl 1 rfl ?_
    refine z_iload_n dX10_nextOrder_83 rfl 2 rfl ?_
    refine z_VU (i_Worths_swap  hs h) vk_X10_swap kt_100 (Nat.le_of_ble_eq_true rfl) rfl ml_X10_162 ⟨Nat.le_of_ble_eq_true rfl, Nat.le_of_ble_eq_true rfl⟩ ⟨Nat.zero_le _, Nat.zero_le _⟩ rfl rfl (Nat.le_of_ble_eq_true rfl) dX10_nextOrder_84 (fun μ_1 hs h => ?_)
    refine z_rload_n dX10_nextOrder_87 rfl 0 rfl ?_
    refine z_getI (q := 13806) ff_10_6 dX10_nextOrder_88 kt_100 (Nat.le_of_ble_eq_true rfl) fl_X10_100 rfl ?_
    refine z_iconst dX10_nextOrder_91 ?_
    refine z_isub dX10_nextOrder_92 ?_
    refine z_nm (fun v3 ev3 => ?_)
    replace h := h v3 ev3
    refine z_istore_n (lv' := [(3, vi v3), (0, vr Γ 100), (1, vi v1_2), (2, vi v2_2)]) dX10_nextOrder_93 rfl (Nat.le_of_ble_eq_true rfl) rfl ?_
    refine z_iload_n dX10_nextOrder_94 rfl 2 rfl ?_
    refine z_iconst dX10_nextOrder_95 ?_
    refine z_iadd dX10_nextOrder_96 ?_
    refine z_istore (lv' := [(4, vi (v1_2 + 1)), (3, vi v3), (0, vr Γ 100), (1, vi v1_2), (2, vi v2_2)]) dX10_nextOrder_97 (Nat.le_of_ble_eq_true rfl) rfl ?_
    obtain ⟨m99, h⟩ := h
    refine z_sub (lv' := [(0, vr Γ 100), (3, vi v3), (4, vi (v1_2 + 1))]) [2, 1, 0] rfl ?_
    refine L_Worths_nextOrder_99 (fun μ_4 hs h => ?_) m99 v3 (v1_2 + 1) μ_1 hs h
    refine z_iconst dX10_nextOrder_121 ?_
    exact z_zret (b := true) rfl dX10_nextOrder_122 rfl rfl rfl ⟨_, rfl, hs, h⟩
abbrev Y_Worths_findBest : Yt := (5, (some .int), yX10_findBest.name, { frames := 3, cells := 0, slots := 0, locals := 77 }, 174, 0, 0)
def l_Worths_findBest_2 (a1 : Int) (X_2_25 : Mem → Prop) : Nat → Int → Mem → Prop
  | 0, _, _ => False
  | fu2 + 1, v2, μ_1 => if w v2 < w (rI μ_1 13806 0) then (∀ μ_2 : Mem, μ_2 = set' μ_1 108 6 v2 v2 → (l_Worths_findBest_2 a1 X_2_25 fu2) (v2 + 1) μ_2) else (X_2_25 μ_1)
def l_Worths_findBest_44 (a1 : Int) (X_44_91 : Int → Mem → Prop) : Nat → Int → Int → Mem → Prop
  | 0, _, _, _ => False
  | fu44 + 1, v2_1, v3, μ_6 => if w v3 < w 720 then (f_Worths_nextOrder  μ_6 (fun r52 μ_7 => if r52 = true then (f_Worths_along a1 μ_7 (fun r60 μ_8 => if w v2_1 < w r60 then (f_H_copy 108 6 109 6 μ_8 (fun μ_9 => (l_Worths_findBest_44 a1 X_44_91 fu44) r60 (v3 + 1) μ_9)) else ((l_Worths_findBest_44 a1 X_44_91 fu44) v2_1 (v3 + 1) μ_8))) else (X_44_91 v2_1 μ_7))) else (X_44_91 v2_1 μ_6)
def f_Worths_findBest (a1 : Int) (μ : Mem) (k : Int → Mem → Prop) : Prop := ∃ m2 : Nat, l_Worths_findBest_2 a1 (fun (μ_3 : Mem) => f_Worths_along a1 μ_3 (fun r27 μ_4 => f_H_copy 108 6 109 6 μ_4 (fun μ_5 => ∃ m44 : Nat, l_Worths_findBest_44 a1 (fun (v2_2 : Int) (μ_10 : Mem) => k v2_2 μ_10) m44 r27 0 μ_5))) m2 0 μ
theorem L_Worths_findBest_2 {l : Launch} {Γ : Gam} {g : Nat} {a1 : Int} {X_2_25 : Mem → Prop} {k : Int → Mem → Prop} (hX_2_25 : ∀ (ν : Mem), StatR ν.2.2 → X_2_25 ν → SW l Γ yX10_findBest.cls cX10_findBest Y_Worths_findBest (pI k) g 174 0 0 ν 25 [(0, vr Γ 100), (1, vi a1)] []) (n9 : Nat) : ∀ (v2 : Int) (μ_1 : Mem), StatR μ_1.2.2 → l_Worths_findBest_2 a1 X_2_25 n9 v2 μ_1 → SW l Γ yX10_findBest.cls cX10_findBest Y_Worths_findBest (pI k) g 174 0 0 μ_1 2 [(0, vr Γ 100), (1, vi a1), (2, vi v2)] [] := by
  induction n9 with
  | zero =>
    intro v2 μ_1 hs h
    exact h.elim
  | succ n9 hR_2 =>
    intro v2 μ_1 hs h
    rw [l_Worths_findBest_2] at h
    refine z_iload_n dX10_findBest_2 rfl 2 rfl ?_
    refine z_rload_n dX10_findBest_3 rfl 0 rfl ?_
    refine z_getI (q := 13806) ff_10_6 dX10_findBest_4 kt_100 (Nat.le_of_ble_eq_true rfl) fl_X10_100 rfl ?_
    refine z_icmp_ge (tgt := 25) dX10_findBest_7 (by decide) h (fun h => ?_) (fun h => ?_)
    · refine z_rload_n dX10_findBest_10 rfl 0 rfl ?_
      refine z_getR (q := 13812) ff_10_12 dX10_findBest_11 kt_100 (Nat.le_of_ble_eq_true rfl) fl_X10_34 rfl (hs.1 _ _ sr_13812) ?_
      refine z_iload_n dX10_findBest_14 rfl 2 rfl ?_
      refine z_iload_n dX10_findBest_15 rfl 2 rfl ?_
      refine z_NM (i_X11_set kt_108 (Nat.le_of_ble_eq_true rfl)) ok_X11_set nw_X10_62 ⟨Nat.le_of_ble_eq_true rfl, Nat.le_of_ble_eq_true rfl⟩ ⟨Nat.zero_le _, Nat.zero_le _⟩ rfl rfl (Nat.le_of_ble_eq_true rfl) dX10_findBest_16 ?_
      refine z_mm (fun μ_2 eμ_2 => ?_)
      replace h := h μ_2 eμ_2
      replace hs : StatR μ_2.2.2 := by rw [eμ_2]; exact (StatR.set hs)
      refine z_iinc (j := 2) (lv' := [(2, vi (v2 + 1)), (0, vr Γ 100), (1, vi a1)]) dX10_findBest_19 rfl (Nat.le_of_ble_eq_true rfl) rfl ?_
      refine z_goto (tgt := 2) dX10_findBest_22 (by decide) ?_
      refine z_sub (lv' := [(0, vr Γ 100), (1, vi a1), (2, vi (v2 + 1))]) [1, 2, 0] rfl ?_
      exact hR_2 (v2 + 1) μ_2 hs h
    · refine z_sub (lv' := [(0, vr Γ 100), (1, vi a1)]) [0, 1] rfl ?_
      exact hX_2_25 μ_1 hs h
theorem L_Worths_findBest_44 {l : Launch} {Γ : Gam} {g : Nat} {a1 : Int} {X_44_91 : Int → Mem → Prop} {k : Int → Mem → Prop} (hX_44_91 : ∀ (u2 : Int) (ν : Mem), StatR ν.2.2 → X_44_91 u2 ν → SW l Γ yX10_findBest.cls cX10_findBest Y_Worths_findBest (pI k) g 174 0 0 ν 91 [(2, vi u2)] []) (n9 : Nat) : ∀ (v2_1 : Int) (v3 : Int) (μ_6 : Mem), StatR μ_6.2.2 → l_Worths_findBest_44 a1 X_44_91 n9 v2_1 v3 μ_6 → SW l Γ yX10_findBest.cls cX10_findBest Y_Worths_findBest (pI k) g 174 0 0 μ_6 44 [(0, vr Γ 100), (1, vi a1), (2, vi v2_1), (3, vi v3)] [] := by
  induction n9 with
  | zero =>
    intro v2_1 v3 μ_6 hs h
    exact h.elim
  | succ n9 hR_44 =>
    intro v2_1 v3 μ_6 hs h
    rw [l_Worths_findBest_44] at h
    refine z_iload_n dX10_findBest_44 rfl 3 rfl ?_
    refine z_sipush dX10_findBest_45 (by decide) ?_
    refine z_icmp_ge (tgt := 91) dX10_findBest_48 (by decide) h (fun h => ?_) (fun h => ?_)
    · refine z_rload_n dX10_findBest_51 rfl 0 rfl ?_
      refine z_VB (i_Worths_nextOrder  hs h) vk_X10_nextOrder kt_100 (Nat.le_of_ble_eq_true rfl) rfl ml_X10_158 ⟨Nat.le_of_ble_eq_true rfl, Nat.le_of_ble_eq_true rfl⟩ ⟨Nat.zero_le _, Nat.zero_le _⟩ rfl rfl (Nat.le_of_ble_eq_true rfl) dX10_findBest_52 (fun r52 μ_7 hs h => ?_)
      refine z_ifeq_b (tgt := 91) dX10_findBest_55 (by decide) h (fun h => ?_) (fun h => ?_)
      · refine z_rload_n dX10_findBest_58 rfl 0 rfl ?_
        refine z_iload_n dX10_findBest_59 rfl 1 rfl ?_
        refine z_VI (i_Worths_along  hs h) vk_X10_along kt_100 (Nat.le_of_ble_eq_true rfl) rfl ml_X10_151 ⟨Nat.le_of_ble_eq_true rfl, Nat.le_of_ble_eq_true rfl⟩ ⟨Nat.zero_le _, Nat.zero_le _⟩ rfl rfl (Nat.le_of_ble_eq_true rfl) dX10_findBest_60 (fun r60 μ_8 hs h => ?_)
        refine z_istore (lv' := [(4, vi r60), (0, vr Γ 100), (1, vi a1), (2, vi v2_1), (3, vi v3)]) dX10_findBest_63 (Nat.le_of_ble_eq_true rfl) rfl ?_
        refine z_iload dX10_findBest_65 0 rfl ?_
        refine z_iload_n dX10_findBest_67 rfl 3 rfl ?_
        refine z_icmp_le (tgt := 85) dX10_findBest_68 (by decide) h (fun h => ?_) (fun h => ?_)
        · refine z_iload dX10_findBest_71 0 rfl ?_
          refine z_istore_n (lv' := [(2, vi r60), (4, vi r60), (0, vr Γ 100), (1, vi a1), (3, vi v3)]) dX10_findBest_73 rfl (Nat.le_of_ble_eq_true rfl) rfl ?_
          refine z_rload_n dX10_findBest_74 rfl 2 rfl ?_
          refine z_getR (q := 13812) ff_10_12 dX10_findBest_75 kt_100 (Nat.le_of_ble_eq_true rfl) fl_X10_34 rfl (hs.1 _ _ sr_13812) ?_
          refine z_rload_n dX10_findBest_78 rfl 2 rfl ?_
          refine z_getR (q := 13813) ff_10_13 dX10_findBest_79 kt_100 (Nat.le_of_ble_eq_true rfl) fl_X10_37 rfl (hs.1 _ _ sr_13813) ?_
          refine z_NU (i_H_copy kt_108 (Nat.le_of_ble_eq_true rfl) kt_109 (Nat.le_of_ble_eq_true rfl) hs h) sk_X11_copy nw_X10_154 ⟨Nat.le_of_ble_eq_true rfl, Nat.le_of_ble_eq_true rfl⟩ ⟨Nat.zero_le _, Nat.zero_le _⟩ rfl rfl (Nat.le_of_ble_eq_true rfl) dX10_findBest_82 (fun μ_9 hs h => ?_)
          refine z_iinc (j := 4) (lv' := [(3, vi (v3 + 1)), (2, vi r60), (4, vi r60), (0, vr Γ 100), (1, vi a1)]) dX10_findBest_85 rfl (Nat.le_of_ble_eq_true rfl) rfl ?_
          refine z_goto (tgt := 44) dX10_findBest_88 (by decide) ?_
          refine z_sub (lv' := [(0, vr Γ 100), (1, vi a1), (2, vi r60), (3, vi (v3 + 1))]) [3, 4, 1, 0] rfl ?_
          exact hR_44 r60 (v3 + 1) μ_9 hs h
        · refine z_iinc (j := 4) (lv' := [(3, vi (v3 + 1)), (4, vi r60), (0, vr Γ 100), (1, vi a1), (2, vi v2_1)]) dX10_findBest_85 rfl (Nat.le_of_ble_eq_true rfl) rfl ?_
          refine z_goto (tgt := 44) dX10_findBest_88 (by decide) ?_
          refine z_sub (lv' := [(0, vr Γ 100), (1, vi a1), (2, vi v2_1), (3, vi (v3 + 1))]) [2, 3, 4, 0] rfl ?_
          exact hR_44 v2_1 (v3 + 1) μ_8 hs h
      · refine z_sub (lv' := [(2, vi v2_1)]) [2] rfl ?_
        exact hX_44_91 v2_1 μ_7 hs h
    · refine z_sub (lv' := [(2, vi v2_1)]) [2] rfl ?_
      exact hX_44_91 v2_1 μ_6 hs h
theorem i_Worths_findBest {l : Launch} {Γ : Gam} {g : Nat} {a1 : Int} {μ : Mem} {k : Int → Mem → Prop} (hs : StatR μ.2.2) (h : f_Worths_findBest a1 μ k) : CT l Γ yX10_findBest cX10_findBest 5 (some .int) 3 77 0 0 [vr Γ 100, vi a1] g 174 μ (pI k) := by
  refine SW.ct (by decide) (Nat.le_of_ble_eq_true rfl) ?_
  refine z_sub (lv' := [(0, vr Γ 100), (1, vi a1)]) [0, 1] rfl ?_
  show SW l Γ yX10_findBest.cls cX10_findBest Y_Worths_findBest (pI k) g 174 0 0 μ 0 [(0, vr Γ 100), (1, vi a1)] []
  unfold f_Worths_findBest at h
  refine z_iconst dX10_findBest_0 ?_
  refine z_istore_n (lv' := [(2, vi 0), (0, vr Γ 100), (1, vi a1)]) dX10_findBest_1 rfl (Nat.le_of_ble_eq_true rfl) rfl ?_
  obtain ⟨m2, h⟩ := h
  refine z_sub (lv' := [(0, vr Γ 100), (1, vi a1), (2, vi 0)]) [1, 2, 0] rfl ?_
  refine L_Worths_findBest_2 (fun μ_3 hs h => ?_) m2 0 μ hs h
  refine z_rload_n dX10_findBest_25 rfl 0 rfl ?_
  refine z_iload_n dX10_findBest_26 rfl 1 rfl ?_
  refine z_VI (i_Worths_along  hs h) vk_X10_along kt_100 (Nat.le_of_ble_eq_true rfl) rfl ml_X10_151 ⟨Nat.le_of_ble_eq_true rfl, Nat.le_of_ble_eq_true rfl⟩ ⟨Nat.zero_le _, Nat.zero_le _⟩ rfl rfl (Nat.le_of_ble_eq_true rfl) dX10_findBest_27 (fun r27 μ_4 hs h => ?_)
  refine z_istore_n (lv' := [(2, vi r27), (0, vr Γ 100), (1, vi a1)]) dX10_findBest_30 rfl (Nat.le_of_ble_eq_true rfl) rfl ?_
  refine z_rload_n dX10_findBest_31 rfl 1 rfl ?_
  refine z_getR (q := 13812) ff_10_12 dX10_findBest_32 kt_100 (Nat.le_of_ble_eq_true rfl) fl_X10_34 rfl (hs.1 _ _ sr_13812) ?_
  refine z_rload_n dX10_findBest_35 rfl 1 rfl ?_
  refine z_getR (q := 13813) ff_10_13 dX10_findBest_36 kt_100 (Nat.le_of_ble_eq_true rfl) fl_X10_37 rfl (hs.1 _ _ sr_13813) ?_
  refine z_NU (i_H_copy kt_108 (Nat.le_of_ble_eq_true rfl) kt_109 (Nat.le_of_ble_eq_true rfl) hs h) sk_X11_copy nw_X10_154 ⟨Nat.le_of_ble_eq_true rfl, Nat.le_of_ble_eq_true rfl⟩ ⟨Nat.zero_le _, Nat.zero_le _⟩ rfl rfl (Nat.le_of_ble_eq_true rfl) dX10_findBest_39 (fun μ_5 hs h => ?_)
  refine z_iconst dX10_findBest_42 ?_
  refine z_istore_n (lv' := [(3, vi 0), (2, vi r27), (0, vr Γ 100), (1, vi a1)]) dX10_findBest_43 rfl (Nat.le_of_ble_eq_true rfl) rfl ?_
  obtain ⟨m44, h⟩ := h
  refine z_sub (lv' := [(0, vr Γ 100), (1, vi a1), (2, vi r27), (3, vi 0)]) [2, 3, 1, 0] rfl ?_
  refine L_Worths_findBest_44 (fun v2_2 μ_10 hs h => ?_) m44 r27 0 μ_5 hs h
  refine z_iload_n dX10_findBest_91 rfl 0 rfl ?_
  exact z_iret rfl dX10_findBest_92 rfl rfl rfl ⟨_, rfl, hs, h⟩
abbrev Y_H_best : Yt := (5, (some .int), yX11_best.name, { frames := 6, cells := 0, slots := 0, locals := 144 }, 174, 0, 0)
def f_H_best (a1 : Int) (a2 : Int) (a3 : Int) (μ : Mem) (k : Int → Mem → Prop) : Prop := if (v_Reg_hasAffiliate a2 μ) = true then (f_Worths_prepare a1 μ (fun r16 μ_1 => if r16 = true then (if w a3 < w (-1) then (k (-1000) μ_1) else (if w a3 < w (rI μ_1 13806 0) then (f_Worths_findBest a2 μ_1 (fun r47 μ_2 => ∀ x70 : Int, x70 = (if w a3 = w (-1) then r47 else (v_Worths_bestMotionAt a3 μ_2)) → k x70 μ_2)) else (k (-1000) μ_1))) else (k (-1000) μ_1))) else (k (-1000) μ)
theorem i_H_best {l : Launch} {Γ : Gam} {g : Nat} {a1 : Int} {a2 : Int} {a3 : Int} {μ : Mem} {k : Int → Mem → Prop} (hs : StatR μ.2.2) (h : f_H_best a1 a2 a3 μ k) : CT l Γ yX11_best cX11_best 5 (some .int) 6 144 0 0 [vr Γ 0, vi a1, vi a2, vi a3] g 174 μ (pI k) := by
  refine SW.ct (by decide) (Nat.le_of_ble_eq_true rfl) ?_
  refine z_sub (lv' := [(0, vr Γ 0), (1, vi a1), (2, vi a2), (3, vi a3)]) [0, 1, 2, 3] rfl ?_
  show SW l Γ yX11_best.cls cX11_best Y_H_best (pI k) g 174 0 0 μ 0 [(0, vr Γ 0), (1, vi a1), (2, vi a2), (3, vi a3)] []
  unfold f_H_best at h
  refine z_rload_n dX11_best_0 rfl 0 rfl ?_
  refine z_getR (q := 1000) ff_11_0 dX11_best_1 kt_0 (Nat.le_of_ble_eq_true rfl) fl_X11_12 rfl (hs.1 _ _ sr_1000) ?_
  refine z_iload_n dX11_best_4 rfl 2 rfl ?_
  refine z_VE (i_Reg_hasAffiliate ) vk_X7_hasAffiliate kt_1 (Nat.le_of_ble_eq_true rfl) rfl ml_X11_103 ⟨Nat.le_of_ble_eq_true rfl, Nat.le_of_ble_eq_true rfl⟩ ⟨Nat.zero_le _, Nat.zero_le _⟩ rfl rfl (Nat.le_of_ble_eq_true rfl) dX11_best_5 ?_
  refine z_ifeq_b (tgt := 38) dX11_best_8 (by decide) h (fun h => ?_) (fun h => ?_)
  · refine z_rload_n dX11_best_11 rfl 0 rfl ?_
    refine z_getR (q := 1009) ff_11_9 dX11_best_12 kt_0 (Nat.le_of_ble_eq_true rfl) fl_X11_91 rfl (hs.1 _ _ sr_1009) ?_
    refine z_iload_n dX11_best_15 rfl 1 rfl ?_
    refine z_VB (i_Worths_prepare  hs h) vk_X10_prepare kt_100 (Nat.le_of_ble_eq_true rfl) rfl ml_X11_332 ⟨Nat.le_of_ble_eq_true rfl, Nat.le_of_ble_eq_true rfl⟩ ⟨Nat.zero_le _, Nat.zero_le _⟩ rfl rfl (Nat.le_of_ble_eq_true rfl) dX11_best_16 (fun r16 μ_1 hs h => ?_)
    refine z_ifeq_b (tgt := 38) dX11_best_19 (by decide) h (fun h => ?_) (fun h => ?_)
    · refine z_iload_n dX11_best_22 rfl 3 rfl ?_
      refine z_iconst dX11_best_23 ?_
      refine z_icmp_lt (tgt := 38) dX11_best_24 (by decide) h (fun h => ?_) (fun h => ?_)
      · refine z_sipush dX11_best_38 (by decide) ?_
        exact z_iret rfl dX11_best_41 rfl rfl rfl ⟨_, rfl, hs, h⟩
      · refine z_iload_n dX11_best_27 rfl 3 rfl ?_
        refine z_rload_n dX11_best_28 rfl 0 rfl ?_
        refine z_getR (q := 1009) ff_11_9 dX11_best_29 kt_0 (Nat.le_of_ble_eq_true rfl) fl_X11_91 rfl (hs.1 _ _ sr_1009) ?_
        refine z_getI (q := 13806) ff_10_6 dX11_best_32 kt_100 (Nat.le_of_ble_eq_true rfl) fl_X11_341 rfl ?_
        refine z_icmp_lt (tgt := 42) dX11_best_35 (by decide) h (fun h => ?_) (fun h => ?_)
        · refine z_rload_n dX11_best_42 rfl 0 rfl ?_
          refine z_getR (q := 1009) ff_11_9 dX11_best_43 kt_0 (Nat.le_of_ble_eq_true rfl) fl_X11_91 rfl (hs.1 _ _ sr_1009) ?_
          refine z_iload_n dX11_best_46 rfl 2 rfl ?_
          refine z_VI (i_Worths_findBest  hs h) vk_X10_findBest kt_100 (Nat.le_of_ble_eq_true rfl) rfl ml_X11_344 ⟨Nat.le_of_ble_eq_true rfl, Nat.le_of_ble_eq_true rfl⟩ ⟨Nat.zero_le _, Nat.zero_le _⟩ rfl rfl (Nat.le_of_ble_eq_true rfl) dX11_best_47 (fun r47 μ_2 hs h => ?_)
          refine z_istore (lv' := [(4, vi r47), (0, vr Γ 0), (1, vi a1), (2, vi a2), (3, vi a3)]) dX11_best_50 (Nat.le_of_ble_eq_true rfl) rfl ?_
          refine z_iload_n dX11_best_52 rfl 4 rfl ?_
          refine z_iconst dX11_best_53 ?_
          refine z_phi 70 [] (fun V9 hv J9 => ?_) h (fun x70 h => ?_)
          · refine z_icmp_ne (tgt := 62) dX11_best_54 (by decide) (eq_ite hv) (fun hv => ?_) (fun hv => ?_)
            · refine z_iload dX11_best_57 0 rfl ?_
              refine z_goto (tgt := 70) dX11_best_59 (by decide) ?_
              exact J9 _ hv.symm
            · refine z_rload_n dX11_best_62 rfl 1 rfl ?_
              refine z_getR (q := 1009) ff_11_9 dX11_best_63 kt_0 (Nat.le_of_ble_eq_true rfl) fl_X11_91 rfl (hs.1 _ _ sr_1009) ?_
              refine z_iload_n dX11_best_66 rfl 4 rfl ?_
              refine z_VE (i_Worths_bestMotionAt hs) vk_X10_bestMotionAt kt_100 (Nat.le_of_ble_eq_true rfl) rfl ml_X11_347 ⟨Nat.le_of_ble_eq_true rfl, Nat.le_of_ble_eq_true rfl⟩ ⟨Nat.zero_le _, Nat.zero_le _⟩ rfl rfl (Nat.le_of_ble_eq_true rfl) dX11_best_67 ?_
              exact J9 _ hv.symm
          · exact z_iret rfl dX11_best_70 rfl rfl rfl ⟨_, rfl, hs, h⟩
        · refine z_sipush dX11_best_38 (by decide) ?_
          exact z_iret rfl dX11_best_41 rfl rfl rfl ⟨_, rfl, hs, h⟩
    · refine z_sipush dX11_best_38 (by decide) ?_
      exact z_iret rfl dX11_best_41 rfl rfl rfl ⟨_, rfl, hs, h⟩
  · refine z_sipush dX11_best_38 (by decide) ?_
    exact z_iret rfl dX11_best_41 rfl rfl rfl ⟨_, rfl, hs, h⟩
def v_Worths_dealField (a1 : Int) (μ : Mem) : Int := at' μ 111 6 a1
theorem i_Worths_dealField {l : Launch} {Γ : Gam} {g : Nat} {μ : Mem} {a1 : Int} (hs : StatR μ.2.2) : CT l Γ yX10_dealField cX10_dealField 2 (some .int) 1 21 0 0 [vr Γ 100, vi a1] g 174 μ (pE (vi (v_Worths_dealField a1 μ)) μ) := by
  refine SW.ct (by decide) (Nat.le_of_ble_eq_true rfl) ?_
  refine z_sub (lv' := [(0, vr Γ 100), (1, vi a1)]) [0, 1] rfl ?_
  have hv : v_Worths_dealField a1 μ = v_Worths_dealField a1 μ := rfl
  refine z_rload_n dX10_dealField_0 rfl 0 rfl ?_
  refine z_getR (q := 13815) ff_10_15 dX10_dealField_1 kt_100 (Nat.le_of_ble_eq_true rfl) fl_X10_43 rfl (hs.1 _ _ sr_13815) ?_
  refine z_iload_n dX10_dealField_4 rfl 1 rfl ?_
  refine z_NE (i_X11_at kt_111 (Nat.le_of_ble_eq_true rfl)) ok_X11_at nw_X10_66 ⟨Nat.le_of_ble_eq_true rfl, Nat.le_of_ble_eq_true rfl⟩ ⟨Nat.zero_le _, Nat.zero_le _⟩ rfl rfl (Nat.le_of_ble_eq_true rfl) dX10_dealField_5 ?_
  exact z_iret rfl dX10_dealField_8 rfl rfl rfl ⟨by first | (rw [hv]; done) | rfl, rfl⟩
abbrev Y_Worths_findChanges : Yt := (6, none, yX10_findChanges.name, { frames := 5, cells := 0, slots := 0, locals := 120 }, 174, 0, 0)
def l_Worths_findChanges_2 (a1 : Int) (X_2_33 : Mem → Prop) : Nat → Int → Mem → Prop
  | 0, _, _ => False
  | fu2 + 1, v2, μ_1 => if w v2 < w (rI μ_1 1136 0) then (∀ μ_2 : Mem, μ_2 = set' μ_1 110 288 ((v2 * 24) + a1) 2 → (l_Worths_findChanges_2 a1 X_2_33 fu2) (v2 + 1) μ_2) else (X_2_33 μ_1)
def l_Worths_findChanges_86 (a1 : Int) (r56 : Nat) (r65 : Int) (r78 : Int) (X_86_149 : Mem → Prop) : Nat → Int → Mem → Prop
  | 0, _, _ => False
  | fu86 + 1, v5, μ_8 => if w v5 < w (rI μ_8 1136 0) then (if w (v_Count_voiceTaken v5 μ_8) = w 2 then ((l_Worths_findChanges_86 a1 r56 r65 r78 X_86_149 fu86) (v5 + 1) μ_8) else (f_Count_sumUp v5 μ_8 (fun μ_9 => f_Worths_passesNow r56 r65 μ_9 (fun r134 μ_10 => ∀ μ_11 : Mem, μ_11 = set' μ_10 110 288 ((v5 * 24) + a1) (r134 - r78) → (l_Worths_findChanges_86 a1 r56 r65 r78 X_86_149 fu86) (v5 + 1) μ_11)))) else (X_86_149 μ_8)
def f_Worths_findChanges (a1 : Int) (μ : Mem) (k : Mem → Prop) : Prop := ∃ m2 : Nat, l_Worths_findChanges_2 a1 (fun (μ_3 : Mem) => if w (v_Floor_stateOf a1 μ_3) = 0 then (f_Papers_inForce (rI μ_3 9584 0) μ_3 (fun r56 μ_4 => isRu r56 = true ∧ f_Floor_against a1 μ_4 (fun r65 μ_5 => f_Worths_countMotion a1 r56 μ_5 (fun μ_6 => f_Worths_passesNow r56 r65 μ_6 (fun r78 μ_7 => ∃ m86 : Nat, l_Worths_findChanges_86 a1 r56 r65 r78 (fun (μ_12 : Mem) => k μ_12) m86 0 μ_7))))) else (k μ_3)) m2 0 μ
theorem L_Worths_findChanges_2 {l : Launch} {Γ : Gam} {g : Nat} {a1 : Int} {X_2_33 : Mem → Prop} {k : Mem → Prop} (hX_2_33 : ∀ (ν : Mem), StatR ν.2.2 → X_2_33 ν → SW l Γ yX10_findChanges.cls cX10_findChanges Y_Worths_findChanges (pV k) g 174 0 0 ν 33 [(0, vr Γ 100), (1, vi a1)] []) (n9 : Nat) : ∀ (v2 : Int) (μ_1 : Mem), StatR μ_1.2.2 → l_Worths_findChanges_2 a1 X_2_33 n9 v2 μ_1 → SW l Γ yX10_findChanges.cls cX10_findChanges Y_Worths_findChanges (pV k) g 174 0 0 μ_1 2 [(0, vr Γ 100), (1, vi a1), (2, vi v2)] [] := by
  induction n9 with
  | zero =>
    intro v2 μ_1 hs h
    exact h.elim
  | succ n9 hR_2 =>
    intro v2 μ_1 hs h
    rw [l_Worths_findChanges_2] at h
    refine z_iload_n dX10_findChanges_2 rfl 2 rfl ?_
    refine z_rload_n dX10_findChanges_3 rfl 0 rfl ?_
    refine z_getR (q := 13800) ff_10_0 dX10_findChanges_4 kt_100 (Nat.le_of_ble_eq_true rfl) fl_X10_46 rfl (hs.1 _ _ sr_13800) ?_
    refine z_getI (q := 1136) ff_7_8 dX10_findChanges_7 kt_1 (Nat.le_of_ble_eq_true rfl) fl_X10_174 rfl ?_
    refine z_icmp_ge (tgt := 33) dX10_findChanges_10 (by decide) h (fun h => ?_) (fun h => ?_)
    · refine z_rload_n dX10_findChanges_13 rfl 0 rfl ?_
      refine z_getR (q := 13814) ff_10_14 dX10_findChanges_14 kt_100 (Nat.le_of_ble_eq_true rfl) fl_X10_40 rfl (hs.1 _ _ sr_13814) ?_
      refine z_iload_n dX10_findChanges_17 rfl 2 rfl ?_
      refine z_bipush dX10_findChanges_18 (by decide) ?_
      refine z_imul dX10_findChanges_20 ?_
      refine z_iload_n dX10_findChanges_21 rfl 1 rfl ?_
      refine z_iadd dX10_findChanges_22 ?_
      refine z_iconst dX10_findChanges_23 ?_
      refine z_NM (i_X11_set kt_110 (Nat.le_of_ble_eq_true rfl)) ok_X11_set nw_X10_62 ⟨Nat.le_of_ble_eq_true rfl, Nat.le_of_ble_eq_true rfl⟩ ⟨Nat.zero_le _, Nat.zero_le _⟩ rfl rfl (Nat.le_of_ble_eq_true rfl) dX10_findChanges_24 ?_
      refine z_mm (fun μ_2 eμ_2 => ?_)
      replace h := h μ_2 eμ_2
      replace hs : StatR μ_2.2.2 := by rw [eμ_2]; exact (StatR.set hs)
      refine z_iinc (j := 2) (lv' := [(2, vi (v2 + 1)), (0, vr Γ 100), (1, vi a1)]) dX10_findChanges_27 rfl (Nat.le_of_ble_eq_true rfl) rfl ?_
      refine z_goto (tgt := 2) dX10_findChanges_30 (by decide) ?_
      refine z_sub (lv' := [(0, vr Γ 100), (1, vi a1), (2, vi (v2 + 1))]) [1, 2, 0] rfl ?_
      exact hR_2 (v2 + 1) μ_2 hs h
    · refine z_sub (lv' := [(0, vr Γ 100), (1, vi a1)]) [0, 1] rfl ?_
      exact hX_2_33 μ_1 hs h
theorem L_Worths_findChanges_86 {l : Launch} {Γ : Gam} {g : Nat} {a1 : Int} {r56 : Nat} {r65 : Int} {r78 : Int} {X_86_149 : Mem → Prop} {k : Mem → Prop} (hr_r56 : isRu r56 = true) (hX_86_149 : ∀ (ν : Mem), StatR ν.2.2 → X_86_149 ν → SW l Γ yX10_findChanges.cls cX10_findChanges Y_Worths_findChanges (pV k) g 174 0 0 ν 149 [] []) (n9 : Nat) : ∀ (v5 : Int) (μ_8 : Mem), StatR μ_8.2.2 → l_Worths_findChanges_86 a1 r56 r65 r78 X_86_149 n9 v5 μ_8 → SW l Γ yX10_findChanges.cls cX10_findChanges Y_Worths_findChanges (pV k) g 174 0 0 μ_8 86 [(0, vr Γ 100), (1, vi a1), (2, vr Γ r56), (3, vi r65), (4, vi r78), (5, vi v5)] [] := by
  induction n9 with
  | zero =>
    intro v5 μ_8 hs h
    exact h.elim
  | succ n9 hR_86 =>
    intro v5 μ_8 hs h
    rw [l_Worths_findChanges_86] at h
    refine z_iload dX10_findChanges_86 5 rfl ?_
    refine z_rload_n dX10_findChanges_88 rfl 0 rfl ?_
    refine z_getR (q := 13800) ff_10_0 dX10_findChanges_89 kt_100 (Nat.le_of_ble_eq_true rfl) fl_X10_46 rfl (hs.1 _ _ sr_13800) ?_
    refine z_getI (q := 1136) ff_7_8 dX10_findChanges_92 kt_1 (Nat.le_of_ble_eq_true rfl) fl_X10_174 rfl ?_
    refine z_icmp_ge (tgt := 149) dX10_findChanges_95 (by decide) h (fun h => ?_) (fun h => ?_)
    · refine z_rload_n dX10_findChanges_98 rfl 0 rfl ?_
      refine z_getR (q := 13803) ff_10_3 dX10_findChanges_99 kt_100 (Nat.le_of_ble_eq_true rfl) fl_X10_58 rfl (hs.1 _ _ sr_13803) ?_
      refine z_iload dX10_findChanges_102 5 rfl ?_
      refine z_VE (i_Count_voiceTaken hs) vk_X2_voiceTaken kt_73 (Nat.le_of_ble_eq_true rfl) rfl ml_X10_186 ⟨Nat.le_of_ble_eq_true rfl, Nat.le_of_ble_eq_true rfl⟩ ⟨Nat.zero_le _, Nat.zero_le _⟩ rfl rfl (Nat.le_of_ble_eq_true rfl) dX10_findChanges_104 ?_
      refine z_iconst dX10_findChanges_107 ?_
      refine z_icmp_eq (tgt := 143) dX10_findChanges_108 (by decide) h (fun h => ?_) (fun h => ?_)
      · refine z_iinc (j := 5) (lv' := [(5, vi (v5 + 1)), (0, vr Γ 100), (1, vi a1), (2, vr Γ r56), (3, vi r65), (4, vi r78)]) dX10_findChanges_143 rfl (Nat.le_of_ble_eq_true rfl) rfl ?_
        refine z_goto (tgt := 86) dX10_findChanges_146 (by decide) ?_
        refine z_sub (lv' := [(0, vr Γ 100), (1, vi a1), (2, vr Γ r56), (3, vi r65), (4, vi r78), (5, vi (v5 + 1))]) [1, 2, 3, 4, 5, 0] rfl ?_
        exact hR_86 (v5 + 1) μ_8 hs h
      · refine z_rload_n dX10_findChanges_111 rfl 0 rfl ?_
        refine z_getR (q := 13803) ff_10_3 dX10_findChanges_112 kt_100 (Nat.le_of_ble_eq_true rfl) fl_X10_58 rfl (hs.1 _ _ sr_13803) ?_
        refine z_iload dX10_findChanges_115 5 rfl ?_
        refine z_VU (i_Count_sumUp  hs h) vk_X2_sumUp kt_73 (Nat.le_of_ble_eq_true rfl) rfl ml_X10_86 ⟨Nat.le_of_ble_eq_true rfl, Nat.le_of_ble_eq_true rfl⟩ ⟨Nat.zero_le _, Nat.zero_le _⟩ rfl rfl (Nat.le_of_ble_eq_true rfl) dX10_findChanges_117 (fun μ_9 hs h => ?_)
        refine z_rload_n dX10_findChanges_120 rfl 0 rfl ?_
        refine z_getR (q := 13814) ff_10_14 dX10_findChanges_121 kt_100 (Nat.le_of_ble_eq_true rfl) fl_X10_40 rfl (hs.1 _ _ sr_13814) ?_
        refine z_iload dX10_findChanges_124 5 rfl ?_
        refine z_bipush dX10_findChanges_126 (by decide) ?_
        refine z_imul dX10_findChanges_128 ?_
        refine z_iload_n dX10_findChanges_129 rfl 1 rfl ?_
        refine z_iadd dX10_findChanges_130 ?_
        refine z_rload_n dX10_findChanges_131 rfl 0 rfl ?_
        refine z_rload_n dX10_findChanges_132 rfl 2 rfl ?_
        refine z_iload_n dX10_findChanges_133 rfl 3 rfl ?_
        refine z_VI (i_Worths_passesNow hr_r56 hs h) vk_X10_passesNow kt_100 (Nat.le_of_ble_eq_true rfl) rfl ml_X10_116 ⟨Nat.le_of_ble_eq_true rfl, Nat.le_of_ble_eq_true rfl⟩ ⟨Nat.zero_le _, Nat.zero_le _⟩ rfl rfl (Nat.le_of_ble_eq_true rfl) dX10_findChanges_134 (fun r134 μ_10 hs h => ?_)
        refine z_iload dX10_findChanges_137 4 rfl ?_
        refine z_isub dX10_findChanges_139 ?_
        refine z_NM (i_X11_set kt_110 (Nat.le_of_ble_eq_true rfl)) ok_X11_set nw_X10_62 ⟨Nat.le_of_ble_eq_true rfl, Nat.le_of_ble_eq_true rfl⟩ ⟨Nat.zero_le _, Nat.zero_le _⟩ rfl rfl (Nat.le_of_ble_eq_true rfl) dX10_findChanges_140 ?_
        refine z_mm (fun μ_11 eμ_11 => ?_)
        replace h := h μ_11 eμ_11
        replace hs : StatR μ_11.2.2 := by rw [eμ_11]; exact (StatR.set hs)
        refine z_iinc (j := 5) (lv' := [(5, vi (v5 + 1)), (0, vr Γ 100), (1, vi a1), (2, vr Γ r56), (3, vi r65), (4, vi r78)]) dX10_findChanges_143 rfl (Nat.le_of_ble_eq_true rfl) rfl ?_
        refine z_goto (tgt := 86) dX10_findChanges_146 (by decide) ?_
        refine z_sub (lv' := [(0, vr Γ 100), (1, vi a1), (2, vr Γ r56), (3, vi r65), (4, vi r78), (5, vi (v5 + 1))]) [1, 2, 3, 4, 5, 0] rfl ?_
        exact hR_86 (v5 + 1) μ_11 hs h
    · refine z_sub (lv' := []) [] rfl ?_
      exact hX_86_149 μ_8 hs h
theorem i_Worths_findChanges {l : Launch} {Γ : Gam} {g : Nat} {a1 : Int} {μ : Mem} {k : Mem → Prop} (hs : StatR μ.2.2) (h : f_Worths_findChanges a1 μ k) : CT l Γ yX10_findChanges cX10_findChanges 6 none 5 120 0 0 [vr Γ 100, vi a1] g 174 μ (pV k) := by
  refine SW.ct (by decide) (Nat.le_of_ble_eq_true rfl) ?_
  refine z_sub (lv' := [(0, vr Γ 100), (1, vi a1)]) [0, 1] rfl ?_
  show SW l Γ yX10_findChanges.cls cX10_findChanges Y_Worths_findChanges (pV k) g 174 0 0 μ 0 [(0, vr Γ 100), (1, vi a1)] []
  unfold f_Worths_findChanges at h
  refine z_iconst dX10_findChanges_0 ?_
  refine z_istore_n (lv' := [(2, vi 0), (0, vr Γ 100), (1, vi a1)]) dX10_findChanges_1 rfl (Nat.le_of_ble_eq_true rfl) rfl ?_
  obtain ⟨m2, h⟩ := h
  refine z_sub (lv' := [(0, vr Γ 100), (1, vi a1), (2, vi 0)]) [1, 2, 0] rfl ?_
  refine L_Worths_findChanges_2 (fun μ_3 hs h => ?_) m2 0 μ hs h
  refine z_rload_n dX10_findChanges_33 rfl 0 rfl ?_
  refine z_getR (q := 13802) ff_10_2 dX10_findChanges_34 kt_100 (Nat.le_of_ble_eq_true rfl) fl_X10_54 rfl (hs.1 _ _ sr_13802) ?_
  refine z_iload_n dX10_findChanges_37 rfl 1 rfl ?_
  refine z_VE (i_Floor_stateOf hs) vk_X3_stateOf kt_67 (Nat.le_of_ble_eq_true rfl) rfl ml_X10_180 ⟨Nat.le_of_ble_eq_true rfl, Nat.le_of_ble_eq_true rfl⟩ ⟨Nat.zero_le _, Nat.zero_le _⟩ rfl rfl (Nat.le_of_ble_eq_true rfl) dX10_findChanges_38 ?_
  refine z_if_eq (tgt := 45) dX10_findChanges_41 (by decide) h (fun h => ?_) (fun h => ?_)
  · refine z_rload_n dX10_findChanges_45 rfl 0 rfl ?_
    refine z_getR (q := 13801) ff_10_1 dX10_findChanges_46 kt_100 (Nat.le_of_ble_eq_true rfl) fl_X10_50 rfl (hs.1 _ _ sr_13801) ?_
    refine z_rload_n dX10_findChanges_49 rfl 0 rfl ?_
    refine z_getR (q := 13802) ff_10_2 dX10_findChanges_50 kt_100 (Nat.le_of_ble_eq_true rfl) fl_X10_54 rfl (hs.1 _ _ sr_13802) ?_
    refine z_getI (q := 9584) ff_3_8 dX10_findChanges_53 kt_67 (Nat.le_of_ble_eq_true rfl) fl_X10_103 rfl ?_
    refine z_VA (i_Papers_inForce  hs h) vk_X6_inForce kt_12 (Nat.le_of_ble_eq_true rfl) rfl ml_X10_106 ⟨Nat.le_of_ble_eq_true rfl, Nat.le_of_ble_eq_true rfl⟩ ⟨Nat.zero_le _, Nat.zero_le _⟩ rfl rfl (Nat.le_of_ble_eq_true rfl) dX10_findChanges_56 (fun r56 μ_4 hs h => ?_)
    obtain ⟨hr_r56, h⟩ := h
    refine z_rstore_n (lv' := [(2, vr Γ r56), (0, vr Γ 100), (1, vi a1)]) dX10_findChanges_59 rfl (Nat.le_of_ble_eq_true rfl) rfl ?_
    refine z_rload_n dX10_findChanges_60 rfl 1 rfl ?_
    refine z_getR (q := 13802) ff_10_2 dX10_findChanges_61 kt_100 (Nat.le_of_ble_eq_true rfl) fl_X10_54 rfl (hs.1 _ _ sr_13802) ?_
    refine z_iload_n dX10_findChanges_64 rfl 2 rfl ?_
    refine z_VI (i_Floor_against  hs h) vk_X3_against kt_67 (Nat.le_of_ble_eq_true rfl) rfl ml_X10_183 ⟨Nat.le_of_ble_eq_true rfl, Nat.le_of_ble_eq_true rfl⟩ ⟨Nat.zero_le _, Nat.zero_le _⟩ rfl rfl (Nat.le_of_ble_eq_true rfl) dX10_findChanges_65 (fun r65 μ_5 hs h => ?_)
    refine z_istore_n (lv' := [(3, vi r65), (2, vr Γ r56), (0, vr Γ 100), (1, vi a1)]) dX10_findChanges_68 rfl (Nat.le_of_ble_eq_true rfl) rfl ?_
    refine z_rload_n dX10_findChanges_69 rfl 2 rfl ?_
    refine z_iload_n dX10_findChanges_70 rfl 3 rfl ?_
    refine z_rload_n dX10_findChanges_71 rfl 1 rfl ?_
    refine z_VU (i_Worths_countMotion hr_r56 hs h) vk_X10_countMotion kt_100 (Nat.le_of_ble_eq_true rfl) rfl ml_X10_112 ⟨Nat.le_of_ble_eq_true rfl, Nat.le_of_ble_eq_true rfl⟩ ⟨Nat.zero_le _, Nat.zero_le _⟩ rfl rfl (Nat.le_of_ble_eq_true rfl) dX10_findChanges_72 (fun μ_6 hs h => ?_)
    refine z_rload_n dX10_findChanges_75 rfl 2 rfl ?_
    refine z_rload_n dX10_findChanges_76 rfl 1 rfl ?_
    refine z_iload_n dX10_findChanges_77 rfl 0 rfl ?_
    refine z_VI (i_Worths_passesNow hr_r56 hs h) vk_X10_passesNow kt_100 (Nat.le_of_ble_eq_true rfl) rfl ml_X10_116 ⟨Nat.le_of_ble_eq_true rfl, Nat.le_of_ble_eq_true rfl⟩ ⟨Nat.zero_le _, Nat.zero_le _⟩ rfl rfl (Nat.le_of_ble_eq_true rfl) dX10_findChanges_78 (fun r78 μ_7 hs h => ?_)
    refine z_istore (lv' := [(4, vi r78), (3, vi r65), (2, vr Γ r56), (0, vr Γ 100), (1, vi a1)]) dX10_findChanges_81 (Nat.le_of_ble_eq_true rfl) rfl ?_
    refine z_iconst dX10_findChanges_83 ?_
    refine z_istore (lv' := [(5, vi 0), (4, vi r78), (3, vi r65), (2, vr Γ r56), (0, vr Γ 100), (1, vi a1)]) dX10_findChanges_84 (Nat.le_of_ble_eq_true rfl) rfl ?_
    obtain ⟨m86, h⟩ := h
    refine z_sub (lv' := [(0, vr Γ 100), (1, vi a1), (2, vr Γ r56), (3, vi r65), (4, vi r78), (5, vi 0)]) [4, 5, 3, 2, 1, 0] rfl ?_
    refine L_Worths_findChanges_86 hr_r56 (fun μ_12 hs h => ?_) m86 0 μ_7 hs h
    exact z_vret rfl dX10_findChanges_149 rfl rfl rfl ⟨rfl, hs, h⟩
  · exact z_vret rfl dX10_findChanges_44 rfl rfl rfl ⟨rfl, hs, h⟩
abbrev Y_Worths_keepIfBetter : Yt := (9, none, yX10_keepIfBetter.name, { frames := 2, cells := 0, slots := 0, locals := 43 }, 174, 0, 0)
def b_Worths_keepIfBetter_42 (k : Mem → Prop) (v1 : Int) (v2 : Int) (v3 : Int) (v4 : Int) (v5_1 : Int) (v6_1 : Int) (μ_1 : Mem) : Prop := ∀ v7 : Int, v7 = ((v_Worths_worthFor v1 v3 μ_1) * v5_1) + ((v_Worths_worthFor v1 v4 μ_1) * v6_1) → ∀ v8 : Int, v8 = ((v_Worths_worthFor v2 v3 μ_1) * v5_1) + ((v_Worths_worthFor v2 v4 μ_1) * v6_1) → if 0 < w v7 then (if 0 < w v8 then (if w ((at' μ_1 111 6 4) + (at' μ_1 111 6 5)) < w (v7 + v8) then (∀ μ_2 : Mem, μ_2 = set' μ_1 111 6 0 v1 → ∀ μ_3 : Mem, μ_3 = set' μ_2 111 6 1 v2 → ∀ μ_4 : Mem, μ_4 = set' μ_3 111 6 2 v3 → ∀ μ_5 : Mem, μ_5 = set' μ_4 111 6 3 v4 → ∀ μ_6 : Mem, μ_6 = set' μ_5 111 6 4 v7 → ∀ μ_7 : Mem, μ_7 = set' μ_6 111 6 5 v8 → k μ_7) else (k μ_1)) else (k μ_1)) else (k μ_1)
def f_Worths_keepIfBetter (a1 : Int) (a2 : Int) (a3 : Int) (a4 : Int) (μ : Mem) (k : Mem → Prop) : Prop := ∀ v5 : Int, v5 = at' μ 110 288 ((a1 * 24) + a3) → ∀ v6 : Int, v6 = at' μ 110 288 ((a2 * 24) + a4) → if w v5 = 0 then (if w v6 = 0 then (k μ) else (b_Worths_keepIfBetter_42 k a1 a2 a3 a4 v5 v6 μ)) else (b_Worths_keepIfBetter_42 k a1 a2 a3 a4 v5 v6 μ)
theorem B_Worths_keepIfBetter_42 {l : Launch} {Γ : Gam} {g : Nat} {k : Mem → Prop} {v1 : Int} {v2 : Int} {v3 : Int} {v4 : Int} {v5_1 : Int} {v6_1 : Int} {μ_1 : Mem} (hs : StatR μ_1.2.2) (h : b_Worths_keepIfBetter_42 k v1 v2 v3 v4 v5_1 v6_1 μ_1) : SW l Γ yX10_keepIfBetter.cls cX10_keepIfBetter Y_Worths_keepIfBetter (pV k) g 174 0 0 μ_1 42 [(0, vr Γ 100), (1, vi v1), (2, vi v2), (3, vi v3), (4, vi v4), (5, vi v5_1), (6, vi v6_1)] [] := by
  unfold b_Worths_keepIfBetter_42 at h
  refine z_rload_n dX10_keepIfBetter_42 rfl 0 rfl ?_
  refine z_iload_n dX10_keepIfBetter_43 rfl 1 rfl ?_
  refine z_iload_n dX10_keepIfBetter_44 rfl 3 rfl ?_
  refine z_VE (i_Worths_worthFor hs) vk_X10_worthFor kt_100 (Nat.le_of_ble_eq_true rfl) rfl ml_X10_145 ⟨Nat.le_of_ble_eq_true rfl, Nat.le_of_ble_eq_true rfl⟩ ⟨Nat.zero_le _, Nat.zero_le _⟩ rfl rfl (Nat.le_of_ble_eq_true rfl) dX10_keepIfBetter_45 ?_
  refine z_iload dX10_keepIfBetter_48 5 rfl ?_
  refine z_imul dX10_keepIfBetter_50 ?_
  refine z_rload_n dX10_keepIfBetter_51 rfl 0 rfl ?_
  refine z_iload_n dX10_keepIfBetter_52 rfl 1 rfl ?_
  refine z_iload dX10_keepIfBetter_53 4 rfl ?_
  refine z_VE (i_Worths_worthFor hs) vk_X10_worthFor kt_100 (Nat.le_of_ble_eq_true rfl) rfl ml_X10_145 ⟨Nat.le_of_ble_eq_true rfl, Nat.le_of_ble_eq_true rfl⟩ ⟨Nat.zero_le _, Nat.zero_le _⟩ rfl rfl (Nat.le_of_ble_eq_true rfl) dX10_keepIfBetter_55 ?_
  refine z_iload dX10_keepIfBetter_58 6 rfl ?_
  refine z_imul dX10_keepIfBetter_60 ?_
  refine z_iadd dX10_keepIfBetter_61 ?_
  refine z_nm (fun v7 ev7 => ?_)
  replace h := h v7 ev7
  refine z_istore (lv' := [(7, vi v7), (0, vr Γ 100), (1, vi v1), (2, vi v2), (3, vi v3), (4, vi v4), (5, vi v5_1), (6, vi v6_1)]) dX10_keepIfBetter_62 (Nat.le_of_ble_eq_true rfl) rfl ?_
  refine z_rload_n dX10_keepIfBetter_64 rfl 1 rfl ?_
  refine z_iload_n dX10_keepIfBetter_65 rfl 3 rfl ?_
  refine z_iload_n dX10_keepIfBetter_66 rfl 4 rfl ?_
  refine z_VE (i_Worths_worthFor hs) vk_X10_worthFor kt_100 (Nat.le_of_ble_eq_true rfl) rfl ml_X10_145 ⟨Nat.le_of_ble_eq_true rfl, Nat.le_of_ble_eq_true rfl⟩ ⟨Nat.zero_le _, Nat.zero_le _⟩ rfl rfl (Nat.le_of_ble_eq_true rfl) dX10_keepIfBetter_67 ?_
  refine z_iload dX10_keepIfBetter_70 6 rfl ?_
  refine z_imul dX10_keepIfBetter_72 ?_
  refine z_rload_n dX10_keepIfBetter_73 rfl 1 rfl ?_
  refine z_iload_n dX10_keepIfBetter_74 rfl 3 rfl ?_
  refine z_iload dX10_keepIfBetter_75 5 rfl ?_
  refine z_VE (i_Worths_worthFor hs) vk_X10_worthFor kt_100 (Nat.le_of_ble_eq_true rfl) rfl ml_X10_145 ⟨Nat.le_of_ble_eq_true rfl, Nat.le_of_ble_eq_true rfl⟩ ⟨Nat.zero_le _, Nat.zero_le _⟩ rfl rfl (Nat.le_of_ble_eq_true rfl) dX10_keepIfBetter_77 ?_
  refine z_iload dX10_keepIfBetter_80 7 rfl ?_
  refine z_imul dX10_keepIfBetter_82 ?_
  refine z_iadd dX10_keepIfBetter_83 ?_
  refine z_nm (fun v8 ev8 => ?_)
  replace h := h v8 ev8
  refine z_istore (lv' := [(8, vi v8), (7, vi v7), (0, vr Γ 100), (1, vi v1), (2, vi v2), (3, vi v3), (4, vi v4), (5, vi v5_1), (6, vi v6_1)]) dX10_keepIfBetter_84 (Nat.le_of_ble_eq_true rfl) rfl ?_
  refine z_iload dX10_keepIfBetter_86 1 rfl ?_
  refine z_if_le (tgt := 178) dX10_keepIfBetter_88 (by decide) h (fun h => ?_) (fun h => ?_)
  · refine z_iload dX10_keepIfBetter_91 0 rfl ?_
    refine z_if_le (tgt := 178) dX10_keepIfBetter_93 (by decide) h (fun h => ?_) (fun h => ?_)
    · refine z_iload dX10_keepIfBetter_96 1 rfl ?_
      refine z_iload dX10_keepIfBetter_98 0 rfl ?_
      refine z_iadd dX10_keepIfBetter_100 ?_
      refine z_rload_n dX10_keepIfBetter_101 rfl 2 rfl ?_
      refine z_getR (q := 13815) ff_10_15 dX10_keepIfBetter_102 kt_100 (Nat.le_of_ble_eq_true rfl) fl_X10_43 rfl (hs.1 _ _ sr_13815) ?_
      refine z_iconst dX10_keepIfBetter_105 ?_
      refine z_NE (i_X11_at kt_111 (Nat.le_of_ble_eq_true rfl)) ok_X11_at nw_X10_66 ⟨Nat.le_of_ble_eq_true rfl, Nat.le_of_ble_eq_true rfl⟩ ⟨Nat.zero_le _, Nat.zero_le _⟩ rfl rfl (Nat.le_of_ble_eq_true rfl) dX10_keepIfBetter_106 ?_
      refine z_rload_n dX10_keepIfBetter_109 rfl 2 rfl ?_
      refine z_getR (q := 13815) ff_10_15 dX10_keepIfBetter_110 kt_100 (Nat.le_of_ble_eq_true rfl) fl_X10_43 rfl (hs.1 _ _ sr_13815) ?_
      refine z_iconst dX10_keepIfBetter_113 ?_
      refine z_NE (i_X11_at kt_111 (Nat.le_of_ble_eq_true rfl)) ok_X11_at nw_X10_66 ⟨Nat.le_of_ble_eq_true rfl, Nat.le_of_ble_eq_true rfl⟩ ⟨Nat.zero_le _, Nat.zero_le _⟩ rfl rfl (Nat.le_of_ble_eq_true rfl) dX10_keepIfBetter_114 ?_
      refine z_iadd dX10_keepIfBetter_117 ?_
      refine z_icmp_le (tgt := 178) dX10_keepIfBetter_118 (by decide) h (fun h => ?_) (fun h => ?_)
      · refine z_rload_n dX10_keepIfBetter_121 rfl 2 rfl ?_
        refine z_getR (q := 13815) ff_10_15 dX10_keepIfBetter_122 kt_100 (Nat.le_of_ble_eq_true rfl) fl_X10_43 rfl (hs.1 _ _ sr_13815) ?_
        refine z_iconst dX10_keepIfBetter_125 ?_
        refine z_iload_n dX10_keepIfBetter_126 rfl 3 rfl ?_
        refine z_NM (i_X11_set kt_111 (Nat.le_of_ble_eq_true rfl)) ok_X11_set nw_X10_62 ⟨Nat.le_of_ble_eq_true rfl, Nat.le_of_ble_eq_true rfl⟩ ⟨Nat.zero_le _, Nat.zero_le _⟩ rfl rfl (Nat.le_of_ble_eq_true rfl) dX10_keepIfBetter_127 ?_
        refine z_mm (fun μ_2 eμ_2 => ?_)
        replace h := h μ_2 eμ_2
        replace hs : StatR μ_2.2.2 := by rw [eμ_2]; exact (StatR.set hs)
        refine z_rload_n dX10_keepIfBetter_130 rfl 2 rfl ?_
        refine z_getR (q := 13815) ff_10_15 dX10_keepIfBetter_131 kt_100 (Nat.le_of_ble_eq_true rfl) fl_X10_43 rfl (hs.1 _ _ sr_13815) ?_
        refine z_iconst dX10_keepIfBetter_134 ?_
        refine z_iload_n dX10_keepIfBetter_135 rfl 4 rfl ?_
        refine z_NM (i_X11_set kt_111 (Nat.le_of_ble_eq_true rfl)) ok_X11_set nw_X10_62 ⟨Nat.le_of_ble_eq_true rfl, Nat.le_of_ble_eq_true rfl⟩ ⟨Nat.zero_le _, Nat.zero_le _⟩ rfl rfl (Nat.le_of_ble_eq_true rfl) dX10_keepIfBetter_136 ?_
        refine z_mm (fun μ_3 eμ_3 => ?_)
        replace h := h μ_3 eμ_3
        replace hs : StatR μ_3.2.2 := by rw [eμ_3]; exact (StatR.set hs)
        refine z_rload_n dX10_keepIfBetter_139 rfl 2 rfl ?_
        refine z_getR (q := 13815) ff_10_15 dX10_keepIfBetter_140 kt_100 (Nat.le_of_ble_eq_true rfl) fl_X10_43 rfl (hs.1 _ _ sr_13815) ?_
        refine z_iconst dX10_keepIfBetter_143 ?_
        refine z_iload_n dX10_keepIfBetter_144 rfl 5 rfl ?_
        refine z_NM (i_X11_set kt_111 (Nat.le_of_ble_eq_true rfl)) ok_X11_set nw_X10_62 ⟨Nat.le_of_ble_eq_true rfl, Nat.le_of_ble_eq_true rfl⟩ ⟨Nat.zero_le _, Nat.zero_le _⟩ rfl rfl (Nat.le_of_ble_eq_true rfl) dX10_keepIfBetter_145 ?_
        refine z_mm (fun μ_4 eμ_4 => ?_)
        replace h := h μ_4 eμ_4
        replace hs : StatR μ_4.2.2 := by rw [eμ_4]; exact (StatR.set hs)
        refine z_rload_n dX10_keepIfBetter_148 rfl 2 rfl ?_
        refine z_getR (q := 13815) ff_10_15 dX10_keepIfBetter_149 kt_100 (Nat.le_of_ble_eq_true rfl) fl_X10_43 rfl (hs.1 _ _ sr_13815) ?_
        refine z_iconst dX10_keepIfBetter_152 ?_
        refine z_iload dX10_keepIfBetter_153 6 rfl ?_
        refine z_NM (i_X11_set kt_111 (Nat.le_of_ble_eq_true rfl)) ok_X11_set nw_X10_62 ⟨Nat.le_of_ble_eq_true rfl, Nat.le_of_ble_eq_true rfl⟩ ⟨Nat.zero_le _, Nat.zero_le _⟩ rfl rfl (Nat.le_of_ble_eq_true rfl) dX10_keepIfBetter_155 ?_
        refine z_mm (fun μ_5 eμ_5 => ?_)
        replace h := h μ_5 eμ_5
        replace hs : StatR μ_5.2.2 := by rw [eμ_5]; exact (StatR.set hs)
        refine z_rload_n dX10_keepIfBetter_158 rfl 2 rfl ?_
        refine z_getR (q := 13815) ff_10_15 dX10_keepIfBetter_159 kt_100 (Nat.le_of_ble_eq_true rfl) fl_X10_43 rfl (hs.1 _ _ sr_13815) ?_
        refine z_iconst dX10_keepIfBetter_162 ?_
        refine z_iload dX10_keepIfBetter_163 1 rfl ?_
        refine z_NM (i_X11_set kt_111 (Nat.le_of_ble_eq_true rfl)) ok_X11_set nw_X10_62 ⟨Nat.le_of_ble_eq_true rfl, Nat.le_of_ble_eq_true rfl⟩ ⟨Nat.zero_le _, Nat.zero_le _⟩ rfl rfl (Nat.le_of_ble_eq_true rfl) dX10_keepIfBetter_165 ?_
        refine z_mm (fun μ_6 eμ_6 => ?_)
        replace h := h μ_6 eμ_6
        replace hs : StatR μ_6.2.2 := by rw [eμ_6]; exact (StatR.set hs)
        refine z_rload_n dX10_keepIfBetter_168 rfl 2 rfl ?_
        refine z_getR (q := 13815) ff_10_15 dX10_keepIfBetter_169 kt_100 (Nat.le_of_ble_eq_true rfl) fl_X10_43 rfl (hs.1 _ _ sr_13815) ?_
        refine z_iconst dX10_keepIfBetter_172 ?_
        refine z_iload dX10_keepIfBetter_173 0 rfl ?_
        refine z_NM (i_X11_set kt_111 (Nat.le_of_ble_eq_true rfl)) ok_X11_set nw_X10_62 ⟨Nat.le_of_ble_eq_true rfl, Nat.le_of_ble_eq_true rfl⟩ ⟨Nat.zero_le _, Nat.zero_le _⟩ rfl rfl (Nat.le_of_ble_eq_true rfl) dX10_keepIfBetter_175 ?_
        refine z_mm (fun μ_7 eμ_7 => ?_)
        replace h := h μ_7 eμ_7
        replace hs : StatR μ_7.2.2 := by rw [eμ_7]; exact (StatR.set hs)
        exact z_vret rfl dX10_keepIfBetter_178 rfl rfl rfl ⟨rfl, hs, h⟩
      · exact z_vret rfl dX10_keepIfBetter_178 rfl rfl rfl ⟨rfl, hs, h⟩
    · exact z_vret rfl dX10_keepIfBetter_178 rfl rfl rfl ⟨rfl, hs, h⟩
  · exact z_vret rfl dX10_keepIfBetter_178 rfl rfl rfl ⟨rfl, hs, h⟩
theorem i_Worths_keepIfBetter {l : Launch} {Γ : Gam} {g : Nat} {a1 : Int} {a2 : Int} {a3 : Int} {a4 : Int} {μ : Mem} {k : Mem → Prop} (hs : StatR μ.2.2) (h : f_Worths_keepIfBetter a1 a2 a3 a4 μ k) : CT l Γ yX10_keepIfBetter cX10_keepIfBetter 9 none 2 43 0 0 [vr Γ 100, vi a1, vi a2, vi a3, vi a4] g 174 μ (pV k) := by
  refine SW.ct (by decide) (Nat.le_of_ble_eq_true rfl) ?_
  refine z_sub (lv' := [(0, vr Γ 100), (1, vi a1), (2, vi a2), (3, vi a3), (4, vi a4)]) [0, 1, 2, 3, 4] rfl ?_
  show SW l Γ yX10_keepIfBetter.cls cX10_keepIfBetter Y_Worths_keepIfBetter (pV k) g 174 0 0 μ 0 [(0, vr Γ 100), (1, vi a1), (2, vi a2), (3, vi a3), (4, vi a4)] []
  unfold f_Worths_keepIfBetter at h
  refine z_rload_n dX10_keepIfBetter_0 rfl 0 rfl ?_
  refine z_getR (q := 13814) ff_10_14 dX10_keepIfBetter_1 kt_100 (Nat.le_of_ble_eq_true rfl) fl_X10_40 rfl (hs.1 _ _ sr_13814) ?_
  refine z_iload_n dX10_keepIfBetter_4 rfl 1 rfl ?_
  refine z_bipush dX10_keepIfBetter_5 (by decide) ?_
  refine z_imul dX10_keepIfBetter_7 ?_
  refine z_iload_n dX10_keepIfBetter_8 rfl 3 rfl ?_
  refine z_iadd dX10_keepIfBetter_9 ?_
  refine z_NE (i_X11_at kt_110 (Nat.le_of_ble_eq_true rfl)) ok_X11_at nw_X10_66 ⟨Nat.le_of_ble_eq_true rfl, Nat.le_of_ble_eq_true rfl⟩ ⟨Nat.zero_le _, Nat.zero_le _⟩ rfl rfl (Nat.le_of_ble_eq_true rfl) dX10_keepIfBetter_10 ?_
  refine z_nm (fun v5 ev5 => ?_)
  replace h := h v5 ev5
  refine z_istore (lv' := [(5, vi v5), (0, vr Γ 100), (1, vi a1), (2, vi a2), (3, vi a3), (4, vi a4)]) dX10_keepIfBetter_13 (Nat.le_of_ble_eq_true rfl) rfl ?_
  refine z_rload_n dX10_keepIfBetter_15 rfl 1 rfl ?_
  refine z_getR (q := 13814) ff_10_14 dX10_keepIfBetter_16 kt_100 (Nat.le_of_ble_eq_true rfl) fl_X10_40 rfl (hs.1 _ _ sr_13814) ?_
  refine z_iload_n dX10_keepIfBetter_19 rfl 3 rfl ?_
  refine z_bipush dX10_keepIfBetter_20 (by decide) ?_
  refine z_imul dX10_keepIfBetter_22 ?_
  refine z_iload dX10_keepIfBetter_23 5 rfl ?_
  refine z_iadd dX10_keepIfBetter_25 ?_
  refine z_NE (i_X11_at kt_110 (Nat.le_of_ble_eq_true rfl)) ok_X11_at nw_X10_66 ⟨Nat.le_of_ble_eq_true rfl, Nat.le_of_ble_eq_true rfl⟩ ⟨Nat.zero_le _, Nat.zero_le _⟩ rfl rfl (Nat.le_of_ble_eq_true rfl) dX10_keepIfBetter_26 ?_
  refine z_nm (fun v6 ev6 => ?_)
  replace h := h v6 ev6
  refine z_istore (lv' := [(6, vi v6), (5, vi v5), (0, vr Γ 100), (1, vi a1), (2, vi a2), (3, vi a3), (4, vi a4)]) dX10_keepIfBetter_29 (Nat.le_of_ble_eq_true rfl) rfl ?_
  refine z_iload dX10_keepIfBetter_31 1 rfl ?_
  refine z_if_ne (tgt := 42) dX10_keepIfBetter_33 (by decide) h (fun h => ?_) (fun h => ?_)
  · refine z_iload dX10_keepIfBetter_36 0 rfl ?_
    refine z_if_ne (tgt := 42) dX10_keepIfBetter_38 (by decide) h (fun h => ?_) (fun h => ?_)
    · exact z_vret rfl dX10_keepIfBetter_41 rfl rfl rfl ⟨rfl, hs, h⟩
    · refine z_sub (lv' := [(0, vr Γ 100), (1, vi a1), (2, vi a2), (3, vi a3), (4, vi a4), (5, vi v5), (6, vi v6)]) [2, 3, 4, 5, 6, 1, 0] rfl ?_
      exact B_Worths_keepIfBetter_42 hs h
  · refine z_sub (lv' := [(0, vr Γ 100), (1, vi a1), (2, vi a2), (3, vi a3), (4, vi a4), (5, vi v5), (6, vi v6)]) [2, 3, 4, 5, 6, 1, 0] rfl ?_
    exact B_Worths_keepIfBetter_42 hs h
abbrev Y_Worths_findDealOf : Yt := (5, none, yX10_findDealOf.name, { frames := 3, cells := 0, slots := 0, locals := 71 }, 174, 0, 0)
def l_Worths_findDealOf_36 (a1 : Int) (a2 : Int) (v3 : Int) (X_36_87 : Mem → Prop) : Nat → Int → Mem → Prop
  | 0, _, _ => False
  | fu36 + 1, v4, μ_2 => if w v4 < w (rI μ_2 2543 0) then (if w v4 = w v3 then ((l_Worths_findDealOf_36 a1 a2 v3 X_36_87 fu36) (v4 + 1) μ_2) else (if w (at' μ_2 110 288 ((a2 * 24) + v4)) = w 2 then ((l_Worths_findDealOf_36 a1 a2 v3 X_36_87 fu36) (v4 + 1) μ_2) else (f_Worths_keepIfBetter a1 a2 v3 v4 μ_2 (fun μ_3 => (l_Worths_findDealOf_36 a1 a2 v3 X_36_87 fu36) (v4 + 1) μ_3)))) else (X_36_87 μ_2)
def l_Worths_findDealOf_2 (a1 : Int) (a2 : Int) (X_2_93 : Mem → Prop) : Nat → Int → Mem → Prop
  | 0, _, _ => False
  | fu2 + 1, v3, μ_1 => if w v3 < w (rI μ_1 2543 0) then (if w (at' μ_1 110 288 ((a1 * 24) + v3)) = w 2 then ((l_Worths_findDealOf_2 a1 a2 X_2_93 fu2) (v3 + 1) μ_1) else (∃ m36 : Nat, l_Worths_findDealOf_36 a1 a2 v3 (fun (μ_4 : Mem) => (l_Worths_findDealOf_2 a1 a2 X_2_93 fu2) (v3 + 1) μ_4) m36 0 μ_1)) else (X_2_93 μ_1)
def f_Worths_findDealOf (a1 : Int) (a2 : Int) (μ : Mem) (k : Mem → Prop) : Prop := ∃ m2 : Nat, l_Worths_findDealOf_2 a1 a2 (fun (μ_5 : Mem) => k μ_5) m2 0 μ
theorem L_Worths_findDealOf_36 {l : Launch} {Γ : Gam} {g : Nat} {a1 : Int} {a2 : Int} {v3 : Int} {X_36_87 : Mem → Prop} {k : Mem → Prop} (hX_36_87 : ∀ (ν : Mem), StatR ν.2.2 → X_36_87 ν → SW l Γ yX10_findDealOf.cls cX10_findDealOf Y_Worths_findDealOf (pV k) g 174 0 0 ν 87 [(0, vr Γ 100), (1, vi a1), (2, vi a2), (3, vi v3)] []) (n9 : Nat) : ∀ (v4 : Int) (μ_2 : Mem), StatR μ_2.2.2 → l_Worths_findDealOf_36 a1 a2 v3 X_36_87 n9 v4 μ_2 → SW l Γ yX10_findDealOf.cls cX10_findDealOf Y_Worths_findDealOf (pV k) g 174 0 0 μ_2 36 [(0, vr Γ 100), (1, vi a1), (2, vi a2), (3, vi v3), (4, vi v4)] [] := by
  induction n9 with
  | zero =>
    intro v4 μ_2 hs h
    exact h.elim
  | succ n9 hR_36 =>
    intro v4 μ_2 hs h
    rw [l_Worths_findDealOf_36] at h
    refine z_iload dX10_findDealOf_36 4 rfl ?_
    refine z_rload_n dX10_findDealOf_38 rfl 0 rfl ?_
    refine z_getR (q := 13801) ff_10_1 dX10_findDealOf_39 kt_100 (Nat.le_of_ble_eq_true rfl) fl_X10_50 rfl (hs.1 _ _ sr_13801) ?_
    refine z_getI (q := 2543) ff_6_7 dX10_findDealOf_42 kt_12 (Nat.le_of_ble_eq_true rfl) fl_X10_165 rfl ?_
    refine z_icmp_ge (tgt := 87) dX10_findDealOf_45 (by decide) h (fun h => ?_) (fun h => ?_)
    · refine z_iload dX10_findDealOf_48 4 rfl ?_
      refine z_iload_n dX10_findDealOf_50 rfl 3 rfl ?_
      refine z_icmp_eq (tgt := 81) dX10_findDealOf_51 (by decide) h (fun h => ?_) (fun h => ?_)
      · refine z_iinc (j := 4) (lv' := [(4, vi (v4 + 1)), (0, vr Γ 100), (1, vi a1), (2, vi a2), (3, vi v3)]) dX10_findDealOf_81 rfl (Nat.le_of_ble_eq_true rfl) rfl ?_
        refine z_goto (tgt := 36) dX10_findDealOf_84 (by decide) ?_
        refine z_sub (lv' := [(0, vr Γ 100), (1, vi a1), (2, vi a2), (3, vi v3), (4, vi (v4 + 1))]) [1, 2, 3, 4, 0] rfl ?_
        exact hR_36 (v4 + 1) μ_2 hs h
      · refine z_rload_n dX10_findDealOf_54 rfl 0 rfl ?_
        refine z_getR (q := 13814) ff_10_14 dX10_findDealOf_55 kt_100 (Nat.le_of_ble_eq_true rfl) fl_X10_40 rfl (hs.1 _ _ sr_13814) ?_
        refine z_iload_n dX10_findDealOf_58 rfl 2 rfl ?_
        refine z_bipush dX10_findDealOf_59 (by decide) ?_
        refine z_imul dX10_findDealOf_61 ?_
        refine z_iload dX10_findDealOf_62 4 rfl ?_
        refine z_iadd dX10_findDealOf_64 ?_
        refine z_NE (i_X11_at kt_110 (Nat.le_of_ble_eq_true rfl)) ok_X11_at nw_X10_66 ⟨Nat.le_of_ble_eq_true rfl, Nat.le_of_ble_eq_true rfl⟩ ⟨Nat.zero_le _, Nat.zero_le _⟩ rfl rfl (Nat.le_of_ble_eq_true rfl) dX10_findDealOf_65 ?_
        refine z_iconst dX10_findDealOf_68 ?_
        refine z_icmp_eq (tgt := 81) dX10_findDealOf_69 (by decide) h (fun h => ?_) (fun h => ?_)
        · refine z_iinc (j := 4) (lv' := [(4, vi (v4 + 1)), (0, vr Γ 100), (1, vi a1), (2, vi a2), (3, vi v3)]) dX10_findDealOf_81 rfl (Nat.le_of_ble_eq_true rfl) rfl ?_
          refine z_goto (tgt := 36) dX10_findDealOf_84 (by decide) ?_
          refine z_sub (lv' := [(0, vr Γ 100), (1, vi a1), (2, vi a2), (3, vi v3), (4, vi (v4 + 1))]) [1, 2, 3, 4, 0] rfl ?_
          exact hR_36 (v4 + 1) μ_2 hs h
        · refine z_rload_n dX10_findDealOf_72 rfl 0 rfl ?_
          refine z_iload_n dX10_findDealOf_73 rfl 1 rfl ?_
          refine z_iload_n dX10_findDealOf_74 rfl 2 rfl ?_
          refine z_iload_n dX10_findDealOf_75 rfl 3 rfl ?_
          refine z_iload dX10_findDealOf_76 4 rfl ?_
          refine z_VU (i_Worths_keepIfBetter  hs h) vk_X10_keepIfBetter kt_100 (Nat.le_of_ble_eq_true rfl) rfl ml_X10_189 ⟨Nat.le_of_ble_eq_true rfl, Nat.le_of_ble_eq_true rfl⟩ ⟨Nat.zero_le _, Nat.zero_le _⟩ rfl rfl (Nat.le_of_ble_eq_true rfl) dX10_findDealOf_78 (fun μ_3 hs h => ?_)
          refine z_iinc (j := 4) (lv' := [(4, vi (v4 + 1)), (0, vr Γ 100), (1, vi a1), (2, vi a2), (3, vi v3)]) dX10_findDealOf_81 rfl (Nat.le_of_ble_eq_true rfl) rfl ?_
          refine z_goto (tgt := 36) dX10_findDealOf_84 (by decide) ?_
          refine z_sub (lv' := [(0, vr Γ 100), (1, vi a1), (2, vi a2), (3, vi v3), (4, vi (v4 + 1))]) [1, 2, 3, 4, 0] rfl ?_
          exact hR_36 (v4 + 1) μ_3 hs h
    · refine z_sub (lv' := [(0, vr Γ 100), (1, vi a1), (2, vi a2), (3, vi v3)]) [0, 1, 2, 3] rfl ?_
      exact hX_36_87 μ_2 hs h
theorem L_Worths_findDealOf_2 {l : Launch} {Γ : Gam} {g : Nat} {a1 : Int} {a2 : Int} {X_2_93 : Mem → Prop} {k : Mem → Prop} (hX_2_93 : ∀ (ν : Mem), StatR ν.2.2 → X_2_93 ν → SW l Γ yX10_findDealOf.cls cX10_findDealOf Y_Worths_findDealOf (pV k) g 174 0 0 ν 93 [] []) (n9 : Nat) : ∀ (v3 : Int) (μ_1 : Mem), StatR μ_1.2.2 → l_Worths_findDealOf_2 a1 a2 X_2_93 n9 v3 μ_1 → SW l Γ yX10_findDealOf.cls cX10_findDealOf Y_Worths_findDealOf (pV k) g 174 0 0 μ_1 2 [(0, vr Γ 100), (1, vi a1), (2, vi a2), (3, vi v3)] [] := by
  induction n9 with
  | zero =>
    intro v3 μ_1 hs h
    exact h.elim
  | succ n9 hR_2 =>
    intro v3 μ_1 hs h
    rw [l_Worths_findDealOf_2] at h
    refine z_iload_n dX10_findDealOf_2 rfl 3 rfl ?_
    refine z_rload_n dX10_findDealOf_3 rfl 0 rfl ?_
    refine z_getR (q := 13801) ff_10_1 dX10_findDealOf_4 kt_100 (Nat.le_of_ble_eq_true rfl) fl_X10_50 rfl (hs.1 _ _ sr_13801) ?_
    refine z_getI (q := 2543) ff_6_7 dX10_findDealOf_7 kt_12 (Nat.le_of_ble_eq_true rfl) fl_X10_165 rfl ?_
    refine z_icmp_ge (tgt := 93) dX10_findDealOf_10 (by decide) h (fun h => ?_) (fun h => ?_)
    · refine z_rload_n dX10_findDealOf_13 rfl 0 rfl ?_
      refine z_getR (q := 13814) ff_10_14 dX10_findDealOf_14 kt_100 (Nat.le_of_ble_eq_true rfl) fl_X10_40 rfl (hs.1 _ _ sr_13814) ?_
      refine z_iload_n dX10_findDealOf_17 rfl 1 rfl ?_
      refine z_bipush dX10_findDealOf_18 (by decide) ?_
      refine z_imul dX10_findDealOf_20 ?_
      refine z_iload_n dX10_findDealOf_21 rfl 3 rfl ?_
      refine z_iadd dX10_findDealOf_22 ?_
      refine z_NE (i_X11_at kt_110 (Nat.le_of_ble_eq_true rfl)) ok_X11_at nw_X10_66 ⟨Nat.le_of_ble_eq_true rfl, Nat.le_of_ble_eq_true rfl⟩ ⟨Nat.zero_le _, Nat.zero_le _⟩ rfl rfl (Nat.le_of_ble_eq_true rfl) dX10_findDealOf_23 ?_
      refine z_iconst dX10_findDealOf_26 ?_
      refine z_icmp_ne (tgt := 33) dX10_findDealOf_27 (by decide) h (fun h => ?_) (fun h => ?_)
      · refine z_goto (tgt := 87) dX10_findDealOf_30 (by decide) ?_
        refine z_iinc (j := 3) (lv' := [(3, vi (v3 + 1)), (0, vr Γ 100), (1, vi a1), (2, vi a2)]) dX10_findDealOf_87 rfl (Nat.le_of_ble_eq_true rfl) rfl ?_
        refine z_goto (tgt := 2) dX10_findDealOf_90 (by decide) ?_
        refine z_sub (lv' := [(0, vr Γ 100), (1, vi a1), (2, vi a2), (3, vi (v3 + 1))]) [1, 2, 3, 0] rfl ?_
        exact hR_2 (v3 + 1) μ_1 hs h
      · refine z_iconst dX10_findDealOf_33 ?_
        refine z_istore (lv' := [(4, vi 0), (0, vr Γ 100), (1, vi a1), (2, vi a2), (3, vi v3)]) dX10_findDealOf_34 (Nat.le_of_ble_eq_true rfl) rfl ?_
        obtain ⟨m36, h⟩ := h
        refine z_sub (lv' := [(0, vr Γ 100), (1, vi a1), (2, vi a2), (3, vi v3), (4, vi 0)]) [1, 2, 3, 4, 0] rfl ?_
        refine L_Worths_findDealOf_36 (fun μ_4 hs h => ?_) m36 0 μ_1 hs h
        refine z_iinc (j := 3) (lv' := [(3, vi (v3 + 1)), (0, vr Γ 100), (1, vi a1), (2, vi a2)]) dX10_findDealOf_87 rfl (Nat.le_of_ble_eq_true rfl) rfl ?_
        refine z_goto (tgt := 2) dX10_findDealOf_90 (by decide) ?_
        refine z_sub (lv' := [(0, vr Γ 100), (1, vi a1), (2, vi a2), (3, vi (v3 + 1))]) [1, 2, 3, 0] rfl ?_
        exact hR_2 (v3 + 1) μ_4 hs h
    · refine z_sub (lv' := []) [] rfl ?_
      exact hX_2_93 μ_1 hs h
theorem i_Worths_findDealOf {l : Launch} {Γ : Gam} {g : Nat} {a1 : Int} {a2 : Int} {μ : Mem} {k : Mem → Prop} (hs : StatR μ.2.2) (h : f_Worths_findDealOf a1 a2 μ k) : CT l Γ yX10_findDealOf cX10_findDealOf 5 none 3 71 0 0 [vr Γ 100, vi a1, vi a2] g 174 μ (pV k) := by
  refine SW.ct (by decide) (Nat.le_of_ble_eq_true rfl) ?_
  refine z_sub (lv' := [(0, vr Γ 100), (1, vi a1), (2, vi a2)]) [0, 1, 2] rfl ?_
  show SW l Γ yX10_findDealOf.cls cX10_findDealOf Y_Worths_findDealOf (pV k) g 174 0 0 μ 0 [(0, vr Γ 100), (1, vi a1), (2, vi a2)] []
  unfold f_Worths_findDealOf at h
  refine z_iconst dX10_findDealOf_0 ?_
  refine z_istore_n (lv' := [(3, vi 0), (0, vr Γ 100), (1, vi a1), (2, vi a2)]) dX10_findDealOf_1 rfl (Nat.le_of_ble_eq_true rfl) rfl ?_
  obtain ⟨m2, h⟩ := h
  refine z_sub (lv' := [(0, vr Γ 100), (1, vi a1), (2, vi a2), (3, vi 0)]) [1, 2, 3, 0] rfl ?_
  refine L_Worths_findDealOf_2 (fun μ_5 hs h => ?_) m2 0 μ hs h
  exact z_vret rfl dX10_findDealOf_93 rfl rfl rfl ⟨rfl, hs, h⟩
