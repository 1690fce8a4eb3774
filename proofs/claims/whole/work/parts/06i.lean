abbrev Y_Comp_gather : Yt := (6, (some .boolean), yX1_gather.name, { frames := 2, cells := 0, slots := 0, locals := 48 }, 175, 0, 0)
def l_Comp_gather_33 (a1 : Int) (v2 : Int) (X_33_57 : Mem → Prop) : Nat → Int → Mem → Prop
  | 0, _, _ => False
  | fu33 + 1, v5, μ_4 => if w v5 < w ((9 : Nat) : Int) then (0 ≤ w v5 ∧ w v5 < ((9 : Nat) : Int) ∧ ∀ μ_5 : Mem, μ_5 = sL μ_4 96 (w v5) 0 → (l_Comp_gather_33 a1 v2 X_33_57 fu33) (v5 + 1) μ_5) else (X_33_57 μ_4)
def l_Comp_gather_60 (a1 : Int) (v2 : Int) (X_60_155 : Int64 → Mem → Prop) : Nat → Int64 → Int → Mem → Prop
  | 0, _, _, _ => False
  | fu60 + 1, v3, v5_1, μ_7 => if w v5_1 < w (rI μ_7 12654 0) then (if w (w_iand (w_iushr a1 v5_1) 1) = 0 then ((l_Comp_gather_60 a1 v2 X_60_155 fu60) v3 (v5_1 + 1) μ_7) else (∀ μ_8 : Mem, μ_8 = sL μ_7 12656 0 ((rL μ_7 12656 0) ||| (atL' μ_7 93 8 v5_1)) → ∀ v3_1 : Int64, v3_1 = v3 ||| (atL' μ_8 94 8 v5_1) → ∀ μ_9 : Mem, μ_9 = sL μ_8 12657 0 ((rL μ_8 12657 0) ||| (atL' μ_8 95 8 v5_1)) → f_Comp_share ((atL' μ_9 93 8 v5_1) ||| (atL' μ_9 94 8 v5_1)) μ_9 (fun μ_10 => (l_Comp_gather_60 a1 v2 X_60_155 fu60) v3_1 (v5_1 + 1) μ_10))) else (X_60_155 v3 μ_7)
def f_Comp_gather (a1 : Int) (μ : Mem) (k : Bool → Mem → Prop) : Prop := f_Papers_inForce (rI μ 9584 0) μ (fun r11 μ_1 => isRu r11 = true ∧ ∀ v2 : Int, v2 = rI μ_1 (gid r11 5) 0 → ∀ μ_2 : Mem, μ_2 = sL μ_1 12656 0 0 → ∀ μ_3 : Mem, μ_3 = sL μ_2 12657 0 0 → ∃ m33 : Nat, l_Comp_gather_33 a1 v2 (fun (μ_6 : Mem) => ∃ m60 : Nat, l_Comp_gather_60 a1 v2 (fun (v3_2 : Int64) (μ_11 : Mem) => if ((rL μ_11 12656 0) &&& v3_2) = 0 then (if w v2 < w (v_popL (rL μ_11 12657 0)) then (k false μ_11) else (f_Comp_keepUpTo v2 μ_11 (fun μ_12 => k true μ_12))) else (k false μ_11)) m60 0 0 μ_6) m33 0 μ_3)
theorem L_Comp_gather_33 {l : Launch} {Γ : Gam} {g : Nat} {a1 : Int} {v2 : Int} {X_33_57 : Mem → Prop} {k : Bool → Mem → Prop} (hX_33_57 : ∀ (ν : Mem), StatR ν.2.2 → X_33_57 ν → SW l Γ yX1_gather.cls cX1_gather Y_Comp_gather (pB k) g 175 0 0 ν 57 [(0, vr Γ 91), (1, vi a1), (2, vi v2), (3, vl 0)] []) (n9 : Nat) : ∀ (v5 : Int) (μ_4 : Mem), StatR μ_4.2.2 → l_Comp_gather_33 a1 v2 X_33_57 n9 v5 μ_4 → SW l Γ yX1_gather.cls cX1_gather Y_Comp_gather (pB k) g 175 0 0 μ_4 33 [(0, vr Γ 91), (1, vi a1), (2, vi v2), (3, vl 0), (5, vi v5)] [] := by
  induction n9 with
  | zero =>
    intro v5 μ_4 hs h
    exact h.elim
  | succ n9 hR_33 =>
    intro v5 μ_4 hs h
    rw [l_Comp_gather_33] at h
    refine z_iload dX1_gather_33 4 rfl ?_
    refine z_rload_n dX1_gather_35 rfl 0 rfl ?_
    refine z_getR (q := 12658) ff_1_10 dX1_gather_36 kt_91 (Nat.le_of_ble_eq_true rfl) fl_X1_25 rfl (hs.1 _ _ sr_12658) ?_
    refine z_alen dX1_gather_39 kt_96 (by decide) (Nat.le_of_ble_eq_true rfl) ?_
    refine z_icmp_ge (tgt := 57) dX1_gather_40 (by decide) h (fun h => ?_) (fun h => ?_)
    · refine z_rload_n dX1_gather_43 rfl 0 rfl ?_
      refine z_getR (q := 12658) ff_1_10 dX1_gather_44 kt_91 (Nat.le_of_ble_eq_true rfl) fl_X1_25 rfl (hs.1 _ _ sr_12658) ?_
      refine z_iload dX1_gather_47 4 rfl ?_
      refine z_lconst (v := 0) dX1_gather_49 rfl ?_
      obtain ⟨h0, h1, h⟩ := h
      refine z_last dX1_gather_50 kt_96 (Nat.le_of_ble_eq_true rfl) h0 h1 ?_
      refine z_mm (fun μ_5 eμ_5 => ?_)
      replace h := h μ_5 eμ_5
      replace hs : StatR μ_5.2.2 := by rw [eμ_5]; exact hs
      refine z_iinc (j := 4) (lv' := [(5, vi (v5 + 1)), (0, vr Γ 91), (1, vi a1), (2, vi v2), (3, vl 0)]) dX1_gather_51 rfl (Nat.le_of_ble_eq_true rfl) rfl ?_
      refine z_goto (tgt := 33) dX1_gather_54 (by decide) ?_
      refine z_sub (lv' := [(0, vr Γ 91), (1, vi a1), (2, vi v2), (3, vl 0), (5, vi (v5 + 1))]) [1, 2, 3, 4, 0] rfl ?_
      exact hR_33 (v5 + 1) μ_5 hs h
    · refine z_sub (lv' := [(0, vr Γ 91), (1, vi a1), (2, vi v2), (3, vl 0)]) [0, 1, 2, 3] rfl ?_
      exact hX_33_57 μ_4 hs h
theorem L_Comp_gather_60 {l : Launch} {Γ : Gam} {g : Nat} {a1 : Int} {v2 : Int} {X_60_155 : Int64 → Mem → Prop} {k : Bool → Mem → Prop} (hX_60_155 : ∀ (u3 : Int64) (ν : Mem), StatR ν.2.2 → X_60_155 u3 ν → SW l Γ yX1_gather.cls cX1_gather Y_Comp_gather (pB k) g 175 0 0 ν 155 [(0, vr Γ 91), (2, vi v2), (3, vl u3)] []) (n9 : Nat) : ∀ (v3 : Int64) (v5_1 : Int) (μ_7 : Mem), StatR μ_7.2.2 → l_Comp_gather_60 a1 v2 X_60_155 n9 v3 v5_1 μ_7 → SW l Γ yX1_gather.cls cX1_gather Y_Comp_gather (pB k) g 175 0 0 μ_7 60 [(0, vr Γ 91), (1, vi a1), (2, vi v2), (3, vl v3), (5, vi v5_1)] [] := by
  induction n9 with
  | zero =>
    intro v3 v5_1 μ_7 hs h
    exact h.elim
  | succ n9 hR_60 =>
    intro v3 v5_1 μ_7 hs h
    rw [l_Comp_gather_60] at h
    refine z_iload dX1_gather_60 4 rfl ?_
    refine z_rload_n dX1_gather_62 rfl 0 rfl ?_
    refine z_getI (q := 12654) ff_1_6 dX1_gather_63 kt_91 (Nat.le_of_ble_eq_true rfl) fl_X1_54 rfl ?_
    refine z_icmp_ge (tgt := 155) dX1_gather_66 (by decide) h (fun h => ?_) (fun h => ?_)
    · refine z_iload_n dX1_gather_69 rfl 1 rfl ?_
      refine z_iload dX1_gather_70 4 rfl ?_
      refine z_iushr dX1_gather_72 ?_
      refine z_iconst dX1_gather_73 ?_
      refine z_iand dX1_gather_74 ?_
      refine z_if_eq (tgt := 149) dX1_gather_75 (by decide) h (fun h => ?_) (fun h => ?_)
      · refine z_iinc (j := 4) (lv' := [(5, vi (v5_1 + 1)), (0, vr Γ 91), (1, vi a1), (2, vi v2), (3, vl v3)]) dX1_gather_149 rfl (Nat.le_of_ble_eq_true rfl) rfl ?_
        refine z_goto (tgt := 60) dX1_gather_152 (by decide) ?_
        refine z_sub (lv' := [(0, vr Γ 91), (1, vi a1), (2, vi v2), (3, vl v3), (5, vi (v5_1 + 1))]) [1, 2, 3, 4, 0] rfl ?_
        exact hR_60 v3 (v5_1 + 1) μ_7 hs h
      · refine z_rload_n dX1_gather_78 rfl 0 rfl ?_
        refine z_dup dX1_gather_79 rfl ?_
        refine z_getJ (q := 12656) ff_1_8 dX1_gather_80 kt_91 (Nat.le_of_ble_eq_true rfl) fl_X1_113 rfl ?_
        refine z_rload_n dX1_gather_83 rfl 0 rfl ?_
        refine z_getR (q := 12651) ff_1_3 dX1_gather_84 kt_91 (Nat.le_of_ble_eq_true rfl) fl_X1_15 rfl (hs.1 _ _ sr_12651) ?_
        refine z_iload dX1_gather_87 4 rfl ?_
        refine z_NE (i_X11_at_ kt_93 (Nat.le_of_ble_eq_true rfl)) ok_X11_at_ nw_X1_86 ⟨Nat.le_of_ble_eq_true rfl, Nat.le_of_ble_eq_true rfl⟩ ⟨Nat.zero_le _, Nat.zero_le _⟩ rfl rfl (Nat.le_of_ble_eq_true rfl) dX1_gather_89 ?_
        refine z_lor dX1_gather_92 ?_
        refine z_putJ (q := 12656) ff_1_8 (Or.inl rfl) rfl dX1_gather_93 kt_91 (Nat.le_of_ble_eq_true rfl) fl_X1_113 rfl ?_
        refine z_mm (fun μ_8 eμ_8 => ?_)
        replace h := h μ_8 eμ_8
        replace hs : StatR μ_8.2.2 := by rw [eμ_8]; exact hs
        refine z_lload_n dX1_gather_96 rfl 3 rfl ?_
        refine z_rload_n dX1_gather_97 rfl 0 rfl ?_
        refine z_getR (q := 12652) ff_1_4 dX1_gather_98 kt_91 (Nat.le_of_ble_eq_true rfl) fl_X1_19 rfl (hs.1 _ _ sr_12652) ?_
        refine z_iload dX1_gather_101 4 rfl ?_
        refine z_NE (i_X11_at_ kt_94 (Nat.le_of_ble_eq_true rfl)) ok_X11_at_ nw_X1_86 ⟨Nat.le_of_ble_eq_true rfl, Nat.le_of_ble_eq_true rfl⟩ ⟨Nat.zero_le _, Nat.zero_le _⟩ rfl rfl (Nat.le_of_ble_eq_true rfl) dX1_gather_103 ?_
        refine z_lor dX1_gather_106 ?_
        refine z_nmL (fun v3_1 ev3_1 => ?_)
        replace h := h v3_1 ev3_1
        refine z_lstore_n (lv' := [(3, vl v3_1), (0, vr Γ 91), (1, vi a1), (2, vi v2), (5, vi v5_1)]) dX1_gather_107 rfl (Nat.le_of_ble_eq_true rfl) rfl ?_
        refine z_rload_n dX1_gather_108 rfl 1 rfl ?_
        refine z_dup dX1_gather_109 rfl ?_
        refine z_getJ (q := 12657) ff_1_9 dX1_gather_110 kt_91 (Nat.le_of_ble_eq_true rfl) fl_X1_116 rfl ?_
        refine z_rload_n dX1_gather_113 rfl 1 rfl ?_
        refine z_getR (q := 12653) ff_1_5 dX1_gather_114 kt_91 (Nat.le_of_ble_eq_true rfl) fl_X1_22 rfl (hs.1 _ _ sr_12653) ?_
        refine z_iload dX1_gather_117 4 rfl ?_
        refine z_NE (i_X11_at_ kt_95 (Nat.le_of_ble_eq_true rfl)) ok_X11_at_ nw_X1_86 ⟨Nat.le_of_ble_eq_true rfl, Nat.le_of_ble_eq_true rfl⟩ ⟨Nat.zero_le _, Nat.zero_le _⟩ rfl rfl (Nat.le_of_ble_eq_true rfl) dX1_gather_119 ?_
        refine z_lor dX1_gather_122 ?_
        refine z_putJ (q := 12657) ff_1_9 (Or.inl rfl) rfl dX1_gather_123 kt_91 (Nat.le_of_ble_eq_true rfl) fl_X1_116 rfl ?_
        refine z_mm (fun μ_9 eμ_9 => ?_)
        replace h := h μ_9 eμ_9
        replace hs : StatR μ_9.2.2 := by rw [eμ_9]; exact hs
        refine z_rload_n dX1_gather_126 rfl 1 rfl ?_
        refine z_rload_n dX1_gather_127 rfl 1 rfl ?_
        refine z_getR (q := 12651) ff_1_3 dX1_gather_128 kt_91 (Nat.le_of_ble_eq_true rfl) fl_X1_15 rfl (hs.1 _ _ sr_12651) ?_
        refine z_iload dX1_gather_131 4 rfl ?_
        refine z_NE (i_X11_at_ kt_93 (Nat.le_of_ble_eq_true rfl)) ok_X11_at_ nw_X1_86 ⟨Nat.le_of_ble_eq_true rfl, Nat.le_of_ble_eq_true rfl⟩ ⟨Nat.zero_le _, Nat.zero_le _⟩ rfl rfl (Nat.le_of_ble_eq_true rfl) dX1_gather_133 ?_
        refine z_rload_n dX1_gather_136 rfl 1 rfl ?_
        refine z_getR (q := 12652) ff_1_4 dX1_gather_137 kt_91 (Nat.le_of_ble_eq_true rfl) fl_X1_19 rfl (hs.1 _ _ sr_12652) ?_
        refine z_iload dX1_gather_140 4 rfl ?_
        refine z_NE (i_X11_at_ kt_94 (Nat.le_of_ble_eq_true rfl)) ok_X11_at_ nw_X1_86 ⟨Nat.le_of_ble_eq_true rfl, Nat.le_of_ble_eq_true rfl⟩ ⟨Nat.zero_le _, Nat.zero_le _⟩ rfl rfl (Nat.le_of_ble_eq_true rfl) dX1_gather_142 ?_
        refine z_lor dX1_gather_145 ?_
        refine z_VU (i_Comp_share  hs h) vk_X1_share kt_91 (Nat.le_of_ble_eq_true rfl) rfl ml_X1_119 ⟨Nat.le_of_ble_eq_true rfl, Nat.le_of_ble_eq_true rfl⟩ ⟨Nat.zero_le _, Nat.zero_le _⟩ rfl rfl (Nat.le_of_ble_eq_true rfl) dX1_gather_146 (fun μ_10 hs h => ?_)
        refine z_iinc (j := 4) (lv' := [(5, vi (v5_1 + 1)), (3, vl v3_1), (0, vr Γ 91), (1, vi a1), (2, vi v2)]) dX1_gather_149 rfl (Nat.le_of_ble_eq_true rfl) rfl ?_
        refine z_goto (tgt := 60) dX1_gather_152 (by decide) ?_
        refine z_sub (lv' := [(0, vr Γ 91), (1, vi a1), (2, vi v2), (3, vl v3_1), (5, vi (v5_1 + 1))]) [2, 3, 4, 1, 0] rfl ?_
        exact hR_60 v3_1 (v5_1 + 1) μ_10 hs h
    · refine z_sub (lv' := [(0, vr Γ 91), (2, vi v2), (3, vl v3)]) [0, 2, 3] rfl ?_
      exact hX_60_155 v3 μ_7 hs h
theorem i_Comp_gather {l : Launch} {Γ : Gam} {g : Nat} {a1 : Int} {μ : Mem} {k : Bool → Mem → Prop} (hs : StatR μ.2.2) (h : f_Comp_gather a1 μ k) : CT l Γ yX1_gather cX1_gather 6 (some .boolean) 2 48 0 0 [vr Γ 91, vi a1] g 175 μ (pB k) := by
  refine SW.ct (by decide) (Nat.le_of_ble_eq_true rfl) ?_
  refine z_sub (lv' := [(0, vr Γ 91), (1, vi a1)]) [0, 1] rfl ?_
  show SW l Γ yX1_gather.cls cX1_gather Y_Comp_gather (pB k) g 175 0 0 μ 0 [(0, vr Γ 91), (1, vi a1)] []
  unfold f_Comp_gather at h
  refine z_rload_n dX1_gather_0 rfl 0 rfl ?_
  refine z_getR (q := 12648) ff_1_0 dX1_gather_1 kt_91 (Nat.le_of_ble_eq_true rfl) fl_X1_40 rfl (hs.1 _ _ sr_12648) ?_
  refine z_rload_n dX1_gather_4 rfl 0 rfl ?_
  refine z_getR (q := 12649) ff_1_1 dX1_gather_5 kt_91 (Nat.le_of_ble_eq_true rfl) fl_X1_44 rfl (hs.1 _ _ sr_12649) ?_
  refine z_getI (q := 9584) ff_3_8 dX1_gather_8 kt_67 (Nat.le_of_ble_eq_true rfl) fl_X1_99 rfl ?_
  refine z_VA (i_Papers_inForce  hs h) vk_X6_inForce kt_12 (Nat.le_of_ble_eq_true rfl) rfl ml_X1_102 ⟨Nat.le_of_ble_eq_true rfl, Nat.le_of_ble_eq_true rfl⟩ ⟨Nat.zero_le _, Nat.zero_le _⟩ rfl rfl (Nat.le_of_ble_eq_true rfl) dX1_gather_11 (fun r11 μ_1 hs h => ?_)
  obtain ⟨hr_r11, h⟩ := h
  refine z_getI (q := (gid r11 5)) ff_8_5 dX1_gather_14 (ru_k hr_r11) (ru_l hr_r11) fl_X1_108 rfl ?_
  refine z_nm (fun v2 ev2 => ?_)
  replace h := h v2 ev2
  refine z_istore_n (lv' := [(2, vi v2), (0, vr Γ 91), (1, vi a1)]) dX1_gather_17 rfl (Nat.le_of_ble_eq_true rfl) rfl ?_
  refine z_lconst (v := 0) dX1_gather_18 rfl ?_
  refine z_lstore_n (lv' := [(3, vl 0), (2, vi v2), (0, vr Γ 91), (1, vi a1)]) dX1_gather_19 rfl (Nat.le_of_ble_eq_true rfl) rfl ?_
  refine z_rload_n dX1_gather_20 rfl 2 rfl ?_
  refine z_lconst (v := 0) dX1_gather_21 rfl ?_
  refine z_putJ (q := 12656) ff_1_8 (Or.inl rfl) rfl dX1_gather_22 kt_91 (Nat.le_of_ble_eq_true rfl) fl_X1_113 rfl ?_
  refine z_mm (fun μ_2 eμ_2 => ?_)
  replace h := h μ_2 eμ_2
  replace hs : StatR μ_2.2.2 := by rw [eμ_2]; exact hs
  refine z_rload_n dX1_gather_25 rfl 2 rfl ?_
  refine z_lconst (v := 0) dX1_gather_26 rfl ?_
  refine z_putJ (q := 12657) ff_1_9 (Or.inl rfl) rfl dX1_gather_27 kt_91 (Nat.le_of_ble_eq_true rfl) fl_X1_116 rfl ?_
  refine z_mm (fun μ_3 eμ_3 => ?_)
  replace h := h μ_3 eμ_3
  replace hs : StatR μ_3.2.2 := by rw [eμ_3]; exact hs
  refine z_iconst dX1_gather_30 ?_
  refine z_istore (lv' := [(5, vi 0), (3, vl 0), (2, vi v2), (0, vr Γ 91), (1, vi a1)]) dX1_gather_31 (Nat.le_of_ble_eq_true rfl) rfl ?_
  obtain ⟨m33, h⟩ := h
  refine z_sub (lv' := [(0, vr Γ 91), (1, vi a1), (2, vi v2), (3, vl 0), (5, vi 0)]) [3, 4, 2, 1, 0] rfl ?_
  refine L_Comp_gather_33 (fun μ_6 hs h => ?_) m33 0 μ_3 hs h
  refine z_iconst dX1_gather_57 ?_
  refine z_istore (lv' := [(5, vi 0), (0, vr Γ 91), (1, vi a1), (2, vi v2), (3, vl 0)]) dX1_gather_58 (Nat.le_of_ble_eq_true rfl) rfl ?_
  obtain ⟨m60, h⟩ := h
  refine z_sub (lv' := [(0, vr Γ 91), (1, vi a1), (2, vi v2), (3, vl 0), (5, vi 0)]) [1, 2, 3, 4, 0] rfl ?_
  refine L_Comp_gather_60 (fun v3_2 μ_11 hs h => ?_) m60 0 0 μ_6 hs h
  refine z_rload_n dX1_gather_155 rfl 0 rfl ?_
  refine z_getJ (q := 12656) ff_1_8 dX1_gather_156 kt_91 (Nat.le_of_ble_eq_true rfl) fl_X1_113 rfl ?_
  refine z_lload_n dX1_gather_159 rfl 2 rfl ?_
  refine z_land dX1_gather_160 ?_
  refine z_lconst (v := 0) dX1_gather_161 rfl ?_
  refine z_lcmp_ne (tgt := 177) dX1_gather_162 dX1_gather_163 (by decide) h (fun h => ?_) (fun h => ?_)
  · refine z_rload_n dX1_gather_166 rfl 0 rfl ?_
    refine z_getJ (q := 12657) ff_1_9 dX1_gather_167 kt_91 (Nat.le_of_ble_eq_true rfl) fl_X1_116 rfl ?_
    refine z_SE (i_popL hs) sk_J13_bitCount_95d88 ml_X1_89 ⟨Nat.le_of_ble_eq_true rfl, Nat.le_of_ble_eq_true rfl⟩ ⟨Nat.zero_le _, Nat.zero_le _⟩ rfl rfl (Nat.le_of_ble_eq_true rfl) dX1_gather_170 ?_
    refine z_iload_n dX1_gather_173 rfl 1 rfl ?_
    refine z_icmp_le (tgt := 179) dX1_gather_174 (by decide) h (fun h => ?_) (fun h => ?_)
    · refine z_iconst dX1_gather_177 ?_
      exact z_zret (b := false) rfl dX1_gather_178 rfl rfl rfl ⟨_, rfl, hs, h⟩
    · refine z_rload_n dX1_gather_179 rfl 0 rfl ?_
      refine z_iload_n dX1_gather_180 rfl 1 rfl ?_
      refine z_VU (i_Comp_keepUpTo  hs h) vk_X1_keepUpTo kt_91 (Nat.le_of_ble_eq_true rfl) rfl ml_X1_123 ⟨Nat.le_of_ble_eq_true rfl, Nat.le_of_ble_eq_true rfl⟩ ⟨Nat.zero_le _, Nat.zero_le _⟩ rfl rfl (Nat.le_of_ble_eq_true rfl) dX1_gather_181 (fun μ_12 hs h => ?_)
      refine z_iconst dX1_gather_184 ?_
      exact z_zret (b := true) rfl dX1_gather_185 rfl rfl rfl ⟨_, rfl, hs, h⟩
  · refine z_iconst dX1_gather_177 ?_
    exact z_zret (b := false) rfl dX1_gather_178 rfl rfl rfl ⟨_, rfl, hs, h⟩
abbrev Y_Comp_compose : Yt := (7, (some .int), yX1_compose.name, { frames := 3, cells := 0, slots := 0, locals := 73 }, 175, 0, 0)
def l_Comp_compose_17 (a1 : Int) (μ_1 : Mem) (X_17_83 : Int → Int → Prop) : Nat → Int → Int → Int → Prop
  | 0, _, _, _ => False
  | fu17 + 1, v2, v3, v4 => if w v4 < w (rI μ_1 12654 0) then (if w (w_iand (w_iushr a1 v4) 1) = 0 then ((l_Comp_compose_17 a1 μ_1 X_17_83 fu17) v2 v3 (v4 + 1)) else (∀ v5 : Int64, v5 = (atL' μ_1 93 8 v4) ||| (atL' μ_1 94 8 v4) → ∀ v2_1 : Int, v2_1 = v2 + (v_popL v5) → ∀ v3_1 : Int, v3_1 = v3 + (v_popL (v5 &&& (rL μ_1 12655 0))) → (l_Comp_compose_17 a1 μ_1 X_17_83 fu17) v2_1 v3_1 (v4 + 1))) else (X_17_83 v2 v3)
def f_Comp_compose (a1 : Int) (μ : Mem) (k : Int → Mem → Prop) : Prop := f_Comp_gather a1 μ (fun r2 μ_1 => if r2 = true then (∃ m17 : Nat, l_Comp_compose_17 a1 μ_1 (fun (v2_2 : Int) (v3_2 : Int) => k (v2_2 - v3_2) μ_1) m17 0 0 0) else (k (-1) μ_1))
theorem L_Comp_compose_17 {l : Launch} {Γ : Gam} {g : Nat} {a1 : Int} {μ_1 : Mem} {X_17_83 : Int → Int → Prop} {k : Int → Mem → Prop} (hs : StatR μ_1.2.2) (hX_17_83 : ∀ (u2 : Int) (u3 : Int), X_17_83 u2 u3 → SW l Γ yX1_compose.cls cX1_compose Y_Comp_compose (pI k) g 175 0 0 μ_1 83 [(2, vi u2), (3, vi u3)] []) (n9 : Nat) : ∀ (v2 : Int) (v3 : Int) (v4 : Int), l_Comp_compose_17 a1 μ_1 X_17_83 n9 v2 v3 v4 → SW l Γ yX1_compose.cls cX1_compose Y_Comp_compose (pI k) g 175 0 0 μ_1 17 [(0, vr Γ 91), (1, vi a1), (2, vi v2), (3, vi v3), (4, vi v4)] [] := by
  induction n9 with
  | zero =>
    intro v2 v3 v4 h
    exact h.elim
  | succ n9 hR_17 =>
    intro v2 v3 v4 h
    rw [l_Comp_compose_17] at h
    refine z_iload dX1_compose_17 4 rfl ?_
    refine z_rload_n dX1_compose_19 rfl 0 rfl ?_
    refine z_getI (q := 12654) ff_1_6 dX1_compose_20 kt_91 (Nat.le_of_ble_eq_true rfl) fl_X1_54 rfl ?_
    refine z_icmp_ge (tgt := 83) dX1_compose_23 (by decide) h (fun h => ?_) (fun h => ?_)
    · refine z_iload_n dX1_compose_26 rfl 1 rfl ?_
      refine z_iload dX1_compose_27 4 rfl ?_
      refine z_iushr dX1_compose_29 ?_
      refine z_iconst dX1_compose_30 ?_
      refine z_iand dX1_compose_31 ?_
      refine z_if_eq (tgt := 77) dX1_compose_32 (by decide) h (fun h => ?_) (fun h => ?_)
      · refine z_iinc (j := 4) (lv' := [(4, vi (v4 + 1)), (0, vr Γ 91), (1, vi a1), (2, vi v2), (3, vi v3)]) dX1_compose_77 rfl (Nat.le_of_ble_eq_true rfl) rfl ?_
        refine z_goto (tgt := 17) dX1_compose_80 (by decide) ?_
        refine z_sub (lv' := [(0, vr Γ 91), (1, vi a1), (2, vi v2), (3, vi v3), (4, vi (v4 + 1))]) [1, 2, 3, 4, 0] rfl ?_
        exact hR_17 v2 v3 (v4 + 1) h
      · refine z_rload_n dX1_compose_35 rfl 0 rfl ?_
        refine z_getR (q := 12651) ff_1_3 dX1_compose_36 kt_91 (Nat.le_of_ble_eq_true rfl) fl_X1_15 rfl (hs.1 _ _ sr_12651) ?_
        refine z_iload dX1_compose_39 4 rfl ?_
        refine z_NE (i_X11_at_ kt_93 (Nat.le_of_ble_eq_true rfl)) ok_X11_at_ nw_X1_86 ⟨Nat.le_of_ble_eq_true rfl, Nat.le_of_ble_eq_true rfl⟩ ⟨Nat.zero_le _, Nat.zero_le _⟩ rfl rfl (Nat.le_of_ble_eq_true rfl) dX1_compose_41 ?_
        refine z_rload_n dX1_compose_44 rfl 0 rfl ?_
        refine z_getR (q := 12652) ff_1_4 dX1_compose_45 kt_91 (Nat.le_of_ble_eq_true rfl) fl_X1_19 rfl (hs.1 _ _ sr_12652) ?_
        refine z_iload dX1_compose_48 4 rfl ?_
        refine z_NE (i_X11_at_ kt_94 (Nat.le_of_ble_eq_true rfl)) ok_X11_at_ nw_X1_86 ⟨Nat.le_of_ble_eq_true rfl, Nat.le_of_ble_eq_true rfl⟩ ⟨Nat.zero_le _, Nat.zero_le _⟩ rfl rfl (Nat.le_of_ble_eq_true rfl) dX1_compose_50 ?_
        refine z_lor dX1_compose_53 ?_
        refine z_nmL (fun v5 ev5 => ?_)
        replace h := h v5 ev5
        refine z_lstore (lv' := [(5, vl v5), (0, vr Γ 91), (1, vi a1), (2, vi v2), (3, vi v3), (4, vi v4)]) dX1_compose_54 (Nat.le_of_ble_eq_true rfl) rfl ?_
        refine z_iload_n dX1_compose_56 rfl 3 rfl ?_
        refine z_lload dX1_compose_57 0 rfl ?_
        refine z_SE (i_popL hs) sk_J13_bitCount_95d88 ml_X1_89 ⟨Nat.le_of_ble_eq_true rfl, Nat.le_of_ble_eq_true rfl⟩ ⟨Nat.zero_le _, Nat.zero_le _⟩ rfl rfl (Nat.le_of_ble_eq_true rfl) dX1_compose_59 ?_
        refine z_iadd dX1_compose_62 ?_
        refine z_nm (fun v2_1 ev2_1 => ?_)
        replace h := h v2_1 ev2_1
        refine z_istore_n (lv' := [(2, vi v2_1), (5, vl v5), (0, vr Γ 91), (1, vi a1), (3, vi v3), (4, vi v4)]) dX1_compose_63 rfl (Nat.le_of_ble_eq_true rfl) rfl ?_
        refine z_iload_n dX1_compose_64 rfl 4 rfl ?_
        refine z_lload dX1_compose_65 1 rfl ?_
        refine z_rload_n dX1_compose_67 rfl 2 rfl ?_
        refine z_getJ (q := 12655) ff_1_7 dX1_compose_68 kt_91 (Nat.le_of_ble_eq_true rfl) fl_X1_95 rfl ?_
        refine z_land dX1_compose_71 ?_
        refine z_SE (i_popL hs) sk_J13_bitCount_95d88 ml_X1_89 ⟨Nat.le_of_ble_eq_true rfl, Nat.le_of_ble_eq_true rfl⟩ ⟨Nat.zero_le _, Nat.zero_le _⟩ rfl rfl (Nat.le_of_ble_eq_true rfl) dX1_compose_72 ?_
        refine z_iadd dX1_compose_75 ?_
        refine z_nm (fun v3_1 ev3_1 => ?_)
        replace h := h v3_1 ev3_1
        refine z_istore_n (lv' := [(3, vi v3_1), (2, vi v2_1), (5, vl v5), (0, vr Γ 91), (1, vi a1), (4, vi v4)]) dX1_compose_76 rfl (Nat.le_of_ble_eq_true rfl) rfl ?_
        refine z_iinc (j := 5) (lv' := [(4, vi (v4 + 1)), (3, vi v3_1), (2, vi v2_1), (5, vl v5), (0, vr Γ 91), (1, vi a1)]) dX1_compose_77 rfl (Nat.le_of_ble_eq_true rfl) rfl ?_
        refine z_goto (tgt := 17) dX1_compose_80 (by decide) ?_
        refine z_sub (lv' := [(0, vr Γ 91), (1, vi a1), (2, vi v2_1), (3, vi v3_1), (4, vi (v4 + 1))]) [4, 5, 2, 1, 0] rfl ?_
        exact hR_17 v2_1 v3_1 (v4 + 1) h
    · refine z_sub (lv' := [(2, vi v2), (3, vi v3)]) [2, 3] rfl ?_
      exact hX_17_83 v2 v3 h
theorem i_Comp_compose {l : Launch} {Γ : Gam} {g : Nat} {a1 : Int} {μ : Mem} {k : Int → Mem → Prop} (hs : StatR μ.2.2) (h : f_Comp_compose a1 μ k) : CT l Γ yX1_compose cX1_compose 7 (some .int) 3 73 0 0 [vr Γ 91, vi a1] g 175 μ (pI k) := by
  refine SW.ct (by decide) (Nat.le_of_ble_eq_true rfl) ?_
  refine z_sub (lv' := [(0, vr Γ 91), (1, vi a1)]) [0, 1] rfl ?_
  show SW l Γ yX1_compose.cls cX1_compose Y_Comp_compose (pI k) g 175 0 0 μ 0 [(0, vr Γ 91), (1, vi a1)] []
  unfold f_Comp_compose at h
  refine z_rload_n dX1_compose_0 rfl 0 rfl ?_
  refine z_iload_n dX1_compose_1 rfl 1 rfl ?_
  refine z_VB (i_Comp_gather  hs h) vk_X1_gather kt_91 (Nat.le_of_ble_eq_true rfl) rfl ml_X1_82 ⟨Nat.le_of_ble_eq_true rfl, Nat.le_of_ble_eq_true rfl⟩ ⟨Nat.zero_le _, Nat.zero_le _⟩ rfl rfl (Nat.le_of_ble_eq_true rfl) dX1_compose_2 (fun r2 μ_1 hs h => ?_)
  refine z_ifne_b (tgt := 10) dX1_compose_5 (by decide) h (fun h => ?_) (fun h => ?_)
  · refine z_iconst dX1_compose_10 ?_
    refine z_istore_n (lv' := [(2, vi 0), (0, vr Γ 91), (1, vi a1)]) dX1_compose_11 rfl (Nat.le_of_ble_eq_true rfl) rfl ?_
    refine z_iconst dX1_compose_12 ?_
    refine z_istore_n (lv' := [(3, vi 0), (2, vi 0), (0, vr Γ 91), (1, vi a1)]) dX1_compose_13 rfl (Nat.le_of_ble_eq_true rfl) rfl ?_
    refine z_iconst dX1_compose_14 ?_
    refine z_istore (lv' := [(4, vi 0), (3, vi 0), (2, vi 0), (0, vr Γ 91), (1, vi a1)]) dX1_compose_15 (Nat.le_of_ble_eq_true rfl) rfl ?_
    obtain ⟨m17, h⟩ := h
    refine z_sub (lv' := [(0, vr Γ 91), (1, vi a1), (2, vi 0), (3, vi 0), (4, vi 0)]) [3, 4, 2, 1, 0] rfl ?_
    refine L_Comp_compose_17 hs (fun v2_2 v3_2 h => ?_) m17 0 0 0 h
    refine z_iload_n dX1_compose_83 rfl 0 rfl ?_
    refine z_iload_n dX1_compose_84 rfl 1 rfl ?_
    refine z_isub dX1_compose_85 ?_
    exact z_iret rfl dX1_compose_86 rfl rfl rfl ⟨_, rfl, hs, h⟩
  · refine z_iconst dX1_compose_8 ?_
    exact z_iret rfl dX1_compose_9 rfl rfl rfl ⟨_, rfl, hs, h⟩
abbrev Y_Comp_lostByAll : Yt := (2, (some .int), yX1_lostByAll.name, { frames := 4, cells := 0, slots := 0, locals := 99 }, 175, 0, 0)
def f_Comp_lostByAll (a1 : Int) (μ : Mem) (k : Int → Mem → Prop) : Prop := f_Comp_choose a1 μ (fun μ_1 => if w (rI μ_1 12654 0) < w 2 then (k (-1) μ_1) else (f_Comp_compose ((w_ishl 1 (rI μ_1 12654 0)) - 1) μ_1 (fun r26 μ_2 => k r26 μ_2)))
theorem i_Comp_lostByAll {l : Launch} {Γ : Gam} {g : Nat} {a1 : Int} {μ : Mem} {k : Int → Mem → Prop} (hs : StatR μ.2.2) (h : f_Comp_lostByAll a1 μ k) : CT l Γ yX1_lostByAll cX1_lostByAll 2 (some .int) 4 99 0 0 [vr Γ 91, vi a1] g 175 μ (pI k) := by
  refine SW.ct (by decide) (Nat.le_of_ble_eq_true rfl) ?_
  refine z_sub (lv' := [(0, vr Γ 91), (1, vi a1)]) [0, 1] rfl ?_
  show SW l Γ yX1_lostByAll.cls cX1_lostByAll Y_Comp_lostByAll (pI k) g 175 0 0 μ 0 [(0, vr Γ 91), (1, vi a1)] []
  unfold f_Comp_lostByAll at h
  refine z_rload_n dX1_lostByAll_0 rfl 0 rfl ?_
  refine z_iload_n dX1_lostByAll_1 rfl 1 rfl ?_
  refine z_VU (i_Comp_choose  hs h) vk_X1_choose kt_91 (Nat.le_of_ble_eq_true rfl) rfl ml_X1_74 ⟨Nat.le_of_ble_eq_true rfl, Nat.le_of_ble_eq_true rfl⟩ ⟨Nat.zero_le _, Nat.zero_le _⟩ rfl rfl (Nat.le_of_ble_eq_true rfl) dX1_lostByAll_2 (fun μ_1 hs h => ?_)
  refine z_rload_n dX1_lostByAll_5 rfl 0 rfl ?_
  refine z_getI (q := 12654) ff_1_6 dX1_lostByAll_6 kt_91 (Nat.le_of_ble_eq_true rfl) fl_X1_54 rfl ?_
  refine z_iconst dX1_lostByAll_9 ?_
  refine z_icmp_ge (tgt := 17) dX1_lostByAll_10 (by decide) h (fun h => ?_) (fun h => ?_)
  · refine z_iconst dX1_lostByAll_13 ?_
    refine z_goto (tgt := 29) dX1_lostByAll_14 (by decide) ?_
    exact z_iret rfl dX1_lostByAll_29 rfl rfl rfl ⟨_, rfl, hs, h⟩
  · refine z_rload_n dX1_lostByAll_17 rfl 0 rfl ?_
    refine z_iconst dX1_lostByAll_18 ?_
    refine z_rload_n dX1_lostByAll_19 rfl 0 rfl ?_
    refine z_getI (q := 12654) ff_1_6 dX1_lostByAll_20 kt_91 (Nat.le_of_ble_eq_true rfl) fl_X1_54 rfl ?_
    refine z_ishl dX1_lostByAll_23 ?_
    refine z_iconst dX1_lostByAll_24 ?_
    refine z_isub dX1_lostByAll_25 ?_
    refine z_VI (i_Comp_compose  hs h) vk_X1_compose kt_91 (Nat.le_of_ble_eq_true rfl) rfl ml_X1_78 ⟨Nat.le_of_ble_eq_true rfl, Nat.le_of_ble_eq_true rfl⟩ ⟨Nat.zero_le _, Nat.zero_le _⟩ rfl rfl (Nat.le_of_ble_eq_true rfl) dX1_lostByAll_26 (fun r26 μ_2 hs h => ?_)
    exact z_iret rfl dX1_lostByAll_29 rfl rfl rfl ⟨_, rfl, hs, h⟩
abbrev Y_H_lost : Yt := (2, (some .int), yX11_lost.name, { frames := 5, cells := 0, slots := 0, locals := 120 }, 175, 0, 0)
def f_H_lost (a1 : Int) (μ : Mem) (k : Int → Mem → Prop) : Prop := f_Comp_lostByAll a1 μ (fun r5 μ_1 => k r5 μ_1)
theorem i_H_lost {l : Launch} {Γ : Gam} {g : Nat} {a1 : Int} {μ : Mem} {k : Int → Mem → Prop} (hs : StatR μ.2.2) (h : f_H_lost a1 μ k) : CT l Γ yX11_lost cX11_lost 2 (some .int) 5 120 0 0 [vr Γ 0, vi a1] g 175 μ (pI k) := by
  refine SW.ct (by decide) (Nat.le_of_ble_eq_true rfl) ?_
  refine z_sub (lv' := [(0, vr Γ 0), (1, vi a1)]) [0, 1] rfl ?_
  show SW l Γ yX11_lost.cls cX11_lost Y_H_lost (pI k) g 175 0 0 μ 0 [(0, vr Γ 0), (1, vi a1)] []
  unfold f_H_lost at h
  refine z_rload_n dX11_lost_0 rfl 0 rfl ?_
  refine z_getR (q := 1008) ff_11_8 dX11_lost_1 kt_0 (Nat.le_of_ble_eq_true rfl) fl_X11_84 rfl (hs.1 _ _ sr_1008) ?_
  refine z_iload_n dX11_lost_4 rfl 1 rfl ?_
  refine z_VI (i_Comp_lostByAll  hs h) vk_X1_lostByAll kt_91 (Nat.le_of_ble_eq_true rfl) rfl ml_X11_315 ⟨Nat.le_of_ble_eq_true rfl, Nat.le_of_ble_eq_true rfl⟩ ⟨Nat.zero_le _, Nat.zero_le _⟩ rfl rfl (Nat.le_of_ble_eq_true rfl) dX11_lost_5 (fun r5 μ_1 hs h => ?_)
  exact z_iret rfl dX11_lost_8 rfl rfl rfl ⟨_, rfl, hs, h⟩
abbrev Y_Comp_make : Yt := (3, (some .int), yX1_make.name, { frames := 3, cells := 0, slots := 0, locals := 67 }, 175, 0, 0)
def l_Comp_make_36 (r22 : Int) (X_36_98 : Mem → Prop) : Nat → Int → Mem → Prop
  | 0, _, _ => False
  | fu36 + 1, v2, μ_3 => if w 60 < w v2 then (X_36_98 μ_3) else (if ((w_lushr (rL μ_3 12655 0) v2) &&& 1) = 0 then ((l_Comp_make_36 r22 X_36_98 fu36) (v2 + 1) μ_3) else (∀ x79 : Int, x79 = (if ((w_lushr (rL μ_3 12656 0) v2) &&& 1) = 0 then (-v2) else v2) → f_Floor_addLine r22 x79 (w_l2i ((w_lushr (rL μ_3 12657 0) v2) &&& 1)) (-1) μ_3 (fun μ_4 => (l_Comp_make_36 r22 X_36_98 fu36) (v2 + 1) μ_4)))
def l_Comp_make_100 (r22 : Int) (X_100_130 : Mem → Prop) : Nat → Int → Mem → Prop
  | 0, _, _ => False
  | fu100 + 1, v2_1, μ_6 => if w v2_1 < w (rI μ_6 12654 0) then (f_Floor_closeMotion (at' μ_6 92 8 v2_1) 4 μ_6 (fun μ_7 => (l_Comp_make_100 r22 X_100_130 fu100) (v2_1 + 1) μ_7)) else (X_100_130 μ_6)
def f_Comp_make  (μ : Mem) (k : Int → Mem → Prop) : Prop := f_Papers_addMotion (at' μ 13 24 (at' μ 92 8 0)) μ (fun r22 μ_1 => f_Floor_bring r22 μ_1 (fun μ_2 => ∃ m36 : Nat, l_Comp_make_36 r22 (fun (μ_5 : Mem) => ∃ m100 : Nat, l_Comp_make_100 r22 (fun (μ_8 : Mem) => k r22 μ_8) m100 0 μ_5) m36 1 μ_2))
theorem L_Comp_make_36 {l : Launch} {Γ : Gam} {g : Nat} {r22 : Int} {X_36_98 : Mem → Prop} {k : Int → Mem → Prop} (hX_36_98 : ∀ (ν : Mem), StatR ν.2.2 → X_36_98 ν → SW l Γ yX1_make.cls cX1_make Y_Comp_make (pI k) g 175 0 0 ν 98 [(0, vr Γ 91), (1, vi r22)] []) (n9 : Nat) : ∀ (v2 : Int) (μ_3 : Mem), StatR μ_3.2.2 → l_Comp_make_36 r22 X_36_98 n9 v2 μ_3 → SW l Γ yX1_make.cls cX1_make Y_Comp_make (pI k) g 175 0 0 μ_3 36 [(0, vr Γ 91), (1, vi r22), (2, vi v2)] [] := by
  induction n9 with
  | zero =>
    intro v2 μ_3 hs h
    exact h.elim
  | succ n9 hR_36 =>
    intro v2 μ_3 hs h
    rw [l_Comp_make_36] at h
    refine z_iload_n dX1_make_36 rfl 2 rfl ?_
    refine z_bipush dX1_make_37 (by decide) ?_
    refine z_icmp_gt (tgt := 98) dX1_make_39 (by decide) h (fun h => ?_) (fun h => ?_)
    · refine z_sub (lv' := [(0, vr Γ 91), (1, vi r22)]) [0, 1] rfl ?_
      exact hX_36_98 μ_3 hs h
    · refine z_rload_n dX1_make_42 rfl 0 rfl ?_
      refine z_getJ (q := 12655) ff_1_7 dX1_make_43 kt_91 (Nat.le_of_ble_eq_true rfl) fl_X1_95 rfl ?_
      refine z_iload_n dX1_make_46 rfl 2 rfl ?_
      refine z_lushr dX1_make_47 ?_
      refine z_lconst (v := 1) dX1_make_48 rfl ?_
      refine z_land dX1_make_49 ?_
      refine z_lconst (v := 0) dX1_make_50 rfl ?_
      refine z_lcmp_eq (tgt := 92) dX1_make_51 dX1_make_52 (by decide) h (fun h => ?_) (fun h => ?_)
      · refine z_iinc (j := 2) (lv' := [(2, vi (v2 + 1)), (0, vr Γ 91), (1, vi r22)]) dX1_make_92 rfl (Nat.le_of_ble_eq_true rfl) rfl ?_
        refine z_goto (tgt := 36) dX1_make_95 (by decide) ?_
        refine z_sub (lv' := [(0, vr Γ 91), (1, vi r22), (2, vi (v2 + 1))]) [1, 2, 0] rfl ?_
        exact hR_36 (v2 + 1) μ_3 hs h
      · refine z_rload_n dX1_make_55 rfl 0 rfl ?_
        refine z_getR (q := 12649) ff_1_1 dX1_make_56 kt_91 (Nat.le_of_ble_eq_true rfl) fl_X1_44 rfl (hs.1 _ _ sr_12649) ?_
        refine z_iload_n dX1_make_59 rfl 1 rfl ?_
        refine z_rload_n dX1_make_60 rfl 0 rfl ?_
        refine z_getJ (q := 12656) ff_1_8 dX1_make_61 kt_91 (Nat.le_of_ble_eq_true rfl) fl_X1_113 rfl ?_
        refine z_iload_n dX1_make_64 rfl 2 rfl ?_
        refine z_lushr dX1_make_65 ?_
        refine z_lconst (v := 1) dX1_make_66 rfl ?_
        refine z_land dX1_make_67 ?_
        refine z_lconst (v := 0) dX1_make_68 rfl ?_
        refine z_phi 79 [vi r22, vr Γ 67] (fun V9 hv J9 => ?_) h (fun x79 h => ?_)
        · refine z_lcmp_eq (tgt := 77) dX1_make_69 dX1_make_70 (by decide) (eq_ite hv) (fun hv => ?_) (fun hv => ?_)
          · refine z_iload_n dX1_make_77 rfl 2 rfl ?_
            refine z_ineg dX1_make_78 ?_
            exact J9 _ hv.symm
          · refine z_iload_n dX1_make_73 rfl 2 rfl ?_
            refine z_goto (tgt := 79) dX1_make_74 (by decide) ?_
            exact J9 _ hv.symm
        · refine z_rload_n dX1_make_79 rfl 0 rfl ?_
          refine z_getJ (q := 12657) ff_1_9 dX1_make_80 kt_91 (Nat.le_of_ble_eq_true rfl) fl_X1_116 rfl ?_
          refine z_iload_n dX1_make_83 rfl 2 rfl ?_
          refine z_lushr dX1_make_84 ?_
          refine z_lconst (v := 1) dX1_make_85 rfl ?_
          refine z_land dX1_make_86 ?_
          refine z_l2i dX1_make_87 ?_
          refine z_iconst dX1_make_88 ?_
          refine z_VU (i_Floor_addLine  hs h) vk_X3_addLine kt_67 (Nat.le_of_ble_eq_true rfl) rfl ml_X1_137 ⟨Nat.le_of_ble_eq_true rfl, Nat.le_of_ble_eq_true rfl⟩ ⟨Nat.zero_le _, Nat.zero_le _⟩ rfl rfl (Nat.le_of_ble_eq_true rfl) dX1_make_89 (fun μ_4 hs h => ?_)
          refine z_iinc (j := 2) (lv' := [(2, vi (v2 + 1)), (0, vr Γ 91), (1, vi r22)]) dX1_make_92 rfl (Nat.le_of_ble_eq_true rfl) rfl ?_
          refine z_goto (tgt := 36) dX1_make_95 (by decide) ?_
          refine z_sub (lv' := [(0, vr Γ 91), (1, vi r22), (2, vi (v2 + 1))]) [1, 2, 0] rfl ?_
          exact hR_36 (v2 + 1) μ_4 hs h
theorem L_Comp_make_100 {l : Launch} {Γ : Gam} {g : Nat} {r22 : Int} {X_100_130 : Mem → Prop} {k : Int → Mem → Prop} (hX_100_130 : ∀ (ν : Mem), StatR ν.2.2 → X_100_130 ν → SW l Γ yX1_make.cls cX1_make Y_Comp_make (pI k) g 175 0 0 ν 130 [(1, vi r22)] []) (n9 : Nat) : ∀ (v2_1 : Int) (μ_6 : Mem), StatR μ_6.2.2 → l_Comp_make_100 r22 X_100_130 n9 v2_1 μ_6 → SW l Γ yX1_make.cls cX1_make Y_Comp_make (pI k) g 175 0 0 μ_6 100 [(0, vr Γ 91), (1, vi r22), (2, vi v2_1)] [] := by
  induction n9 with
  | zero =>
    intro v2_1 μ_6 hs h
    exact h.elim
  | succ n9 hR_100 =>
    intro v2_1 μ_6 hs h
    rw [l_Comp_make_100] at h
    refine z_iload_n dX1_make_100 rfl 2 rfl ?_
    refine z_rload_n dX1_make_101 rfl 0 rfl ?_
    refine z_getI (q := 12654) ff_1_6 dX1_make_102 kt_91 (Nat.le_of_ble_eq_true rfl) fl_X1_54 rfl ?_
    refine z_icmp_ge (tgt := 130) dX1_make_105 (by decide) h (fun h => ?_) (fun h => ?_)
    · refine z_rload_n dX1_make_108 rfl 0 rfl ?_
      refine z_getR (q := 12649) ff_1_1 dX1_make_109 kt_91 (Nat.le_of_ble_eq_true rfl) fl_X1_44 rfl (hs.1 _ _ sr_12649) ?_
      refine z_rload_n dX1_make_112 rfl 0 rfl ?_
      refine z_getR (q := 12650) ff_1_2 dX1_make_113 kt_91 (Nat.le_of_ble_eq_true rfl) fl_X1_9 rfl (hs.1 _ _ sr_12650) ?_
      refine z_iload_n dX1_make_116 rfl 2 rfl ?_
      refine z_NE (i_X11_at kt_92 (Nat.le_of_ble_eq_true rfl)) ok_X11_at nw_X1_58 ⟨Nat.le_of_ble_eq_true rfl, Nat.le_of_ble_eq_true rfl⟩ ⟨Nat.zero_le _, Nat.zero_le _⟩ rfl rfl (Nat.le_of_ble_eq_true rfl) dX1_make_117 ?_
      refine z_iconst dX1_make_120 ?_
      refine z_VU (i_Floor_closeMotion  hs h) vk_X3_closeMotion kt_67 (Nat.le_of_ble_eq_true rfl) rfl ml_X1_141 ⟨Nat.le_of_ble_eq_true rfl, Nat.le_of_ble_eq_true rfl⟩ ⟨Nat.zero_le _, Nat.zero_le _⟩ rfl rfl (Nat.le_of_ble_eq_true rfl) dX1_make_121 (fun μ_7 hs h => ?_)
      refine z_iinc (j := 2) (lv' := [(2, vi (v2_1 + 1)), (0, vr Γ 91), (1, vi r22)]) dX1_make_124 rfl (Nat.le_of_ble_eq_true rfl) rfl ?_
      refine z_goto (tgt := 100) dX1_make_127 (by decide) ?_
      refine z_sub (lv' := [(0, vr Γ 91), (1, vi r22), (2, vi (v2_1 + 1))]) [1, 2, 0] rfl ?_
      exact hR_100 (v2_1 + 1) μ_7 hs h
    · refine z_sub (lv' := [(1, vi r22)]) [1] rfl ?_
      exact hX_100_130 μ_6 hs h
theorem i_Comp_make {l : Launch} {Γ : Gam} {g : Nat} {μ : Mem} {k : Int → Mem → Prop} (hs : StatR μ.2.2) (h : f_Comp_make  μ k) : CT l Γ yX1_make cX1_make 3 (some .int) 3 67 0 0 [vr Γ 91] g 175 μ (pI k) := by
  refine SW.ct (by decide) (Nat.le_of_ble_eq_true rfl) ?_
  refine z_sub (lv' := [(0, vr Γ 91)]) [0] rfl ?_
  show SW l Γ yX1_make.cls cX1_make Y_Comp_make (pI k) g 175 0 0 μ 0 [(0, vr Γ 91)] []
  unfold f_Comp_make at h
  refine z_rload_n dX1_make_0 rfl 0 rfl ?_
  refine z_getR (q := 12648) ff_1_0 dX1_make_1 kt_91 (Nat.le_of_ble_eq_true rfl) fl_X1_40 rfl (hs.1 _ _ sr_12648) ?_
  refine z_rload_n dX1_make_4 rfl 0 rfl ?_
  refine z_getR (q := 12648) ff_1_0 dX1_make_5 kt_91 (Nat.le_of_ble_eq_true rfl) fl_X1_40 rfl (hs.1 _ _ sr_12648) ?_
  refine z_getR (q := 2536) ff_6_0 dX1_make_8 kt_12 (Nat.le_of_ble_eq_true rfl) fl_X1_128 rfl (hs.1 _ _ sr_2536) ?_
  refine z_rload_n dX1_make_11 rfl 0 rfl ?_
  refine z_getR (q := 12650) ff_1_2 dX1_make_12 kt_91 (Nat.le_of_ble_eq_true rfl) fl_X1_9 rfl (hs.1 _ _ sr_12650) ?_
  refine z_iconst dX1_make_15 ?_
  refine z_NE (i_X11_at kt_92 (Nat.le_of_ble_eq_true rfl)) ok_X11_at nw_X1_58 ⟨Nat.le_of_ble_eq_true rfl, Nat.le_of_ble_eq_true rfl⟩ ⟨Nat.zero_le _, Nat.zero_le _⟩ rfl rfl (Nat.le_of_ble_eq_true rfl) dX1_make_16 ?_
  refine z_NE (i_X11_at kt_13 (Nat.le_of_ble_eq_true rfl)) ok_X11_at nw_X1_58 ⟨Nat.le_of_ble_eq_true rfl, Nat.le_of_ble_eq_true rfl⟩ ⟨Nat.zero_le _, Nat.zero_le _⟩ rfl rfl (Nat.le_of_ble_eq_true rfl) dX1_make_19 ?_
  refine z_VI (i_Papers_addMotion  hs h) vk_X6_addMotion kt_12 (Nat.le_of_ble_eq_true rfl) rfl ml_X1_131 ⟨Nat.le_of_ble_eq_true rfl, Nat.le_of_ble_eq_true rfl⟩ ⟨Nat.zero_le _, Nat.zero_le _⟩ rfl rfl (Nat.le_of_ble_eq_true rfl) dX1_make_22 (fun r22 μ_1 hs h => ?_)
  refine z_istore_n (lv' := [(1, vi r22), (0, vr Γ 91)]) dX1_make_25 rfl (Nat.le_of_ble_eq_true rfl) rfl ?_
  refine z_rload_n dX1_make_26 rfl 1 rfl ?_
  refine z_getR (q := 12649) ff_1_1 dX1_make_27 kt_91 (Nat.le_of_ble_eq_true rfl) fl_X1_44 rfl (hs.1 _ _ sr_12649) ?_
  refine z_iload_n dX1_make_30 rfl 0 rfl ?_
  refine z_VU (i_Floor_bring  hs h) vk_X3_bring kt_67 (Nat.le_of_ble_eq_true rfl) rfl ml_X1_134 ⟨Nat.le_of_ble_eq_true rfl, Nat.le_of_ble_eq_true rfl⟩ ⟨Nat.zero_le _, Nat.zero_le _⟩ rfl rfl (Nat.le_of_ble_eq_true rfl) dX1_make_31 (fun μ_2 hs h => ?_)
  refine z_iconst dX1_make_34 ?_
  refine z_istore_n (lv' := [(2, vi 1), (1, vi r22), (0, vr Γ 91)]) dX1_make_35 rfl (Nat.le_of_ble_eq_true rfl) rfl ?_
  obtain ⟨m36, h⟩ := h
  refine z_sub (lv' := [(0, vr Γ 91), (1, vi r22), (2, vi 1)]) [2, 1, 0] rfl ?_
  refine L_Comp_make_36 (fun μ_5 hs h => ?_) m36 1 μ_2 hs h
  refine z_iconst dX1_make_98 ?_
  refine z_istore_n (lv' := [(2, vi 0), (0, vr Γ 91), (1, vi r22)]) dX1_make_99 rfl (Nat.le_of_ble_eq_true rfl) rfl ?_
  obtain ⟨m100, h⟩ := h
  refine z_sub (lv' := [(0, vr Γ 91), (1, vi r22), (2, vi 0)]) [1, 2, 0] rfl ?_
  refine L_Comp_make_100 (fun μ_8 hs h => ?_) m100 0 μ_5 hs h
  refine z_iload_n dX1_make_130 rfl 0 rfl ?_
  exact z_iret rfl dX1_make_131 rfl rfl rfl ⟨_, rfl, hs, h⟩
abbrev Y_H_composite : Yt := (2, (some .int), yX11_composite.name, { frames := 5, cells := 0, slots := 0, locals := 120 }, 175, 0, 0)
def f_H_composite (a1 : Int) (μ : Mem) (k : Int → Mem → Prop) : Prop := if w (rI μ 2543 0) < w 24 then (f_Comp_lostByAll a1 μ (fun r17 μ_1 => if w r17 = w (-1) then (k (-1) μ_1) else (f_Chair_closeLatest  μ_1 (fun μ_2 => f_Comp_make  μ_2 (fun r37 μ_3 => k r37 μ_3))))) else (k (-1) μ)
theorem i_H_composite {l : Launch} {Γ : Gam} {g : Nat} {a1 : Int} {μ : Mem} {k : Int → Mem → Prop} (hs : StatR μ.2.2) (h : f_H_composite a1 μ k) : CT l Γ yX11_composite cX11_composite 2 (some .int) 5 120 0 0 [vr Γ 0, vi a1] g 175 μ (pI k) := by
  refine SW.ct (by decide) (Nat.le_of_ble_eq_true rfl) ?_
  refine z_sub (lv' := [(0, vr Γ 0), (1, vi a1)]) [0, 1] rfl ?_
  show SW l Γ yX11_composite.cls cX11_composite Y_H_composite (pI k) g 175 0 0 μ 0 [(0, vr Γ 0), (1, vi a1)] []
  unfold f_H_composite at h
  refine z_rload_n dX11_composite_0 rfl 0 rfl ?_
  refine z_getR (q := 1004) ff_11_4 dX11_composite_1 kt_0 (Nat.le_of_ble_eq_true rfl) fl_X11_26 rfl (hs.1 _ _ sr_1004) ?_
  refine z_getI (q := 2543) ff_6_7 dX11_composite_4 kt_12 (Nat.le_of_ble_eq_true rfl) fl_X11_183 rfl ?_
  refine z_bipush dX11_composite_7 (by decide) ?_
  refine z_icmp_ge (tgt := 24) dX11_composite_9 (by decide) h (fun h => ?_) (fun h => ?_)
  · refine z_rload_n dX11_composite_12 rfl 0 rfl ?_
    refine z_getR (q := 1008) ff_11_8 dX11_composite_13 kt_0 (Nat.le_of_ble_eq_true rfl) fl_X11_84 rfl (hs.1 _ _ sr_1008) ?_
    refine z_iload_n dX11_composite_16 rfl 1 rfl ?_
    refine z_VI (i_Comp_lostByAll  hs h) vk_X1_lostByAll kt_91 (Nat.le_of_ble_eq_true rfl) rfl ml_X11_315 ⟨Nat.le_of_ble_eq_true rfl, Nat.le_of_ble_eq_true rfl⟩ ⟨Nat.zero_le _, Nat.zero_le _⟩ rfl rfl (Nat.le_of_ble_eq_true rfl) dX11_composite_17 (fun r17 μ_1 hs h => ?_)
    refine z_iconst dX11_composite_20 ?_
    refine z_icmp_ne (tgt := 26) dX11_composite_21 (by decide) h (fun h => ?_) (fun h => ?_)
    · refine z_iconst dX11_composite_24 ?_
      exact z_iret rfl dX11_composite_25 rfl rfl rfl ⟨_, rfl, hs, h⟩
    · refine z_rload_n dX11_composite_26 rfl 0 rfl ?_
      refine z_getR (q := 1007) ff_11_7 dX11_composite_27 kt_0 (Nat.le_of_ble_eq_true rfl) fl_X11_75 rfl (hs.1 _ _ sr_1007) ?_
      refine z_VU (i_Chair_closeLatest  hs h) vk_X0_closeLatest kt_83 (Nat.le_of_ble_eq_true rfl) rfl ml_X11_180 ⟨Nat.le_of_ble_eq_true rfl, Nat.le_of_ble_eq_true rfl⟩ ⟨Nat.zero_le _, Nat.zero_le _⟩ rfl rfl (Nat.le_of_ble_eq_true rfl) dX11_composite_30 (fun μ_2 hs h => ?_)
      refine z_rload_n dX11_composite_33 rfl 0 rfl ?_
      refine z_getR (q := 1008) ff_11_8 dX11_composite_34 kt_0 (Nat.le_of_ble_eq_true rfl) fl_X11_84 rfl (hs.1 _ _ sr_1008) ?_
      refine z_VI (i_Comp_make  hs h) vk_X1_make kt_91 (Nat.le_of_ble_eq_true rfl) rfl ml_X11_318 ⟨Nat.le_of_ble_eq_true rfl, Nat.le_of_ble_eq_true rfl⟩ ⟨Nat.zero_le _, Nat.zero_le _⟩ rfl rfl (Nat.le_of_ble_eq_true rfl) dX11_composite_37 (fun r37 μ_3 hs h => ?_)
      exact z_iret rfl dX11_composite_40 rfl rfl rfl ⟨_, rfl, hs, h⟩
  · refine z_iconst dX11_composite_24 ?_
    exact z_iret rfl dX11_composite_25 rfl rfl rfl ⟨_, rfl, hs, h⟩
abbrev Y_Comp_groupsAhead : Yt := (4, (some .int), yX1_groupsAhead.name, { frames := 1, cells := 0, slots := 0, locals := 21 }, 175, 0, 0)
def l_Comp_groupsAhead_4 (a1 : Int) (μ : Mem) (X_4_30 : Int → Prop) : Nat → Int → Int → Prop
  | 0, _, _ => False
  | fu4 + 1, v2, v3 => if w v3 < w a1 then (∀ v2_1 : Int, v2_1 = w_max v2 ((at' μ 99 8 v3) + 1) → (l_Comp_groupsAhead_4 a1 μ X_4_30 fu4) v2_1 (v3 + 1)) else (X_4_30 v2)
def f_Comp_groupsAhead (a1 : Int) (μ : Mem) (k : Int → Mem → Prop) : Prop := ∃ m4 : Nat, l_Comp_groupsAhead_4 a1 μ (fun (v2_2 : Int) => k v2_2 μ) m4 0 0
theorem L_Comp_groupsAhead_4 {l : Launch} {Γ : Gam} {g : Nat} {a1 : Int} {μ : Mem} {X_4_30 : Int → Prop} {k : Int → Mem → Prop} (hs : StatR μ.2.2) (hX_4_30 : ∀ (u2 : Int), X_4_30 u2 → SW l Γ yX1_groupsAhead.cls cX1_groupsAhead Y_Comp_groupsAhead (pI k) g 175 0 0 μ 30 [(2, vi u2)] []) (n9 : Nat) : ∀ (v2 : Int) (v3 : Int), l_Comp_groupsAhead_4 a1 μ X_4_30 n9 v2 v3 → SW l Γ yX1_groupsAhead.cls cX1_groupsAhead Y_Comp_groupsAhead (pI k) g 175 0 0 μ 4 [(0, vr Γ 91), (1, vi a1), (2, vi v2), (3, vi v3)] [] := by
  induction n9 with
  | zero =>
    intro v2 v3 h
    exact h.elim
  | succ n9 hR_4 =>
    intro v2 v3 h
    rw [l_Comp_groupsAhead_4] at h
    refine z_iload_n dX1_groupsAhead_4 rfl 3 rfl ?_
    refine z_iload_n dX1_groupsAhead_5 rfl 1 rfl ?_
    refine z_icmp_ge (tgt := 30) dX1_groupsAhead_6 (by decide) h (fun h => ?_) (fun h => ?_)
    · refine z_iload_n dX1_groupsAhead_9 rfl 2 rfl ?_
      refine z_rload_n dX1_groupsAhead_10 rfl 0 rfl ?_
      refine z_getR (q := 12661) ff_1_13 dX1_groupsAhead_11 kt_91 (Nat.le_of_ble_eq_true rfl) fl_X1_34 rfl (hs.1 _ _ sr_12661) ?_
      refine z_iload_n dX1_groupsAhead_14 rfl 3 rfl ?_
      refine z_NE (i_X11_at kt_99 (Nat.le_of_ble_eq_true rfl)) ok_X11_at nw_X1_58 ⟨Nat.le_of_ble_eq_true rfl, Nat.le_of_ble_eq_true rfl⟩ ⟨Nat.zero_le _, Nat.zero_le _⟩ rfl rfl (Nat.le_of_ble_eq_true rfl) dX1_groupsAhead_15 ?_
      refine z_iconst dX1_groupsAhead_18 ?_
      refine z_iadd dX1_groupsAhead_19 ?_
      refine z_max dX1_groupsAhead_20 mm_X1_172 ms_max mi_math mc_max ⟨Nat.le_of_ble_eq_true rfl, Nat.le_of_ble_eq_true rfl⟩ ⟨Nat.zero_le _, Nat.zero_le _⟩ ?_
      refine z_nm (fun v2_1 ev2_1 => ?_)
      replace h := h v2_1 ev2_1
      refine z_istore_n (lv' := [(2, vi v2_1), (0, vr Γ 91), (1, vi a1), (3, vi v3)]) dX1_groupsAhead_23 rfl (Nat.le_of_ble_eq_true rfl) rfl ?_
      refine z_iinc (j := 3) (lv' := [(3, vi (v3 + 1)), (2, vi v2_1), (0, vr Γ 91), (1, vi a1)]) dX1_groupsAhead_24 rfl (Nat.le_of_ble_eq_true rfl) rfl ?_
      refine z_goto (tgt := 4) dX1_groupsAhead_27 (by decide) ?_
      refine z_sub (lv' := [(0, vr Γ 91), (1, vi a1), (2, vi v2_1), (3, vi (v3 + 1))]) [2, 3, 1, 0] rfl ?_
      exact hR_4 v2_1 (v3 + 1) h
    · refine z_sub (lv' := [(2, vi v2)]) [2] rfl ?_
      exact hX_4_30 v2 h
theorem i_Comp_groupsAhead {l : Launch} {Γ : Gam} {g : Nat} {a1 : Int} {μ : Mem} {k : Int → Mem → Prop} (hs : StatR μ.2.2) (h : f_Comp_groupsAhead a1 μ k) : CT l Γ yX1_groupsAhead cX1_groupsAhead 4 (some .int) 1 21 0 0 [vr Γ 91, vi a1] g 175 μ (pI k) := by
  refine SW.ct (by decide) (Nat.le_of_ble_eq_true rfl) ?_
  refine z_sub (lv' := [(0, vr Γ 91), (1, vi a1)]) [0, 1] rfl ?_
  show SW l Γ yX1_groupsAhead.cls cX1_groupsAhead Y_Comp_groupsAhead (pI k) g 175 0 0 μ 0 [(0, vr Γ 91), (1, vi a1)] []
  unfold f_Comp_groupsAhead at h
  refine z_iconst dX1_groupsAhead_0 ?_
  refine z_istore_n (lv' := [(2, vi 0), (0, vr Γ 91), (1, vi a1)]) dX1_groupsAhead_1 rfl (Nat.le_of_ble_eq_true rfl) rfl ?_
  refine z_iconst dX1_groupsAhead_2 ?_
  refine z_istore_n (lv' := [(3, vi 0), (2, vi 0), (0, vr Γ 91), (1, vi a1)]) dX1_groupsAhead_3 rfl (Nat.le_of_ble_eq_true rfl) rfl ?_
  obtain ⟨m4, h⟩ := h
  refine z_sub (lv' := [(0, vr Γ 91), (1, vi a1), (2, vi 0), (3, vi 0)]) [2, 3, 1, 0] rfl ?_
  refine L_Comp_groupsAhead_4 hs (fun v2_2 h => ?_) m4 0 0 h
  refine z_iload_n dX1_groupsAhead_30 rfl 0 rfl ?_
  exact z_iret rfl dX1_groupsAhead_31 rfl rfl rfl ⟨_, rfl, hs, h⟩
abbrev Y_Comp_lostByGroups : Yt := (4, (some .int), yX1_lostByGroups.name, { frames := 1, cells := 0, slots := 0, locals := 22 }, 175, 0, 0)
def l_Comp_lostByGroups_10 (X_10_53 : Mem → Prop) : Nat → Int → Mem → Prop
  | 0, _, _ => False
  | fu10 + 1, v1, μ_2 => if w v1 < w (rI μ_2 12654 0) then (∀ v2 : Int, v2 = at' μ_2 99 8 v1 → ∀ μ_3 : Mem, μ_3 = set' μ_2 98 8 v2 (w_ior (at' μ_2 98 8 v2) (w_ishl 1 v1)) → (l_Comp_lostByGroups_10 X_10_53 fu10) (v1 + 1) μ_3) else (X_10_53 μ_2)
def l_Comp_lostByGroups_57 (μ_4 : Mem) (k : Int → Mem → Prop) : Nat → Int → Int → Prop
  | 0, _, _ => False
  | fu57 + 1, v1_1, v2_1 => if w v2_1 < w ((8 : Nat) : Int) then (∀ v3 : Int, v3 = at' μ_4 97 256 (at' μ_4 98 8 v2_1) → if w v3 = w (-1) then (k (-1) μ_4) else (∀ v1_2 : Int, v1_2 = v1_1 + v3 → (l_Comp_lostByGroups_57 μ_4 k fu57) v1_2 (v2_1 + 1))) else (k v1_1 μ_4)
def f_Comp_lostByGroups  (μ : Mem) (k : Int → Mem → Prop) : Prop := f_H_fill 98 8 0 μ (fun μ_1 => ∃ m10 : Nat, l_Comp_lostByGroups_10 (fun (μ_4 : Mem) => ∃ m57 : Nat, l_Comp_lostByGroups_57 μ_4 k m57 0 0) m10 0 μ_1)
theorem L_Comp_lostByGroups_10 {l : Launch} {Γ : Gam} {g : Nat} {X_10_53 : Mem → Prop} {k : Int → Mem → Prop} (hX_10_53 : ∀ (ν : Mem), StatR ν.2.2 → X_10_53 ν → SW l Γ yX1_lostByGroups.cls cX1_lostByGroups Y_Comp_lostByGroups (pI k) g 175 0 0 ν 53 [(0, vr Γ 91)] []) (n9 : Nat) : ∀ (v1 : Int) (μ_2 : Mem), StatR μ_2.2.2 → l_Comp_lostByGroups_10 X_10_53 n9 v1 μ_2 → SW l Γ yX1_lostByGroups.cls cX1_lostByGroups Y_Comp_lostByGroups (pI k) g 175 0 0 μ_2 10 [(0, vr Γ 91), (1, vi v1)] [] := by
  induction n9 with
  | zero =>
    intro v1 μ_2 hs h
    exact h.elim
  | succ n9 hR_10 =>
    intro v1 μ_2 hs h
    rw [l_Comp_lostByGroups_10] at h
    refine z_iload_n dX1_lostByGroups_10 rfl 1 rfl ?_
    refine z_rload_n dX1_lostByGroups_11 rfl 0 rfl ?_
    refine z_getI (q := 12654) ff_1_6 dX1_lostByGroups_12 kt_91 (Nat.le_of_ble_eq_true rfl) fl_X1_54 rfl ?_
    refine z_icmp_ge (tgt := 53) dX1_lostByGroups_15 (by decide) h (fun h => ?_) (fun h => ?_)
    · refine z_rload_n dX1_lostByGroups_18 rfl 0 rfl ?_
      refine z_getR (q := 12661) ff_1_13 dX1_lostByGroups_19 kt_91 (Nat.le_of_ble_eq_true rfl) fl_X1_34 rfl (hs.1 _ _ sr_12661) ?_
      refine z_iload_n dX1_lostByGroups_22 rfl 1 rfl ?_
      refine z_NE (i_X11_at kt_99 (Nat.le_of_ble_eq_true rfl)) ok_X11_at nw_X1_58 ⟨Nat.le_of_ble_eq_true rfl, Nat.le_of_ble_eq_true rfl⟩ ⟨Nat.zero_le _, Nat.zero_le _⟩ rfl rfl (Nat.le_of_ble_eq_true rfl) dX1_lostByGroups_23 ?_
      refine z_nm (fun v2 ev2 => ?_)
      replace h := h v2 ev2
      refine z_istore_n (lv' := [(2, vi v2), (0, vr Γ 91), (1, vi v1)]) dX1_lostByGroups_26 rfl (Nat.le_of_ble_eq_true rfl) rfl ?_
      refine z_rload_n dX1_lostByGroups_27 rfl 1 rfl ?_
      refine z_getR (q := 12660) ff_1_12 dX1_lostByGroups_28 kt_91 (Nat.le_of_ble_eq_true rfl) fl_X1_31 rfl (hs.1 _ _ sr_12660) ?_
      refine z_iload_n dX1_lostByGroups_31 rfl 0 rfl ?_
      refine z_rload_n dX1_lostByGroups_32 rfl 1 rfl ?_
      refine z_getR (q := 12660) ff_1_12 dX1_lostByGroups_33 kt_91 (Nat.le_of_ble_eq_true rfl) fl_X1_31 rfl (hs.1 _ _ sr_12660) ?_
      refine z_iload_n dX1_lostByGroups_36 rfl 0 rfl ?_
      refine z_NE (i_X11_at kt_98 (Nat.le_of_ble_eq_true rfl)) ok_X11_at nw_X1_58 ⟨Nat.le_of_ble_eq_true rfl, Nat.le_of_ble_eq_true rfl⟩ ⟨Nat.zero_le _, Nat.zero_le _⟩ rfl rfl (Nat.le_of_ble_eq_true rfl) dX1_lostByGroups_37 ?_
      refine z_iconst dX1_lostByGroups_40 ?_
      refine z_iload_n dX1_lostByGroups_41 rfl 2 rfl ?_
      refine z_ishl dX1_lostByGroups_42 ?_
      refine z_ior dX1_lostByGroups_43 ?_
      refine z_NM (i_X11_set kt_98 (Nat.le_of_ble_eq_true rfl)) ok_X11_set nw_X1_149 ⟨Nat.le_of_ble_eq_true rfl, Nat.le_of_ble_eq_true rfl⟩ ⟨Nat.zero_le _, Nat.zero_le _⟩ rfl rfl (Nat.le_of_ble_eq_true rfl) dX1_lostByGroups_44 ?_
      refine z_mm (fun μ_3 eμ_3 => ?_)
      replace h := h μ_3 eμ_3
      replace hs : StatR μ_3.2.2 := by rw [eμ_3]; exact (StatR.set hs)
      refine z_iinc (j := 2) (lv' := [(1, vi (v1 + 1)), (2, vi v2), (0, vr Γ 91)]) dX1_lostByGroups_47 rfl (Nat.le_of_ble_eq_true rfl) rfl ?_
      refine z_goto (tgt := 10) dX1_lostByGroups_50 (by decide) ?_
      refine z_sub (lv' := [(0, vr Γ 91), (1, vi (v1 + 1))]) [2, 0] rfl ?_
      exact hR_10 (v1 + 1) μ_3 hs h
    · refine z_sub (lv' := [(0, vr Γ 91)]) [0] rfl ?_
      exact hX_10_53 μ_2 hs h
theorem L_Comp_lostByGroups_57 {l : Launch} {Γ : Gam} {g : Nat} {μ_4 : Mem} {k : Int → Mem → Prop} (hs : StatR μ_4.2.2) (n9 : Nat) : ∀ (v1_1 : Int) (v2_1 : Int), l_Comp_lostByGroups_57 μ_4 k n9 v1_1 v2_1 → SW l Γ yX1_lostByGroups.cls cX1_lostByGroups Y_Comp_lostByGroups (pI k) g 175 0 0 μ_4 57 [(0, vr Γ 91), (1, vi v1_1), (2, vi v2_1)] [] := by
  induction n9 with
  | zero =>
    intro v1_1 v2_1 h
    exact h.elim
  | succ n9 hR_57 =>
    intro v1_1 v2_1 h
    rw [l_Comp_lostByGroups_57] at h
    refine z_iload_n dX1_lostByGroups_57 rfl 2 rfl ?_
    refine z_rload_n dX1_lostByGroups_58 rfl 0 rfl ?_
    refine z_getR (q := 12660) ff_1_12 dX1_lostByGroups_59 kt_91 (Nat.le_of_ble_eq_true rfl) fl_X1_31 rfl (hs.1 _ _ sr_12660) ?_
    refine z_alen dX1_lostByGroups_62 kt_98 (by decide) (Nat.le_of_ble_eq_true rfl) ?_
    refine z_icmp_ge (tgt := 99) dX1_lostByGroups_63 (by decide) h (fun h => ?_) (fun h => ?_)
    · refine z_rload_n dX1_lostByGroups_66 rfl 0 rfl ?_
      refine z_getR (q := 12659) ff_1_11 dX1_lostByGroups_67 kt_91 (Nat.le_of_ble_eq_true rfl) fl_X1_28 rfl (hs.1 _ _ sr_12659) ?_
      refine z_rload_n dX1_lostByGroups_70 rfl 0 rfl ?_
      refine z_getR (q := 12660) ff_1_12 dX1_lostByGroups_71 kt_91 (Nat.le_of_ble_eq_true rfl) fl_X1_31 rfl (hs.1 _ _ sr_12660) ?_
      refine z_iload_n dX1_lostByGroups_74 rfl 2 rfl ?_
      refine z_NE (i_X11_at kt_98 (Nat.le_of_ble_eq_true rfl)) ok_X11_at nw_X1_58 ⟨Nat.le_of_ble_eq_true rfl, Nat.le_of_ble_eq_true rfl⟩ ⟨Nat.zero_le _, Nat.zero_le _⟩ rfl rfl (Nat.le_of_ble_eq_true rfl) dX1_lostByGroups_75 ?_
      refine z_NE (i_X11_at kt_97 (Nat.le_of_ble_eq_true rfl)) ok_X11_at nw_X1_58 ⟨Nat.le_of_ble_eq_true rfl, Nat.le_of_ble_eq_true rfl⟩ ⟨Nat.zero_le _, Nat.zero_le _⟩ rfl rfl (Nat.le_of_ble_eq_true rfl) dX1_lostByGroups_78 ?_
      refine z_nm (fun v3 ev3 => ?_)
      replace h := h v3 ev3
      refine z_istore_n (lv' := [(3, vi v3), (0, vr Γ 91), (1, vi v1_1), (2, vi v2_1)]) dX1_lostByGroups_81 rfl (Nat.le_of_ble_eq_true rfl) rfl ?_
      refine z_iload_n dX1_lostByGroups_82 rfl 0 rfl ?_
      refine z_iconst dX1_lostByGroups_83 ?_
      refine z_icmp_ne (tgt := 89) dX1_lostByGroups_84 (by decide) h (fun h => ?_) (fun h => ?_)
      · refine z_iconst dX1_lostByGroups_87 ?_
        exact z_iret rfl dX1_lostByGroups_88 rfl rfl rfl ⟨_, rfl, hs, h⟩
      · refine z_iload_n dX1_lostByGroups_89 rfl 2 rfl ?_
        refine z_iload_n dX1_lostByGroups_90 rfl 0 rfl ?_
        refine z_iadd dX1_lostByGroups_91 ?_
        refine z_nm (fun v1_2 ev1_2 => ?_)
        replace h := h v1_2 ev1_2
        refine z_istore_n (lv' := [(1, vi v1_2), (3, vi v3), (0, vr Γ 91), (2, vi v2_1)]) dX1_lostByGroups_92 rfl (Nat.le_of_ble_eq_true rfl) rfl ?_
        refine z_iinc (j := 3) (lv' := [(2, vi (v2_1 + 1)), (1, vi v1_2), (3, vi v3), (0, vr Γ 91)]) dX1_lostByGroups_93 rfl (Nat.le_of_ble_eq_true rfl) rfl ?_
        refine z_goto (tgt := 57) dX1_lostByGroups_96 (by decide) ?_
        refine z_sub (lv' := [(0, vr Γ 91), (1, vi v1_2), (2, vi (v2_1 + 1))]) [3, 1, 0] rfl ?_
        exact hR_57 v1_2 (v2_1 + 1) h
    · refine z_iload_n dX1_lostByGroups_99 rfl 1 rfl ?_
      exact z_iret rfl dX1_lostByGroups_100 rfl rfl rfl ⟨_, rfl, hs, h⟩
theorem i_Comp_lostByGroups {l : Launch} {Γ : Gam} {g : Nat} {μ : Mem} {k : Int → Mem → Prop} (hs : StatR μ.2.2) (h : f_Comp_lostByGroups  μ k) : CT l Γ yX1_lostByGroups cX1_lostByGroups 4 (some .int) 1 22 0 0 [vr Γ 91] g 175 μ (pI k) := by
  refine SW.ct (by decide) (Nat.le_of_ble_eq_true rfl) ?_
  refine z_sub (lv' := [(0, vr Γ 91)]) [0] rfl ?_
  show SW l Γ yX1_lostByGroups.cls cX1_lostByGroups Y_Comp_lostByGroups (pI k) g 175 0 0 μ 0 [(0, vr Γ 91)] []
  unfold f_Comp_lostByGroups at h
  refine z_rload_n dX1_lostByGroups_0 rfl 0 rfl ?_
  refine z_getR (q := 12660) ff_1_12 dX1_lostByGroups_1 kt_91 (Nat.le_of_ble_eq_true rfl) fl_X1_31 rfl (hs.1 _ _ sr_12660) ?_
  refine z_iconst dX1_lostByGroups_4 ?_
  refine z_NU (i_H_fill kt_98 (Nat.le_of_ble_eq_true rfl) hs h) sk_X11_fill nw_X1_158 ⟨Nat.le_of_ble_eq_true rfl, Nat.le_of_ble_eq_true rfl⟩ ⟨Nat.zero_le _, Nat.zero_le _⟩ rfl rfl (Nat.le_of_ble_eq_true rfl) dX1_lostByGroups_5 (fun μ_1 hs h => ?_)
  refine z_iconst dX1_lostByGroups_8 ?_
  refine z_istore_n (lv' := [(1, vi 0), (0, vr Γ 91)]) dX1_lostByGroups_9 rfl (Nat.le_of_ble_eq_true rfl) rfl ?_
  obtain ⟨m10, h⟩ := h
  refine z_sub (lv' := [(0, vr Γ 91), (1, vi 0)]) [1, 0] rfl ?_
  refine L_Comp_lostByGroups_10 (fun μ_4 hs h => ?_) m10 0 μ_1 hs h
  refine z_iconst dX1_lostByGroups_53 ?_
  refine z_istore_n (lv' := [(1, vi 0), (0, vr Γ 91)]) dX1_lostByGroups_54 rfl (Nat.le_of_ble_eq_true rfl) rfl ?_
  refine z_iconst dX1_lostByGroups_55 ?_
  refine z_istore_n (lv' := [(2, vi 0), (1, vi 0), (0, vr Γ 91)]) dX1_lostByGroups_56 rfl (Nat.le_of_ble_eq_true rfl) rfl ?_
  obtain ⟨m57, h⟩ := h
  refine z_sub (lv' := [(0, vr Γ 91), (1, vi 0), (2, vi 0)]) [2, 1, 0] rfl ?_
  refine L_Comp_lostByGroups_57 hs  m57 0 0 h
abbrev Y_Comp_keepIfBetter : Yt := (3, none, yX1_keepIfBetter.name, { frames := 2, cells := 0, slots := 0, locals := 45 }, 175, 0, 0)
def f_Comp_keepIfBetter  (μ : Mem) (k : Mem → Prop) : Prop := f_Comp_groupsAhead (rI μ 12654 0) μ (fun r5 μ_1 => f_Comp_lostByGroups  μ_1 (fun r10 μ_2 => if w r10 = w (-1) then (k μ_2) else (if w (rI μ_2 12664 0) = w (-1) then (∀ μ_3 : Mem, μ_3 = sI μ_2 12664 0 r10 → ∀ μ_4 : Mem, μ_4 = sI μ_3 12665 0 r5 → f_H_copy 99 8 100 8 μ_4 (fun μ_5 => k μ_5)) else (if w r10 < w (rI μ_2 12664 0) then (∀ μ_6 : Mem, μ_6 = sI μ_2 12664 0 r10 → ∀ μ_7 : Mem, μ_7 = sI μ_6 12665 0 r5 → f_H_copy 99 8 100 8 μ_7 (fun μ_8 => k μ_8)) else (if w r10 = w (rI μ_2 12664 0) then (if w r5 < w (rI μ_2 12665 0) then (∀ μ_9 : Mem, μ_9 = sI μ_2 12664 0 r10 → ∀ μ_10 : Mem, μ_10 = sI μ_9 12665 0 r5 → f_H_copy 99 8 100 8 μ_10 (fun μ_11 => k μ_11)) else (k μ_2)) else (k μ_2))))))
theorem i_Comp_keepIfBetter {l : Launch} {Γ : Gam} {g : Nat} {μ : Mem} {k : Mem → Prop} (hs : StatR μ.2.2) (h : f_Comp_keepIfBetter  μ k) : CT l Γ yX1_keepIfBetter cX1_keepIfBetter 3 none 2 45 0 0 [vr Γ 91] g 175 μ (pV k) := by
  refine SW.ct (by decide) (Nat.le_of_ble_eq_true rfl) ?_
  refine z_sub (lv' := [(0, vr Γ 91)]) [0] rfl ?_
  show SW l Γ yX1_keepIfBetter.cls cX1_keepIfBetter Y_Comp_keepIfBetter (pV k) g 175 0 0 μ 0 [(0, vr Γ 91)] []
  unfold f_Comp_keepIfBetter at h
  refine z_rload_n dX1_keepIfBetter_0 rfl 0 rfl ?_
  refine z_rload_n dX1_keepIfBetter_1 rfl 0 rfl ?_
  refine z_getI (q := 12654) ff_1_6 dX1_keepIfBetter_2 kt_91 (Nat.le_of_ble_eq_true rfl) fl_X1_54 rfl ?_
  refine z_VI (i_Comp_groupsAhead  hs h) vk_X1_groupsAhead kt_91 (Nat.le_of_ble_eq_true rfl) rfl ml_X1_169 ⟨Nat.le_of_ble_eq_true rfl, Nat.le_of_ble_eq_true rfl⟩ ⟨Nat.zero_le _, Nat.zero_le _⟩ rfl rfl (Nat.le_of_ble_eq_true rfl) dX1_keepIfBetter_5 (fun r5 μ_1 hs h => ?_)
  refine z_istore_n (lv' := [(1, vi r5), (0, vr Γ 91)]) dX1_keepIfBetter_8 rfl (Nat.le_of_ble_eq_true rfl) rfl ?_
  refine z_rload_n dX1_keepIfBetter_9 rfl 1 rfl ?_
  refine z_VI (i_Comp_lostByGroups  hs h) vk_X1_lostByGroups kt_91 (Nat.le_of_ble_eq_true rfl) rfl ml_X1_178 ⟨Nat.le_of_ble_eq_true rfl, Nat.le_of_ble_eq_true rfl⟩ ⟨Nat.zero_le _, Nat.zero_le _⟩ rfl rfl (Nat.le_of_ble_eq_true rfl) dX1_keepIfBetter_10 (fun r10 μ_2 hs h => ?_)
  refine z_istore_n (lv' := [(2, vi r10), (1, vi r5), (0, vr Γ 91)]) dX1_keepIfBetter_13 rfl (Nat.le_of_ble_eq_true rfl) rfl ?_
  refine z_iload_n dX1_keepIfBetter_14 rfl 0 rfl ?_
  refine z_iconst dX1_keepIfBetter_15 ?_
  refine z_icmp_ne (tgt := 20) dX1_keepIfBetter_16 (by decide) h (fun h => ?_) (fun h => ?_)
  · exact z_vret rfl dX1_keepIfBetter_19 rfl rfl rfl ⟨rfl, hs, h⟩
  · refine z_rload_n dX1_keepIfBetter_20 rfl 2 rfl ?_
    refine z_getI (q := 12664) ff_1_16 dX1_keepIfBetter_21 kt_91 (Nat.le_of_ble_eq_true rfl) fl_X1_155 rfl ?_
    refine z_iconst dX1_keepIfBetter_24 ?_
    refine z_icmp_eq (tgt := 52) dX1_keepIfBetter_25 (by decide) h (fun h => ?_) (fun h => ?_)
    · refine z_rload_n dX1_keepIfBetter_52 rfl 2 rfl ?_
      refine z_iload_n dX1_keepIfBetter_53 rfl 0 rfl ?_
      refine z_putI (q := 12664) ff_1_16 (Or.inl rfl) rfl dX1_keepIfBetter_54 kt_91 (Nat.le_of_ble_eq_true rfl) fl_X1_155 rfl ?_
      refine z_mm (fun μ_3 eμ_3 => ?_)
      replace h := h μ_3 eμ_3
      replace hs : StatR μ_3.2.2 := by rw [eμ_3]; exact hs
      refine z_rload_n dX1_keepIfBetter_57 rfl 2 rfl ?_
      refine z_iload_n dX1_keepIfBetter_58 rfl 1 rfl ?_
      refine z_putI (q := 12665) ff_1_17 (Or.inl rfl) rfl dX1_keepIfBetter_59 kt_91 (Nat.le_of_ble_eq_true rfl) fl_X1_182 rfl ?_
      refine z_mm (fun μ_4 eμ_4 => ?_)
      replace h := h μ_4 eμ_4
      replace hs : StatR μ_4.2.2 := by rw [eμ_4]; exact hs
      refine z_rload_n dX1_keepIfBetter_62 rfl 2 rfl ?_
      refine z_getR (q := 12661) ff_1_13 dX1_keepIfBetter_63 kt_91 (Nat.le_of_ble_eq_true rfl) fl_X1_34 rfl (hs.1 _ _ sr_12661) ?_
      refine z_rload_n dX1_keepIfBetter_66 rfl 2 rfl ?_
      refine z_getR (q := 12662) ff_1_14 dX1_keepIfBetter_67 kt_91 (Nat.le_of_ble_eq_true rfl) fl_X1_37 rfl (hs.1 _ _ sr_12662) ?_
      refine z_NU (i_H_copy kt_99 (Nat.le_of_ble_eq_true rfl) kt_100 (Nat.le_of_ble_eq_true rfl) hs h) sk_X11_copy nw_X1_185 ⟨Nat.le_of_ble_eq_true rfl, Nat.le_of_ble_eq_true rfl⟩ ⟨Nat.zero_le _, Nat.zero_le _⟩ rfl rfl (Nat.le_of_ble_eq_true rfl) dX1_keepIfBetter_70 (fun μ_5 hs h => ?_)
      exact z_vret rfl dX1_keepIfBetter_73 rfl rfl rfl ⟨rfl, hs, h⟩
    · refine z_iload_n dX1_keepIfBetter_28 rfl 0 rfl ?_
      refine z_rload_n dX1_keepIfBetter_29 rfl 2 rfl ?_
      refine z_getI (q := 12664) ff_1_16 dX1_keepIfBetter_30 kt_91 (Nat.le_of_ble_eq_true rfl) fl_X1_155 rfl ?_
      refine z_icmp_lt (tgt := 52) dX1_keepIfBetter_33 (by decide) h (fun h => ?_) (fun h => ?_)
      · refine z_rload_n dX1_keepIfBetter_52 rfl 2 rfl ?_
        refine z_iload_n dX1_keepIfBetter_53 rfl 0 rfl ?_
        refine z_putI (q := 12664) ff_1_16 (Or.inl rfl) rfl dX1_keepIfBetter_54 kt_91 (Nat.le_of_ble_eq_true rfl) fl_X1_155 rfl ?_
        refine z_mm (fun μ_6 eμ_6 => ?_)
        replace h := h μ_6 eμ_6
        replace hs : StatR μ_6.2.2 := by rw [eμ_6]; exact hs
        refine z_rload_n dX1_keepIfBetter_57 rfl 2 rfl ?_
        refine z_iload_n dX1_keepIfBetter_58 rfl 1 rfl ?_
        refine z_putI (q := 12665) ff_1_17 (Or.inl rfl) rfl dX1_keepIfBetter_59 kt_91 (Nat.le_of_ble_eq_true rfl) fl_X1_182 rfl ?_
        refine z_mm (fun μ_7 eμ_7 => ?_)
        replace h := h μ_7 eμ_7
        replace hs : StatR μ_7.2.2 := by rw [eμ_7]; exact hs
        refine z_rload_n dX1_keepIfBetter_62 rfl 2 rfl ?_
        refine z_getR (q := 12661) ff_1_13 dX1_keepIfBetter_63 kt_91 (Nat.le_of_ble_eq_true rfl) fl_X1_34 rfl (hs.1 _ _ sr_12661) ?_
        refine z_rload_n dX1_keepIfBetter_66 rfl 2 rfl ?_
        refine z_getR (q := 12662) ff_1_14 dX1_keepIfBetter_67 kt_91 (Nat.le_of_ble_eq_true rfl) fl_X1_37 rfl (hs.1 _ _ sr_12662) ?_
        refine z_NU (i_H_copy kt_99 (Nat.le_of_ble_eq_true rfl) kt_100 (Nat.le_of_ble_eq_true rfl) hs h) sk_X11_copy nw_X1_185 ⟨Nat.le_of_ble_eq_true rfl, Nat.le_of_ble_eq_true rfl⟩ ⟨Nat.zero_le _, Nat.zero_le _⟩ rfl rfl (Nat.le_of_ble_eq_true rfl) dX1_keepIfBetter_70 (fun μ_8 hs h => ?_)
        exact z_vret rfl dX1_keepIfBetter_73 rfl rfl rfl ⟨rfl, hs, h⟩
      · refine z_iload_n dX1_keepIfBetter_36 rfl 0 rfl ?_
        refine z_rload_n dX1_keepIfBetter_37 rfl 2 rfl ?_
        refine z_getI (q := 12664) ff_1_16 dX1_keepIfBetter_38 kt_91 (Nat.le_of_ble_eq_true rfl) fl_X1_155 rfl ?_
        refine z_icmp_ne (tgt := 73) dX1_keepIfBetter_41 (by decide) h (fun h => ?_) (fun h => ?_)
        · refine z_iload_n dX1_keepIfBetter_44 rfl 1 rfl ?_
          refine z_rload_n dX1_keepIfBetter_45 rfl 2 rfl ?_
          refine z_getI (q := 12665) ff_1_17 dX1_keepIfBetter_46 kt_91 (Nat.le_of_ble_eq_true rfl) fl_X1_182 rfl ?_
          refine z_icmp_ge (tgt := 73) dX1_keepIfBetter_49 (by decide) h (fun h => ?_) (fun h => ?_)
          · refine z_rload_n dX1_keepIfBetter_52 rfl 2 rfl ?_
            refine z_iload_n dX1_keepIfBetter_53 rfl 0 rfl ?_
            refine z_putI (q := 12664) ff_1_16 (Or.inl rfl) rfl dX1_keepIfBetter_54 kt_91 (Nat.le_of_ble_eq_true rfl) fl_X1_155 rfl ?_
            refine z_mm (fun μ_9 eμ_9 => ?_)
            replace h := h μ_9 eμ_9
            replace hs : StatR μ_9.2.2 := by rw [eμ_9]; exact hs
            refine z_rload_n dX1_keepIfBetter_57 rfl 2 rfl ?_
            refine z_iload_n dX1_keepIfBetter_58 rfl 1 rfl ?_
            refine z_putI (q := 12665) ff_1_17 (Or.inl rfl) rfl dX1_keepIfBetter_59 kt_91 (Nat.le_of_ble_eq_true rfl) fl_X1_182 rfl ?_
            refine z_mm (fun μ_10 eμ_10 => ?_)
            replace h := h μ_10 eμ_10
            replace hs : StatR μ_10.2.2 := by rw [eμ_10]; exact hs
            refine z_rload_n dX1_keepIfBetter_62 rfl 2 rfl ?_
            refine z_getR (q := 12661) ff_1_13 dX1_keepIfBetter_63 kt_91 (Nat.le_of_ble_eq_true rfl) fl_X1_34 rfl (hs.1 _ _ sr_12661) ?_
            refine z_rload_n dX1_keepIfBetter_66 rfl 2 rfl ?_
            refine z_getR (q := 12662) ff_1_14 dX1_keepIfBetter_67 kt_91 (Nat.le_of_ble_eq_true rfl) fl_X1_37 rfl (hs.1 _ _ sr_12662) ?_
            refine z_NU (i_H_copy kt_99 (Nat.le_of_ble_eq_true rfl) kt_100 (Nat.le_of_ble_eq_true rfl) hs h) sk_X11_copy nw_X1_185 ⟨Nat.le_of_ble_eq_true rfl, Nat.le_of_ble_eq_true rfl⟩ ⟨Nat.zero_le _, Nat.zero_le _⟩ rfl rfl (Nat.le_of_ble_eq_true rfl) dX1_keepIfBetter_70 (fun μ_11 hs h => ?_)
            exact z_vret rfl dX1_keepIfBetter_73 rfl rfl rfl ⟨rfl, hs, h⟩
          · exact z_vret rfl dX1_keepIfBetter_73 rfl rfl rfl ⟨rfl, hs, h⟩
        · exact z_vret rfl dX1_keepIfBetter_73 rfl rfl rfl ⟨rfl, hs, h⟩
abbrev Y_Comp_nextGrouping : Yt := (4, (some .boolean), yX1_nextGrouping.name, { frames := 2, cells := 0, slots := 0, locals := 44 }, 175, 0, 0)
def l_Comp_nextGrouping_7 (X_7_39 : Int → Int → Mem → Prop) (k : Bool → Mem → Prop) : Nat → Int → Mem → Prop
  | 0, _, _ => False
  | fu7 + 1, v1_1, μ_1 => if 0 < w v1_1 then (∀ v2 : Int, v2 = (at' μ_1 99 8 v1_1) + 1 → if w v2 < w (rI μ_1 12663 0) then (f_Comp_groupsAhead v1_1 μ_1 (fun r33 μ_2 => if w r33 < w v2 then ((l_Comp_nextGrouping_7 X_7_39 k fu7) (v1_1 + (-1)) μ_2) else (X_7_39 v1_1 v2 μ_2))) else ((l_Comp_nextGrouping_7 X_7_39 k fu7) (v1_1 + (-1)) μ_1)) else (k false μ_1)
def l_Comp_nextGrouping_52 (X_52_75 : Mem → Prop) : Nat → Int → Mem → Prop
  | 0, _, _ => False
  | fu52 + 1, v3, μ_5 => if w v3 < w (rI μ_5 12654 0) then (∀ μ_6 : Mem, μ_6 = set' μ_5 99 8 v3 0 → (l_Comp_nextGrouping_52 X_52_75 fu52) (v3 + 1) μ_6) else (X_52_75 μ_5)
def f_Comp_nextGrouping  (μ : Mem) (k : Bool → Mem → Prop) : Prop := ∀ v1 : Int, v1 = (rI μ 12654 0) - 1 → ∃ m7 : Nat, l_Comp_nextGrouping_7 (fun (v1_2 : Int) (v2_1 : Int) (μ_3 : Mem) => ∀ μ_4 : Mem, μ_4 = set' μ_3 99 8 v1_2 v2_1 → ∃ m52 : Nat, l_Comp_nextGrouping_52 (fun (μ_7 : Mem) => k true μ_7) m52 (v1_2 + 1) μ_4) k m7 v1 μ
theorem L_Comp_nextGrouping_7 {l : Launch} {Γ : Gam} {g : Nat} {X_7_39 : Int → Int → Mem → Prop} {k : Bool → Mem → Prop} (hX_7_39 : ∀ (u1 : Int) (u2 : Int) (ν : Mem), StatR ν.2.2 → X_7_39 u1 u2 ν → SW l Γ yX1_nextGrouping.cls cX1_nextGrouping Y_Comp_nextGrouping (pB k) g 175 0 0 ν 39 [(0, vr Γ 91), (1, vi u1), (2, vi u2)] []) (n9 : Nat) : ∀ (v1_1 : Int) (μ_1 : Mem), StatR μ_1.2.2 → l_Comp_nextGrouping_7 X_7_39 k n9 v1_1 μ_1 → SW l Γ yX1_nextGrouping.cls cX1_nextGrouping Y_Comp_nextGrouping (pB k) g 175 0 0 μ_1 7 [(0, vr Γ 91), (1, vi v1_1)] [] := by
  induction n9 with
  | zero =>
    intro v1_1 μ_1 hs h
    exact h.elim
  | succ n9 hR_7 =>
    intro v1_1 μ_1 hs h
    rw [l_Comp_nextGrouping_7] at h
    refine z_iload_n dX1_nextGrouping_7 rfl 1 rfl ?_
    refine z_if_le (tgt := 83) dX1_nextGrouping_8 (by decide) h (fun h => ?_) (fun h => ?_)
    · refine z_rload_n dX1_nextGrouping_11 rfl 0 rfl ?_
      refine z_getR (q := 12661) ff_1_13 dX1_nextGrouping_12 kt_91 (Nat.le_of_ble_eq_true rfl) fl_X1_34 rfl (hs.1 _ _ sr_12661) ?_
      refine z_iload_n dX1_nextGrouping_15 rfl 1 rfl ?_
      refine z_NE (i_X11_at kt_99 (Nat.le_of_ble_eq_true rfl)) ok_X11_at nw_X1_58 ⟨Nat.le_of_ble_eq_true rfl, Nat.le_of_ble_eq_true rfl⟩ ⟨Nat.zero_le _, Nat.zero_le _⟩ rfl rfl (Nat.le_of_ble_eq_true rfl) dX1_nextGrouping_16 ?_
      refine z_iconst dX1_nextGrouping_19 ?_
      refine z_iadd dX1_nextGrouping_20 ?_
      refine z_nm (fun v2 ev2 => ?_)
      replace h := h v2 ev2
      refine z_istore_n (lv' := [(2, vi v2), (0, vr Γ 91), (1, vi v1_1)]) dX1_nextGrouping_21 rfl (Nat.le_of_ble_eq_true rfl) rfl ?_
      refine z_iload_n dX1_nextGrouping_22 rfl 0 rfl ?_
      refine z_rload_n dX1_nextGrouping_23 rfl 1 rfl ?_
      refine z_getI (q := 12663) ff_1_15 dX1_nextGrouping_24 kt_91 (Nat.le_of_ble_eq_true rfl) fl_X1_152 rfl ?_
      refine z_icmp_ge (tgt := 77) dX1_nextGrouping_27 (by decide) h (fun h => ?_) (fun h => ?_)
      · refine z_iload_n dX1_nextGrouping_30 rfl 0 rfl ?_
        refine z_rload_n dX1_nextGrouping_31 rfl 1 rfl ?_
        refine z_iload_n dX1_nextGrouping_32 rfl 2 rfl ?_
        refine z_VI (i_Comp_groupsAhead  hs h) vk_X1_groupsAhead kt_91 (Nat.le_of_ble_eq_true rfl) rfl ml_X1_169 ⟨Nat.le_of_ble_eq_true rfl, Nat.le_of_ble_eq_true rfl⟩ ⟨Nat.zero_le _, Nat.zero_le _⟩ rfl rfl (Nat.le_of_ble_eq_true rfl) dX1_nextGrouping_33 (fun r33 μ_2 hs h => ?_)
        refine z_icmp_gt (tgt := 77) dX1_nextGrouping_36 (by decide) h (fun h => ?_) (fun h => ?_)
        · refine z_iinc (j := 2) (lv' := [(1, vi (v1_1 + (-1))), (2, vi v2), (0, vr Γ 91)]) dX1_nextGrouping_77 rfl (Nat.le_of_ble_eq_true rfl) rfl ?_
          refine z_goto (tgt := 7) dX1_nextGrouping_80 (by decide) ?_
          refine z_sub (lv' := [(0, vr Γ 91), (1, vi (v1_1 + (-1)))]) [2, 0] rfl ?_
          exact hR_7 (v1_1 + (-1)) μ_2 hs h
        · refine z_sub (lv' := [(0, vr Γ 91), (1, vi v1_1), (2, vi v2)]) [1, 2, 0] rfl ?_
          exact hX_7_39 v1_1 v2 μ_2 hs h
      · refine z_iinc (j := 2) (lv' := [(1, vi (v1_1 + (-1))), (2, vi v2), (0, vr Γ 91)]) dX1_nextGrouping_77 rfl (Nat.le_of_ble_eq_true rfl) rfl ?_
        refine z_goto (tgt := 7) dX1_nextGrouping_80 (by decide) ?_
        refine z_sub (lv' := [(0, vr Γ 91), (1, vi (v1_1 + (-1)))]) [2, 0] rfl ?_
        exact hR_7 (v1_1 + (-1)) μ_1 hs h
    · refine z_iconst dX1_nextGrouping_83 ?_
      exact z_zret (b := false) rfl dX1_nextGrouping_84 rfl rfl rfl ⟨_, rfl, hs, h⟩
theorem L_Comp_nextGrouping_52 {l : Launch} {Γ : Gam} {g : Nat} {X_52_75 : Mem → Prop} {k : Bool → Mem → Prop} (hX_52_75 : ∀ (ν : Mem), StatR ν.2.2 → X_52_75 ν → SW l Γ yX1_nextGrouping.cls cX1_nextGrouping Y_Comp_nextGrouping (pB k) g 175 0 0 ν 75 [] []) (n9 : Nat) : ∀ (v3 : Int) (μ_5 : Mem), StatR μ_5.2.2 → l_Comp_nextGrouping_52 X_52_75 n9 v3 μ_5 → SW l Γ yX1_nextGrouping.cls cX1_nextGrouping Y_Comp_nextGrouping (pB k) g 175 0 0 μ_5 52 [(0, vr Γ 91), (3, vi v3)] [] := by
  induction n9 with
  | zero =>
    intro v3 μ_5 hs h
    exact h.elim
  | succ n9 hR_52 =>
    intro v3 μ_5 hs h
    rw [l_Comp_nextGrouping_52] at h
    refine z_iload_n dX1_nextGrouping_52 rfl 1 rfl ?_
    refine z_rload_n dX1_nextGrouping_53 rfl 0 rfl ?_
    refine z_getI (q := 12654) ff_1_6 dX1_nextGrouping_54 kt_91 (Nat.le_of_ble_eq_true rfl) fl_X1_54 rfl ?_
    refine z_icmp_ge (tgt := 75) dX1_nextGrouping_57 (by decide) h (fun h => ?_) (fun h => ?_)
    · refine z_rload_n dX1_nextGrouping_60 rfl 0 rfl ?_
      refine z_getR (q := 12661) ff_1_13 dX1_nextGrouping_61 kt_91 (Nat.le_of_ble_eq_true rfl) fl_X1_34 rfl (hs.1 _ _ sr_12661) ?_
      refine z_iload_n dX1_nextGrouping_64 rfl 1 rfl ?_
      refine z_iconst dX1_nextGrouping_65 ?_
      refine z_NM (i_X11_set kt_99 (Nat.le_of_ble_eq_true rfl)) ok_X11_set nw_X1_149 ⟨Nat.le_of_ble_eq_true rfl, Nat.le_of_ble_eq_true rfl⟩ ⟨Nat.zero_le _, Nat.zero_le _⟩ rfl rfl (Nat.le_of_ble_eq_true rfl) dX1_nextGrouping_66 ?_
      refine z_mm (fun μ_6 eμ_6 => ?_)
      replace h := h μ_6 eμ_6
      replace hs : StatR μ_6.2.2 := by rw [eμ_6]; exact (StatR.set hs)
      refine z_iinc (j := 1) (lv' := [(3, vi (v3 + 1)), (0, vr Γ 91)]) dX1_nextGrouping_69 rfl (Nat.le_of_ble_eq_true rfl) rfl ?_
      refine z_goto (tgt := 52) dX1_nextGrouping_72 (by decide) ?_
      refine z_sub (lv' := [(0, vr Γ 91), (3, vi (v3 + 1))]) [1, 0] rfl ?_
      exact hR_52 (v3 + 1) μ_6 hs h
    · refine z_sub (lv' := []) [] rfl ?_
      exact hX_52_75 μ_5 hs h
theorem i_Comp_nextGrouping {l : Launch} {Γ : Gam} {g : Nat} {μ : Mem} {k : Bool → Mem → Prop} (hs : StatR μ.2.2) (h : f_Comp_nextGrouping  μ k) : CT l Γ yX1_nextGrouping cX1_nextGrouping 4 (some .boolean) 2 44 0 0 [vr Γ 91] g 175 μ (pB k) := by
  refine SW.ct (by decide) (Nat.le_of_ble_eq_true rfl) ?_
  refine z_sub (lv' := [(0, vr Γ 91)]) [0] rfl ?_
  show SW l Γ yX1_nextGrouping.cls cX1_nextGrouping Y_Comp_nextGrouping (pB k) g 175 0 0 μ 0 [(0, vr Γ 91)] []
  unfold f_Comp_nextGrouping at h
  refine z_rload_n dX1_nextGrouping_0 rfl 0 rfl ?_
  refine z_getI (q := 12654) ff_1_6 dX1_nextGrouping_1 kt_91 (Nat.le_of_ble_eq_true rfl) fl_X1_54 rfl ?_
  refine z_iconst dX1_nextGrouping_4 ?_
  refine z_isub dX1_nextGrouping_5 ?_
  refine z_nm (fun v1 ev1 => ?_)
  replace h := h v1 ev1
  refine z_istore_n (lv' := [(1, vi v1), (0, vr Γ 91)]) dX1_nextGrouping_6 rfl (Nat.le_of_ble_eq_true rfl) rfl ?_
  obtain ⟨m7, h⟩ := h
  refine z_sub (lv' := [(0, vr Γ 91), (1, vi v1)]) [1, 0] rfl ?_
  refine L_Comp_nextGrouping_7 (fun v1_2 v2_1 μ_3 hs h => ?_) m7 v1 μ hs h
  refine z_rload_n dX1_nextGrouping_39 rfl 0 rfl ?_
  refine z_getR (q := 12661) ff_1_13 dX1_nextGrouping_40 kt_91 (Nat.le_of_ble_eq_true rfl) fl_X1_34 rfl (hs.1 _ _ sr_12661) ?_
  refine z_iload_n dX1_nextGrouping_43 rfl 1 rfl ?_
  refine z_iload_n dX1_nextGrouping_44 rfl 2 rfl ?_
  refine z_NM (i_X11_set kt_99 (Nat.le_of_ble_eq_true rfl)) ok_X11_set nw_X1_149 ⟨Nat.le_of_ble_eq_true rfl, Nat.le_of_ble_eq_true rfl⟩ ⟨Nat.zero_le _, Nat.zero_le _⟩ rfl rfl (Nat.le_of_ble_eq_true rfl) dX1_nextGrouping_45 ?_
  refine z_mm (fun μ_4 eμ_4 => ?_)
  replace h := h μ_4 eμ_4
  replace hs : StatR μ_4.2.2 := by rw [eμ_4]; exact (StatR.set hs)
  refine z_iload_n dX1_nextGrouping_48 rfl 1 rfl ?_
  refine z_iconst dX1_nextGrouping_49 ?_
  refine z_iadd dX1_nextGrouping_50 ?_
  refine z_istore_n (lv' := [(3, vi (v1_2 + 1)), (0, vr Γ 91), (1, vi v1_2), (2, vi v2_1)]) dX1_nextGrouping_51 rfl (Nat.le_of_ble_eq_true rfl) rfl ?_
  obtain ⟨m52, h⟩ := h
  refine z_sub (lv' := [(0, vr Γ 91), (3, vi (v1_2 + 1))]) [1, 0] rfl ?_
  refine L_Comp_nextGrouping_52 (fun μ_7 hs h => ?_) m52 (v1_2 + 1) μ_4 hs h
  refine z_iconst dX1_nextGrouping_75 ?_
  exact z_zret (b := true) rfl dX1_nextGrouping_76 rfl rfl rfl ⟨_, rfl, hs, h⟩
abbrev Y_Comp_groupUp : Yt := (5, (some .int), yX1_groupUp.name, { frames := 4, cells := 0, slots := 0, locals := 99 }, 175, 0, 0)
def l_Comp_groupUp_29 (a2 : Int) (X_29_70 : Mem → Prop) : Nat → Int → Mem → Prop
  | 0, _, _ => False
  | fu29 + 1, v3, μ_2 => if w v3 < w (w_ishl 1 (rI μ_2 12654 0)) then (if w (v_popI v3) = w 1 then (∀ μ_3 : Mem, μ_3 = set' μ_2 97 256 v3 0 → (l_Comp_groupUp_29 a2 X_29_70 fu29) (v3 + 1) μ_3) else (f_Comp_compose v3 μ_2 (fun r58 μ_4 => ∀ μ_5 : Mem, μ_5 = set' μ_4 97 256 v3 r58 → (l_Comp_groupUp_29 a2 X_29_70 fu29) (v3 + 1) μ_5))) else (X_29_70 μ_2)
def l_Comp_groupUp_93 (X_93_120 : Mem → Prop) : Nat → Bool → Int → Mem → Prop
  | 0, _, _, _ => False
  | fu93 + 1, v3_1, v4, μ_10 => if w v4 < w 4140 then (if v3_1 = true then (f_Comp_keepIfBetter  μ_10 (fun μ_11 => f_Comp_nextGrouping  μ_11 (fun r110 μ_12 => (l_Comp_groupUp_93 X_93_120 fu93) r110 (v4 + 1) μ_12))) else (X_93_120 μ_10)) else (X_93_120 μ_10)
def f_Comp_groupUp (a1 : Int) (a2 : Int) (μ : Mem) (k : Int → Mem → Prop) : Prop := if w a2 < w 1 then (k (-1) μ) else (if w 8 < w a2 then (k (-1) μ) else (f_Comp_choose a1 μ (fun μ_1 => if w (rI μ_1 12654 0) = 0 then (k (-1) μ_1) else (∃ m29 : Nat, l_Comp_groupUp_29 a2 (fun (μ_6 : Mem) => ∀ μ_7 : Mem, μ_7 = sI μ_6 12663 0 a2 → ∀ μ_8 : Mem, μ_8 = sI μ_7 12664 0 (-1) → f_H_fill 99 8 0 μ_8 (fun μ_9 => ∃ m93 : Nat, l_Comp_groupUp_93 (fun (μ_13 : Mem) => k (rI μ_13 12664 0) μ_13) m93 true 0 μ_9)) m29 1 μ_1))))
theorem L_Comp_groupUp_29 {l : Launch} {Γ : Gam} {g : Nat} {a2 : Int} {X_29_70 : Mem → Prop} {k : Int → Mem → Prop} (hX_29_70 : ∀ (ν : Mem), StatR ν.2.2 → X_29_70 ν → SW l Γ yX1_groupUp.cls cX1_groupUp Y_Comp_groupUp (pI k) g 175 0 0 ν 70 [(0, vr Γ 91), (2, vi a2)] []) (n9 : Nat) : ∀ (v3 : Int) (μ_2 : Mem), StatR μ_2.2.2 → l_Comp_groupUp_29 a2 X_29_70 n9 v3 μ_2 → SW l Γ yX1_groupUp.cls cX1_groupUp Y_Comp_groupUp (pI k) g 175 0 0 μ_2 29 [(0, vr Γ 91), (2, vi a2), (3, vi v3)] [] := by
  induction n9 with
  | zero =>
    intro v3 μ_2 hs h
    exact h.elim
  | succ n9 hR_29 =>
    intro v3 μ_2 hs h
    rw [l_Comp_groupUp_29] at h
    refine z_iload_n dX1_groupUp_29 rfl 2 rfl ?_
    refine z_iconst dX1_groupUp_30 ?_
    refine z_rload_n dX1_groupUp_31 rfl 0 rfl ?_
    refine z_getI (q := 12654) ff_1_6 dX1_groupUp_32 kt_91 (Nat.le_of_ble_eq_true rfl) fl_X1_54 rfl ?_
    refine z_ishl dX1_groupUp_35 ?_
    refine z_icmp_ge (tgt := 70) dX1_groupUp_36 (by decide) h (fun h => ?_) (fun h => ?_)
    · refine z_rload_n dX1_groupUp_39 rfl 0 rfl ?_
      refine z_getR (q := 12659) ff_1_11 dX1_groupUp_40 kt_91 (Nat.le_of_ble_eq_true rfl) fl_X1_28 rfl (hs.1 _ _ sr_12659) ?_
      refine z_iload_n dX1_groupUp_43 rfl 2 rfl ?_
      refine z_iload_n dX1_groupUp_44 rfl 2 rfl ?_
      refine z_SE (i_popI hs) sk_J6_bitCount_0f7a4 ml_X1_145 ⟨Nat.le_of_ble_eq_true rfl, Nat.le_of_ble_eq_true rfl⟩ ⟨Nat.zero_le _, Nat.zero_le _⟩ rfl rfl (Nat.le_of_ble_eq_true rfl) dX1_groupUp_45 ?_
      refine z_iconst dX1_groupUp_48 ?_
      refine z_icmp_ne (tgt := 56) dX1_groupUp_49 (by decide) h (fun h => ?_) (fun h => ?_)
      · refine z_iconst dX1_groupUp_52 ?_
        refine z_goto (tgt := 61) dX1_groupUp_53 (by decide) ?_
        refine z_NM (i_X11_set kt_97 (Nat.le_of_ble_eq_true rfl)) ok_X11_set nw_X1_149 ⟨Nat.le_of_ble_eq_true rfl, Nat.le_of_ble_eq_true rfl⟩ ⟨Nat.zero_le _, Nat.zero_le _⟩ rfl rfl (Nat.le_of_ble_eq_true rfl) dX1_groupUp_61 ?_
        refine z_mm (fun μ_3 eμ_3 => ?_)
        replace h := h μ_3 eμ_3
        replace hs : StatR μ_3.2.2 := by rw [eμ_3]; exact (StatR.set hs)
        refine z_iinc (j := 2) (lv' := [(3, vi (v3 + 1)), (0, vr Γ 91), (2, vi a2)]) dX1_groupUp_64 rfl (Nat.le_of_ble_eq_true rfl) rfl ?_
        refine z_goto (tgt := 29) dX1_groupUp_67 (by decide) ?_
        refine z_sub (lv' := [(0, vr Γ 91), (2, vi a2), (3, vi (v3 + 1))]) [1, 2, 0] rfl ?_
        exact hR_29 (v3 + 1) μ_3 hs h
      · refine z_rload_n dX1_groupUp_56 rfl 0 rfl ?_
        refine z_iload_n dX1_groupUp_57 rfl 2 rfl ?_
        refine z_VI (i_Comp_compose  hs h) vk_X1_compose kt_91 (Nat.le_of_ble_eq_true rfl) rfl ml_X1_78 ⟨Nat.le_of_ble_eq_true rfl, Nat.le_of_ble_eq_true rfl⟩ ⟨Nat.zero_le _, Nat.zero_le _⟩ rfl rfl (Nat.le_of_ble_eq_true rfl) dX1_groupUp_58 (fun r58 μ_4 hs h => ?_)
        refine z_NM (i_X11_set kt_97 (Nat.le_of_ble_eq_true rfl)) ok_X11_set nw_X1_149 ⟨Nat.le_of_ble_eq_true rfl, Nat.le_of_ble_eq_true rfl⟩ ⟨Nat.zero_le _, Nat.zero_le _⟩ rfl rfl (Nat.le_of_ble_eq_true rfl) dX1_groupUp_61 ?_
        refine z_mm (fun μ_5 eμ_5 => ?_)
        replace h := h μ_5 eμ_5
        replace hs : StatR μ_5.2.2 := by rw [eμ_5]; exact (StatR.set hs)
        refine z_iinc (j := 2) (lv' := [(3, vi (v3 + 1)), (0, vr Γ 91), (2, vi a2)]) dX1_groupUp_64 rfl (Nat.le_of_ble_eq_true rfl) rfl ?_
        refine z_goto (tgt := 29) dX1_groupUp_67 (by decide) ?_
        refine z_sub (lv' := [(0, vr Γ 91), (2, vi a2), (3, vi (v3 + 1))]) [1, 2, 0] rfl ?_
        exact hR_29 (v3 + 1) μ_5 hs h
    · refine z_sub (lv' := [(0, vr Γ 91), (2, vi a2)]) [0, 1] rfl ?_
      exact hX_29_70 μ_2 hs h
theorem L_Comp_groupUp_93 {l : Launch} {Γ : Gam} {g : Nat} {X_93_120 : Mem → Prop} {k : Int → Mem → Prop} (hX_93_120 : ∀ (ν : Mem), StatR ν.2.2 → X_93_120 ν → SW l Γ yX1_groupUp.cls cX1_groupUp Y_Comp_groupUp (pI k) g 175 0 0 ν 120 [(0, vr Γ 91)] []) (n9 : Nat) : ∀ (v3_1 : Bool) (v4 : Int) (μ_10 : Mem), StatR μ_10.2.2 → l_Comp_groupUp_93 X_93_120 n9 v3_1 v4 μ_10 → SW l Γ yX1_groupUp.cls cX1_groupUp Y_Comp_groupUp (pI k) g 175 0 0 μ_10 93 [(0, vr Γ 91), (3, vi (b2i v3_1)), (4, vi v4)] [] := by
  induction n9 with
  | zero =>
    intro v3_1 v4 μ_10 hs h
    exact h.elim
  | succ n9 hR_93 =>
    intro v3_1 v4 μ_10 hs h
    rw [l_Comp_groupUp_93] at h
    refine z_iload dX1_groupUp_93 2 rfl ?_
    refine z_sipush dX1_groupUp_95 (by decide) ?_
    refine z_icmp_ge (tgt := 120) dX1_groupUp_98 (by decide) h (fun h => ?_) (fun h => ?_)
    · refine z_iload_n dX1_groupUp_101 rfl 1 rfl ?_
      refine z_ifeq_b (tgt := 120) dX1_groupUp_102 (by decide) h (fun h => ?_) (fun h => ?_)
      · refine z_rload_n dX1_groupUp_105 rfl 0 rfl ?_
        refine z_VU (i_Comp_keepIfBetter  hs h) vk_X1_keepIfBetter kt_91 (Nat.le_of_ble_eq_true rfl) rfl ml_X1_162 ⟨Nat.le_of_ble_eq_true rfl, Nat.le_of_ble_eq_true rfl⟩ ⟨Nat.zero_le _, Nat.zero_le _⟩ rfl rfl (Nat.le_of_ble_eq_true rfl) dX1_groupUp_106 (fun μ_11 hs h => ?_)
        refine z_rload_n dX1_groupUp_109 rfl 0 rfl ?_
        refine z_VB (i_Comp_nextGrouping  hs h) vk_X1_nextGrouping kt_91 (Nat.le_of_ble_eq_true rfl) rfl ml_X1_165 ⟨Nat.le_of_ble_eq_true rfl, Nat.le_of_ble_eq_true rfl⟩ ⟨Nat.zero_le _, Nat.zero_le _⟩ rfl rfl (Nat.le_of_ble_eq_true rfl) dX1_groupUp_110 (fun r110 μ_12 hs h => ?_)
        refine z_istore_n (lv' := [(3, vi (b2i r110)), (0, vr Γ 91), (4, vi v4)]) dX1_groupUp_113 rfl (Nat.le_of_ble_eq_true rfl) rfl ?_
        refine z_iinc (j := 2) (lv' := [(4, vi (v4 + 1)), (3, vi (b2i r110)), (0, vr Γ 91)]) dX1_groupUp_114 rfl (Nat.le_of_ble_eq_true rfl) rfl ?_
        refine z_goto (tgt := 93) dX1_groupUp_117 (by decide) ?_
        refine z_sub (lv' := [(0, vr Γ 91), (3, vi (b2i r110)), (4, vi (v4 + 1))]) [2, 1, 0] rfl ?_
        exact hR_93 r110 (v4 + 1) μ_12 hs h
      · refine z_sub (lv' := [(0, vr Γ 91)]) [0] rfl ?_
        exact hX_93_120 μ_10 hs h
    · refine z_sub (lv' := [(0, vr Γ 91)]) [0] rfl ?_
      exact hX_93_120 μ_10 hs h
theorem i_Comp_groupUp {l : Launch} {Γ : Gam} {g : Nat} {a1 : Int} {a2 : Int} {μ : Mem} {k : Int → Mem → Prop} (hs : StatR μ.2.2) (h : f_Comp_groupUp a1 a2 μ k) : CT l Γ yX1_groupUp cX1_groupUp 5 (some .int) 4 99 0 0 [vr Γ 91, vi a1, vi a2] g 175 μ (pI k) := by
  refine SW.ct (by decide) (Nat.le_of_ble_eq_true rfl) ?_
  refine z_sub (lv' := [(0, vr Γ 91), (1, vi a1), (2, vi a2)]) [0, 1, 2] rfl ?_
  show SW l Γ yX1_groupUp.cls cX1_groupUp Y_Comp_groupUp (pI k) g 175 0 0 μ 0 [(0, vr Γ 91), (1, vi a1), (2, vi a2)] []
  unfold f_Comp_groupUp at h
  refine z_iload_n dX1_groupUp_0 rfl 2 rfl ?_
  refine z_iconst dX1_groupUp_1 ?_
  refine z_icmp_lt (tgt := 11) dX1_groupUp_2 (by decide) h (fun h => ?_) (fun h => ?_)
  · refine z_iconst dX1_groupUp_11 ?_
    exact z_iret rfl dX1_groupUp_12 rfl rfl rfl ⟨_, rfl, hs, h⟩
  · refine z_iload_n dX1_groupUp_5 rfl 2 rfl ?_
    refine z_bipush dX1_groupUp_6 (by decide) ?_
    refine z_icmp_le (tgt := 13) dX1_groupUp_8 (by decide) h (fun h => ?_) (fun h => ?_)
    · refine z_iconst dX1_groupUp_11 ?_
      exact z_iret rfl dX1_groupUp_12 rfl rfl rfl ⟨_, rfl, hs, h⟩
    · refine z_rload_n dX1_groupUp_13 rfl 0 rfl ?_
      refine z_iload_n dX1_groupUp_14 rfl 1 rfl ?_
      refine z_VU (i_Comp_choose  hs h) vk_X1_choose kt_91 (Nat.le_of_ble_eq_true rfl) rfl ml_X1_74 ⟨Nat.le_of_ble_eq_true rfl, Nat.le_of_ble_eq_true rfl⟩ ⟨Nat.zero_le _, Nat.zero_le _⟩ rfl rfl (Nat.le_of_ble_eq_true rfl) dX1_groupUp_15 (fun μ_1 hs h => ?_)
      refine z_rload_n dX1_groupUp_18 rfl 0 rfl ?_
      refine z_getI (q := 12654) ff_1_6 dX1_groupUp_19 kt_91 (Nat.le_of_ble_eq_true rfl) fl_X1_54 rfl ?_
      refine z_if_ne (tgt := 27) dX1_groupUp_22 (by decide) h (fun h => ?_) (fun h => ?_)
      · refine z_iconst dX1_groupUp_25 ?_
        exact z_iret rfl dX1_groupUp_26 rfl rfl rfl ⟨_, rfl, hs, h⟩
      · refine z_iconst dX1_groupUp_27 ?_
        refine z_istore_n (lv' := [(3, vi 1), (0, vr Γ 91), (1, vi a1), (2, vi a2)]) dX1_groupUp_28 rfl (Nat.le_of_ble_eq_true rfl) rfl ?_
        obtain ⟨m29, h⟩ := h
        refine z_sub (lv' := [(0, vr Γ 91), (2, vi a2), (3, vi 1)]) [1, 3, 0] rfl ?_
        refine L_Comp_groupUp_29 (fun μ_6 hs h => ?_) m29 1 μ_1 hs h
        refine z_rload_n dX1_groupUp_70 rfl 0 rfl ?_
        refine z_iload_n dX1_groupUp_71 rfl 1 rfl ?_
        refine z_putI (q := 12663) ff_1_15 (Or.inl rfl) rfl dX1_groupUp_72 kt_91 (Nat.le_of_ble_eq_true rfl) fl_X1_152 rfl ?_
        refine z_mm (fun μ_7 eμ_7 => ?_)
        replace h := h μ_7 eμ_7
        replace hs : StatR μ_7.2.2 := by rw [eμ_7]; exact hs
        refine z_rload_n dX1_groupUp_75 rfl 0 rfl ?_
        refine z_iconst dX1_groupUp_76 ?_
        refine z_putI (q := 12664) ff_1_16 (Or.inl rfl) rfl dX1_groupUp_77 kt_91 (Nat.le_of_ble_eq_true rfl) fl_X1_155 rfl ?_
        refine z_mm (fun μ_8 eμ_8 => ?_)
        replace h := h μ_8 eμ_8
        replace hs : StatR μ_8.2.2 := by rw [eμ_8]; exact hs
        refine z_rload_n dX1_groupUp_80 rfl 0 rfl ?_
        refine z_getR (q := 12661) ff_1_13 dX1_groupUp_81 kt_91 (Nat.le_of_ble_eq_true rfl) fl_X1_34 rfl (hs.1 _ _ sr_12661) ?_
        refine z_iconst dX1_groupUp_84 ?_
        refine z_NU (i_H_fill kt_99 (Nat.le_of_ble_eq_true rfl) hs h) sk_X11_fill nw_X1_158 ⟨Nat.le_of_ble_eq_true rfl, Nat.le_of_ble_eq_true rfl⟩ ⟨Nat.zero_le _, Nat.zero_le _⟩ rfl rfl (Nat.le_of_ble_eq_true rfl) dX1_groupUp_85 (fun μ_9 hs h => ?_)
        refine z_iconst dX1_groupUp_88 ?_
        refine z_istore_n (lv' := [(3, vi 1), (0, vr Γ 91), (2, vi a2)]) dX1_groupUp_89 rfl (Nat.le_of_ble_eq_true rfl) rfl ?_
        refine z_iconst dX1_groupUp_90 ?_
        refine z_istore (lv' := [(4, vi 0), (3, vi 1), (0, vr Γ 91), (2, vi a2)]) dX1_groupUp_91 (Nat.le_of_ble_eq_true rfl) rfl ?_
        obtain ⟨m93, h⟩ := h
        refine z_sub (lv' := [(0, vr Γ 91), (3, vi (b2i true)), (4, vi 0)]) [2, 1, 0] rfl ?_
        refine L_Comp_groupUp_93 (fun μ_13 hs h => ?_) m93 true 0 μ_9 hs h
        refine z_rload_n dX1_groupUp_120 rfl 0 rfl ?_
        refine z_getI (q := 12664) ff_1_16 dX1_groupUp_121 kt_91 (Nat.le_of_ble_eq_true rfl) fl_X1_155 rfl ?_
        exact z_iret rfl dX1_groupUp_124 rfl rfl rfl ⟨_, rfl, hs, h⟩
abbrev Y_H_group : Yt := (3, (some .int), yX11_group.name, { frames := 5, cells := 0, slots := 0, locals := 123 }, 175, 0, 0)
def f_H_group (a1 : Int) (a2 : Int) (μ : Mem) (k : Int → Mem → Prop) : Prop := f_Comp_groupUp a1 a2 μ (fun r6 μ_1 => k r6 μ_1)
theorem i_H_group {l : Launch} {Γ : Gam} {g : Nat} {a1 : Int} {a2 : Int} {μ : Mem} {k : Int → Mem → Prop} (hs : StatR μ.2.2) (h : f_H_group a1 a2 μ k) : CT l Γ yX11_group cX11_group 3 (some .int) 5 123 0 0 [vr Γ 0, vi a1, vi a2] g 175 μ (pI k) := by
  refine SW.ct (by decide) (Nat.le_of_ble_eq_true rfl) ?_
  refine z_sub (lv' := [(0, vr Γ 0), (1, vi a1), (2, vi a2)]) [0, 1, 2] rfl ?_
  show SW l Γ yX11_group.cls cX11_group Y_H_group (pI k) g 175 0 0 μ 0 [(0, vr Γ 0), (1, vi a1), (2, vi a2)] []
  unfold f_H_group at h
  refine z_rload_n dX11_group_0 rfl 0 rfl ?_
  refine z_getR (q := 1008) ff_11_8 dX11_group_1 kt_0 (Nat.le_of_ble_eq_true rfl) fl_X11_84 rfl (hs.1 _ _ sr_1008) ?_
  refine z_iload_n dX11_group_4 rfl 1 rfl ?_
  refine z_iload_n dX11_group_5 rfl 2 rfl ?_
  refine z_VI (i_Comp_groupUp  hs h) vk_X1_groupUp kt_91 (Nat.le_of_ble_eq_true rfl) rfl ml_X11_321 ⟨Nat.le_of_ble_eq_true rfl, Nat.le_of_ble_eq_true rfl⟩ ⟨Nat.zero_le _, Nat.zero_le _⟩ rfl rfl (Nat.le_of_ble_eq_true rfl) dX11_group_6 (fun r6 μ_1 hs h => ?_)
  exact z_iret rfl dX11_group_9 rfl rfl rfl ⟨_, rfl, hs, h⟩
abbrev Y_Comp_groupOf : Yt := (3, (some .int), yX1_groupOf.name, { frames := 1, cells := 0, slots := 0, locals := 21 }, 175, 0, 0)
def l_Comp_groupOf_2 (a1 : Int) (μ : Mem) (X_2_22 : Int → Prop) (k : Int → Mem → Prop) : Nat → Int → Prop
  | 0, _ => False
  | fu2 + 1, v2 => if w v2 < w (rI μ 12654 0) then (if w (at' μ 92 8 v2) = w a1 then (X_2_22 v2) else ((l_Comp_groupOf_2 a1 μ X_2_22 k fu2) (v2 + 1))) else (k (-1) μ)
def f_Comp_groupOf (a1 : Int) (μ : Mem) (k : Int → Mem → Prop) : Prop := ∃ m2 : Nat, l_Comp_groupOf_2 a1 μ (fun (v2_1 : Int) => k (at' μ 100 8 v2_1) μ) k m2 0
theorem L_Comp_groupOf_2 {l : Launch} {Γ : Gam} {g : Nat} {a1 : Int} {μ : Mem} {X_2_22 : Int → Prop} {k : Int → Mem → Prop} (hs : StatR μ.2.2) (hX_2_22 : ∀ (u2 : Int), X_2_22 u2 → SW l Γ yX1_groupOf.cls cX1_groupOf Y_Comp_groupOf (pI k) g 175 0 0 μ 22 [(0, vr Γ 91), (2, vi u2)] []) (n9 : Nat) : ∀ (v2 : Int), l_Comp_groupOf_2 a1 μ X_2_22 k n9 v2 → SW l Γ yX1_groupOf.cls cX1_groupOf Y_Comp_groupOf (pI k) g 175 0 0 μ 2 [(0, vr Γ 91), (1, vi a1), (2, vi v2)] [] := by
  induction n9 with
  | zero =>
    intro v2 h
    exact h.elim
  | succ n9 hR_2 =>
    intro v2 h
    rw [l_Comp_groupOf_2] at h
    refine z_iload_n dX1_groupOf_2 rfl 2 rfl ?_
    refine z_rload_n dX1_groupOf_3 rfl 0 rfl ?_
    refine z_getI (q := 12654) ff_1_6 dX1_groupOf_4 kt_91 (Nat.le_of_ble_eq_true rfl) fl_X1_54 rfl ?_
    refine z_icmp_ge (tgt := 37) dX1_groupOf_7 (by decide) h (fun h => ?_) (fun h => ?_)
    · refine z_rload_n dX1_groupOf_10 rfl 0 rfl ?_
      refine z_getR (q := 12650) ff_1_2 dX1_groupOf_11 kt_91 (Nat.le_of_ble_eq_true rfl) fl_X1_9 rfl (hs.1 _ _ sr_12650) ?_
      refine z_iload_n dX1_groupOf_14 rfl 2 rfl ?_
      refine z_NE (i_X11_at kt_92 (Nat.le_of_ble_eq_true rfl)) ok_X11_at nw_X1_58 ⟨Nat.le_of_ble_eq_true rfl, Nat.le_of_ble_eq_true rfl⟩ ⟨Nat.zero_le _, Nat.zero_le _⟩ rfl rfl (Nat.le_of_ble_eq_true rfl) dX1_groupOf_15 ?_
      refine z_iload_n dX1_groupOf_18 rfl 1 rfl ?_
      refine z_icmp_ne (tgt := 31) dX1_groupOf_19 (by decide) h (fun h => ?_) (fun h => ?_)
      · refine z_sub (lv' := [(0, vr Γ 91), (2, vi v2)]) [0, 2] rfl ?_
        exact hX_2_22 v2 h
      · refine z_iinc (j := 2) (lv' := [(2, vi (v2 + 1)), (0, vr Γ 91), (1, vi a1)]) dX1_groupOf_31 rfl (Nat.le_of_ble_eq_true rfl) rfl ?_
        refine z_goto (tgt := 2) dX1_groupOf_34 (by decide) ?_
        refine z_sub (lv' := [(0, vr Γ 91), (1, vi a1), (2, vi (v2 + 1))]) [1, 2, 0] rfl ?_
        exact hR_2 (v2 + 1) h
    · refine z_iconst dX1_groupOf_37 ?_
      exact z_iret rfl dX1_groupOf_38 rfl rfl rfl ⟨_, rfl, hs, h⟩
theorem i_Comp_groupOf {l : Launch} {Γ : Gam} {g : Nat} {a1 : Int} {μ : Mem} {k : Int → Mem → Prop} (hs : StatR μ.2.2) (h : f_Comp_groupOf a1 μ k) : CT l Γ yX1_groupOf cX1_groupOf 3 (some .int) 1 21 0 0 [vr Γ 91, vi a1] g 175 μ (pI k) := by
  refine SW.ct (by decide) (Nat.le_of_ble_eq_true rfl) ?_
  refine z_sub (lv' := [(0, vr Γ 91), (1, vi a1)]) [0, 1] rfl ?_
  show SW l Γ yX1_groupOf.cls cX1_groupOf Y_Comp_groupOf (pI k) g 175 0 0 μ 0 [(0, vr Γ 91), (1, vi a1)] []
  unfold f_Comp_groupOf at h
  refine z_iconst dX1_groupOf_0 ?_
  refine z_istore_n (lv' := [(2, vi 0), (0, vr Γ 91), (1, vi a1)]) dX1_groupOf_1 rfl (Nat.le_of_ble_eq_true rfl) rfl ?_
  obtain ⟨m2, h⟩ := h
  refine z_sub (lv' := [(0, vr Γ 91), (1, vi a1), (2, vi 0)]) [1, 2, 0] rfl ?_
  refine L_Comp_groupOf_2 hs (fun v2_1 h => ?_) m2 0 h
  refine z_rload_n dX1_groupOf_22 rfl 0 rfl ?_
  refine z_getR (q := 12662) ff_1_14 dX1_groupOf_23 kt_91 (Nat.le_of_ble_eq_true rfl) fl_X1_37 rfl (hs.1 _ _ sr_12662) ?_
  refine z_iload_n dX1_groupOf_26 rfl 1 rfl ?_
  refine z_NE (i_X11_at kt_100 (Nat.le_of_ble_eq_true rfl)) ok_X11_at nw_X1_58 ⟨Nat.le_of_ble_eq_true rfl, Nat.le_of_ble_eq_true rfl⟩ ⟨Nat.zero_le _, Nat.zero_le _⟩ rfl rfl (Nat.le_of_ble_eq_true rfl) dX1_groupOf_27 ?_
  exact z_iret rfl dX1_groupOf_30 rfl rfl rfl ⟨_, rfl, hs, h⟩
abbrev Y_H_grouped : Yt := (4, (some .int), yX11_grouped.name, { frames := 5, cells := 0, slots := 0, locals := 123 }, 175, 0, 0)
def f_H_grouped (a1 : Int) (a2 : Int) (a3 : Int) (μ : Mem) (k : Int → Mem → Prop) : Prop := f_Comp_groupUp a1 a2 μ (fun r6 μ_1 => if w r6 = w (-1) then (k (-1) μ_1) else (f_Comp_groupOf a3 μ_1 (fun r22 μ_2 => k r22 μ_2)))
theorem i_H_grouped {l : Launch} {Γ : Gam} {g : Nat} {a1 : Int} {a2 : Int} {a3 : Int} {μ : Mem} {k : Int → Mem → Prop} (hs : StatR μ.2.2) (h : f_H_grouped a1 a2 a3 μ k) : CT l Γ yX11_grouped cX11_grouped 4 (some .int) 5 123 0 0 [vr Γ 0, vi a1, vi a2, vi a3] g 175 μ (pI k) := by
  refine SW.ct (by decide) (Nat.le_of_ble_eq_true rfl) ?_
  refine z_sub (lv' := [(0, vr Γ 0), (1, vi a1), (2, vi a2), (3, vi a3)]) [0, 1, 2, 3] rfl ?_
  show SW l Γ yX11_grouped.cls cX11_grouped Y_H_grouped (pI k) g 175 0 0 μ 0 [(0, vr Γ 0), (1, vi a1), (2, vi a2), (3, vi a3)] []
  unfold f_H_grouped at h
  refine z_rload_n dX11_grouped_0 rfl 0 rfl ?_
  refine z_getR (q := 1008) ff_11_8 dX11_grouped_1 kt_0 (Nat.le_of_ble_eq_true rfl) fl_X11_84 rfl (hs.1 _ _ sr_1008) ?_
  refine z_iload_n dX11_grouped_4 rfl 1 rfl ?_
  refine z_iload_n dX11_grouped_5 rfl 2 rfl ?_
  refine z_VI (i_Comp_groupUp  hs h) vk_X1_groupUp kt_91 (Nat.le_of_ble_eq_true rfl) rfl ml_X11_321 ⟨Nat.le_of_ble_eq_true rfl, Nat.le_of_ble_eq_true rfl⟩ ⟨Nat.zero_le _, Nat.zero_le _⟩ rfl rfl (Nat.le_of_ble_eq_true rfl) dX11_grouped_6 (fun r6 μ_1 hs h => ?_)
  refine z_iconst dX11_grouped_9 ?_
  refine z_icmp_ne (tgt := 17) dX11_grouped_10 (by decide) h (fun h => ?_) (fun h => ?_)
  · refine z_iconst dX11_grouped_13 ?_
    refine z_goto (tgt := 25) dX11_grouped_14 (by decide) ?_
    exact z_iret rfl dX11_grouped_25 rfl rfl rfl ⟨_, rfl, hs, h⟩
  · refine z_rload_n dX11_grouped_17 rfl 0 rfl ?_
    refine z_getR (q := 1008) ff_11_8 dX11_grouped_18 kt_0 (Nat.le_of_ble_eq_true rfl) fl_X11_84 rfl (hs.1 _ _ sr_1008) ?_
    refine z_iload_n dX11_grouped_21 rfl 3 rfl ?_
    refine z_VI (i_Comp_groupOf  hs h) vk_X1_groupOf kt_91 (Nat.le_of_ble_eq_true rfl) rfl ml_X11_324 ⟨Nat.le_of_ble_eq_true rfl, Nat.le_of_ble_eq_true rfl⟩ ⟨Nat.zero_le _, Nat.zero_le _⟩ rfl rfl (Nat.le_of_ble_eq_true rfl) dX11_grouped_22 (fun r22 μ_2 hs h => ?_)
    exact z_iret rfl dX11_grouped_25 rfl rfl rfl ⟨_, rfl, hs, h⟩
abbrev Y_Count_sumUpBranches : Yt := (2, none, yX2_sumUpBranches.name, { frames := 2, cells := 0, slots := 0, locals := 42 }, 175, 0, 0)
def l_Count_sumUpBranches_6 (X_6_57 : Mem → Prop) : Nat → Int → Mem → Prop
  | 0, _, _ => False
  | fu6 + 1, v1, μ_2 => if w v1 < w (rI μ_2 1137 0) then (f_Count_add (at' μ_2 2 12 (at' μ_2 3 48 v1)) (at' μ_2 77 48 v1) 1 μ_2 (fun μ_3 => (l_Count_sumUpBranches_6 X_6_57 fu6) (v1 + 1) μ_3)) else (X_6_57 μ_2)
def f_Count_sumUpBranches  (μ : Mem) (k : Mem → Prop) : Prop := f_Count_beginSum  μ (fun μ_1 => ∃ m6 : Nat, l_Count_sumUpBranches_6 (fun (μ_4 : Mem) => f_Count_endSum  μ_4 (fun μ_5 => k μ_5)) m6 0 μ_1)
theorem L_Count_sumUpBranches_6 {l : Launch} {Γ : Gam} {g : Nat} {X_6_57 : Mem → Prop} {k : Mem → Prop} (hX_6_57 : ∀ (ν : Mem), StatR ν.2.2 → X_6_57 ν → SW l Γ yX2_sumUpBranches.cls cX2_sumUpBranches Y_Count_sumUpBranches (pV k) g 175 0 0 ν 57 [(0, vr Γ 73)] []) (n9 : Nat) : ∀ (v1 : Int) (μ_2 : Mem), StatR μ_2.2.2 → l_Count_sumUpBranches_6 X_6_57 n9 v1 μ_2 → SW l Γ yX2_sumUpBranches.cls cX2_sumUpBranches Y_Count_sumUpBranches (pV k) g 175 0 0 μ_2 6 [(0, vr Γ 73), (1, vi v1)] [] := by
  induction n9 with
  | zero =>
    intro v1 μ_2 hs h
    exact h.elim
  | succ n9 hR_6 =>
    intro v1 μ_2 hs h
    rw [l_Count_sumUpBranches_6] at h
    refine z_iload_n dX2_sumUpBranches_6 rfl 1 rfl ?_
    refine z_rload_n dX2_sumUpBranches_7 rfl 0 rfl ?_
    refine z_getR (q := 10344) ff_2_0 dX2_sumUpBranches_8 kt_73 (Nat.le_of_ble_eq_true rfl) fl_X2_42 rfl (hs.1 _ _ sr_10344) ?_
    refine z_getI (q := 1137) ff_7_9 dX2_sumUpBranches_11 kt_1 (Nat.le_of_ble_eq_true rfl) fl_X2_90 rfl ?_
    refine z_icmp_ge (tgt := 57) dX2_sumUpBranches_14 (by decide) h (fun h => ?_) (fun h => ?_)
    · refine z_rload_n dX2_sumUpBranches_17 rfl 0 rfl ?_
      refine z_rload_n dX2_sumUpBranches_18 rfl 0 rfl ?_
      refine z_getR (q := 10344) ff_2_0 dX2_sumUpBranches_19 kt_73 (Nat.le_of_ble_eq_true rfl) fl_X2_42 rfl (hs.1 _ _ sr_10344) ?_
      refine z_getR (q := 1128) ff_7_0 dX2_sumUpBranches_22 kt_1 (Nat.le_of_ble_eq_true rfl) fl_X2_124 rfl (hs.1 _ _ sr_1128) ?_
      refine z_rload_n dX2_sumUpBranches_25 rfl 0 rfl ?_
      refine z_getR (q := 10344) ff_2_0 dX2_sumUpBranches_26 kt_73 (Nat.le_of_ble_eq_true rfl) fl_X2_42 rfl (hs.1 _ _ sr_10344) ?_
      refine z_getR (q := 1129) ff_7_1 dX2_sumUpBranches_29 kt_1 (Nat.le_of_ble_eq_true rfl) fl_X2_93 rfl (hs.1 _ _ sr_1129) ?_
      refine z_iload_n dX2_sumUpBranches_32 rfl 1 rfl ?_
      refine z_NE (i_X11_at kt_3 (Nat.le_of_ble_eq_true rfl)) ok_X11_at nw_X2_59 ⟨Nat.le_of_ble_eq_true rfl, Nat.le_of_ble_eq_true rfl⟩ ⟨Nat.zero_le _, Nat.zero_le _⟩ rfl rfl (Nat.le_of_ble_eq_true rfl) dX2_sumUpBranches_33 ?_
      refine z_NE (i_X11_at kt_2 (Nat.le_of_ble_eq_true rfl)) ok_X11_at nw_X2_59 ⟨Nat.le_of_ble_eq_true rfl, Nat.le_of_ble_eq_true rfl⟩ ⟨Nat.zero_le _, Nat.zero_le _⟩ rfl rfl (Nat.le_of_ble_eq_true rfl) dX2_sumUpBranches_36 ?_
      refine z_rload_n dX2_sumUpBranches_39 rfl 0 rfl ?_
      refine z_getR (q := 10348) ff_2_4 dX2_sumUpBranches_40 kt_73 (Nat.le_of_ble_eq_true rfl) fl_X2_21 rfl (hs.1 _ _ sr_10348) ?_
      refine z_iload_n dX2_sumUpBranches_43 rfl 1 rfl ?_
      refine z_NE (i_X11_at kt_77 (Nat.le_of_ble_eq_true rfl)) ok_X11_at nw_X2_59 ⟨Nat.le_of_ble_eq_true rfl, Nat.le_of_ble_eq_true rfl⟩ ⟨Nat.zero_le _, Nat.zero_le _⟩ rfl rfl (Nat.le_of_ble_eq_true rfl) dX2_sumUpBranches_44 ?_
      refine z_iconst dX2_sumUpBranches_47 ?_
      refine z_VU (i_Count_add  hs h) vk_X2_add kt_73 (Nat.le_of_ble_eq_true rfl) rfl ml_X2_140 ⟨Nat.le_of_ble_eq_true rfl, Nat.le_of_ble_eq_true rfl⟩ ⟨Nat.zero_le _, Nat.zero_le _⟩ rfl rfl (Nat.le_of_ble_eq_true rfl) dX2_sumUpBranches_48 (fun μ_3 hs h => ?_)
      refine z_iinc (j := 1) (lv' := [(1, vi (v1 + 1)), (0, vr Γ 73)]) dX2_sumUpBranches_51 rfl (Nat.le_of_ble_eq_true rfl) rfl ?_
      refine z_goto (tgt := 6) dX2_sumUpBranches_54 (by decide) ?_
      refine z_sub (lv' := [(0, vr Γ 73), (1, vi (v1 + 1))]) [1, 0] rfl ?_
      exact hR_6 (v1 + 1) μ_3 hs h
    · refine z_sub (lv' := [(0, vr Γ 73)]) [0] rfl ?_
      exact hX_6_57 μ_2 hs h
theorem i_Count_sumUpBranches {l : Launch} {Γ : Gam} {g : Nat} {μ : Mem} {k : Mem → Prop} (hs : StatR μ.2.2) (h : f_Count_sumUpBranches  μ k) : CT l Γ yX2_sumUpBranches cX2_sumUpBranches 2 none 2 42 0 0 [vr Γ 73] g 175 μ (pV k) := by
  refine SW.ct (by decide) (Nat.le_of_ble_eq_true rfl) ?_
  refine z_sub (lv' := [(0, vr Γ 73)]) [0] rfl ?_
  show SW l Γ yX2_sumUpBranches.cls cX2_sumUpBranches Y_Count_sumUpBranches (pV k) g 175 0 0 μ 0 [(0, vr Γ 73)] []
  unfold f_Count_sumUpBranches at h
  refine z_rload_n dX2_sumUpBranches_0 rfl 0 rfl ?_
  refine z_VU (i_Count_beginSum  hs h) vk_X2_beginSum kt_73 (Nat.le_of_ble_eq_true rfl) rfl ml_X2_137 ⟨Nat.le_of_ble_eq_true rfl, Nat.le_of_ble_eq_true rfl⟩ ⟨Nat.zero_le _, Nat.zero_le _⟩ rfl rfl (Nat.le_of_ble_eq_true rfl) dX2_sumUpBranches_1 (fun μ_1 hs h => ?_)
  refine z_iconst dX2_sumUpBranches_4 ?_
  refine z_istore_n (lv' := [(1, vi 0), (0, vr Γ 73)]) dX2_sumUpBranches_5 rfl (Nat.le_of_ble_eq_true rfl) rfl ?_
  obtain ⟨m6, h⟩ := h
  refine z_sub (lv' := [(0, vr Γ 73), (1, vi 0)]) [1, 0] rfl ?_
  refine L_Count_sumUpBranches_6 (fun μ_4 hs h => ?_) m6 0 μ_1 hs h
  refine z_rload_n dX2_sumUpBranches_57 rfl 0 rfl ?_
  refine z_VU (i_Count_endSum  hs h) vk_X2_endSum kt_73 (Nat.le_of_ble_eq_true rfl) rfl ml_X2_144 ⟨Nat.le_of_ble_eq_true rfl, Nat.le_of_ble_eq_true rfl⟩ ⟨Nat.zero_le _, Nat.zero_le _⟩ rfl rfl (Nat.le_of_ble_eq_true rfl) dX2_sumUpBranches_58 (fun μ_5 hs h => ?_)
  exact z_vret rfl dX2_sumUpBranches_61 rfl rfl rfl ⟨rfl, hs, h⟩
