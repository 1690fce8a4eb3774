abbrev Y_Floor_amendRow : Yt := (8, none, yX3_amendRow.name, { frames := 2, cells := 0, slots := 0, locals := 47 }, 175, 0, 0)
def b_Floor_amendRow_111 (R_8 : Int → Mem → Prop) (v1_1 : Int) (v2_1 : Int) (v3_2 : Int) (v4_2 : Int) (v5_2 : Int) (v7_1 : Int) (μ_5 : Mem) : Prop := if w v5_2 = w 2 then (if w v7_1 = w (-1) then (R_8 (v4_2 + 1) μ_5) else (f_Floor_turnLine v1_1 v7_1 v2_1 μ_5 (fun μ_6 => R_8 (v4_2 + 1) μ_6))) else (R_8 (v4_2 + 1) μ_5)
def b_Floor_amendRow_90 (R_8 : Int → Mem → Prop) (v1 : Int) (v2 : Int) (v3_1 : Int) (v4_1 : Int) (v5_1 : Int) (v7 : Int) (μ_4 : Mem) : Prop := if w v5_1 = 0 then (if w v7 = w (-1) then (b_Floor_amendRow_111 R_8 v1 v2 v3_1 v4_1 v5_1 v7 μ_4) else (f_Floor_strikeLine v1 v7 μ_4 (fun μ_7 => R_8 (v4_1 + 1) μ_7))) else (b_Floor_amendRow_111 R_8 v1 v2 v3_1 v4_1 v5_1 v7 μ_4)
def l_Floor_amendRow_8 (a1 : Int) (a2 : Int) (v3 : Int) (X_8_137 : Mem → Prop) : Nat → Int → Mem → Prop
  | 0, _, _ => False
  | fu8 + 1, v4, μ_1 => if w v4 < w (v3 + (at' μ_1 15 40 a2)) then (∀ v5 : Int, v5 = at' μ_1 16 240 v4 → ∀ v6 : Int, v6 = at' μ_1 17 240 v4 → f_Floor_find a1 (w_abs v6) μ_1 (fun r61 μ_2 => if w v5 = w 1 then (if w r61 = w (-1) then (f_Floor_addLine a1 v6 0 a2 μ_2 (fun μ_3 => (l_Floor_amendRow_8 a1 a2 v3 X_8_137 fu8) (v4 + 1) μ_3)) else (b_Floor_amendRow_90 (l_Floor_amendRow_8 a1 a2 v3 X_8_137 fu8) a1 a2 v3 v4 v5 r61 μ_2)) else (b_Floor_amendRow_90 (l_Floor_amendRow_8 a1 a2 v3 X_8_137 fu8) a1 a2 v3 v4 v5 r61 μ_2))) else (X_8_137 μ_1)
def f_Floor_amendRow (a1 : Int) (a2 : Int) (μ : Mem) (k : Mem → Prop) : Prop := ∀ v3 : Int, v3 = a2 * 6 → ∃ m8 : Nat, l_Floor_amendRow_8 a1 a2 v3 (fun (μ_8 : Mem) => k μ_8) m8 v3 μ
theorem B_Floor_amendRow_111 {l : Launch} {Γ : Gam} {g : Nat} {R_8 : Int → Mem → Prop} {k : Mem → Prop} {v1_1 : Int} {v2_1 : Int} {v3_2 : Int} {v4_2 : Int} {v5_2 : Int} {v7_1 : Int} {μ_5 : Mem} (hR_8 : ∀ (u4 : Int) (ν : Mem), StatR ν.2.2 → R_8 u4 ν → SW l Γ yX3_amendRow.cls cX3_amendRow Y_Floor_amendRow (pV k) g 175 0 0 ν 8 [(0, vr Γ 67), (1, vi v1_1), (2, vi v2_1), (3, vi v3_2), (4, vi u4)] []) (hs : StatR μ_5.2.2) (h : b_Floor_amendRow_111 R_8 v1_1 v2_1 v3_2 v4_2 v5_2 v7_1 μ_5) : SW l Γ yX3_amendRow.cls cX3_amendRow Y_Floor_amendRow (pV k) g 175 0 0 μ_5 111 [(0, vr Γ 67), (1, vi v1_1), (2, vi v2_1), (3, vi v3_2), (4, vi v4_2), (5, vi v5_2), (7, vi v7_1)] [] := by
  unfold b_Floor_amendRow_111 at h
  refine z_iload dX3_amendRow_111 5 rfl ?_
  refine z_iconst dX3_amendRow_113 ?_
  refine z_icmp_ne (tgt := 131) dX3_amendRow_114 (by decide) h (fun h => ?_) (fun h => ?_)
  · refine z_iload dX3_amendRow_117 6 rfl ?_
    refine z_iconst dX3_amendRow_119 ?_
    refine z_icmp_eq (tgt := 131) dX3_amendRow_120 (by decide) h (fun h => ?_) (fun h => ?_)
    · refine z_iinc (j := 4) (lv' := [(4, vi (v4_2 + 1)), (0, vr Γ 67), (1, vi v1_1), (2, vi v2_1), (3, vi v3_2), (5, vi v5_2), (7, vi v7_1)]) dX3_amendRow_131 rfl (Nat.le_of_ble_eq_true rfl) rfl ?_
      refine z_goto (tgt := 8) dX3_amendRow_134 (by decide) ?_
      refine z_sub (lv' := [(0, vr Γ 67), (1, vi v1_1), (2, vi v2_1), (3, vi v3_2), (4, vi (v4_2 + 1))]) [1, 2, 3, 4, 0] rfl ?_
      exact hR_8 (v4_2 + 1) μ_5 hs h
    · refine z_rload_n dX3_amendRow_123 rfl 0 rfl ?_
      refine z_iload_n dX3_amendRow_124 rfl 1 rfl ?_
      refine z_iload dX3_amendRow_125 6 rfl ?_
      refine z_iload_n dX3_amendRow_127 rfl 2 rfl ?_
      refine z_VU (i_Floor_turnLine  hs h) vk_X3_turnLine kt_67 (Nat.le_of_ble_eq_true rfl) rfl ml_X3_96 ⟨Nat.le_of_ble_eq_true rfl, Nat.le_of_ble_eq_true rfl⟩ ⟨Nat.zero_le _, Nat.zero_le _⟩ rfl rfl (Nat.le_of_ble_eq_true rfl) dX3_amendRow_128 (fun μ_6 hs h => ?_)
      refine z_iinc (j := 4) (lv' := [(4, vi (v4_2 + 1)), (0, vr Γ 67), (1, vi v1_1), (2, vi v2_1), (3, vi v3_2), (5, vi v5_2), (7, vi v7_1)]) dX3_amendRow_131 rfl (Nat.le_of_ble_eq_true rfl) rfl ?_
      refine z_goto (tgt := 8) dX3_amendRow_134 (by decide) ?_
      refine z_sub (lv' := [(0, vr Γ 67), (1, vi v1_1), (2, vi v2_1), (3, vi v3_2), (4, vi (v4_2 + 1))]) [1, 2, 3, 4, 0] rfl ?_
      exact hR_8 (v4_2 + 1) μ_6 hs h
  · refine z_iinc (j := 4) (lv' := [(4, vi (v4_2 + 1)), (0, vr Γ 67), (1, vi v1_1), (2, vi v2_1), (3, vi v3_2), (5, vi v5_2), (7, vi v7_1)]) dX3_amendRow_131 rfl (Nat.le_of_ble_eq_true rfl) rfl ?_
    refine z_goto (tgt := 8) dX3_amendRow_134 (by decide) ?_
    refine z_sub (lv' := [(0, vr Γ 67), (1, vi v1_1), (2, vi v2_1), (3, vi v3_2), (4, vi (v4_2 + 1))]) [1, 2, 3, 4, 0] rfl ?_
    exact hR_8 (v4_2 + 1) μ_5 hs h
theorem B_Floor_amendRow_90 {l : Launch} {Γ : Gam} {g : Nat} {R_8 : Int → Mem → Prop} {k : Mem → Prop} {v1 : Int} {v2 : Int} {v3_1 : Int} {v4_1 : Int} {v5_1 : Int} {v7 : Int} {μ_4 : Mem} (hR_8 : ∀ (u4 : Int) (ν : Mem), StatR ν.2.2 → R_8 u4 ν → SW l Γ yX3_amendRow.cls cX3_amendRow Y_Floor_amendRow (pV k) g 175 0 0 ν 8 [(0, vr Γ 67), (1, vi v1), (2, vi v2), (3, vi v3_1), (4, vi u4)] []) (hs : StatR μ_4.2.2) (h : b_Floor_amendRow_90 R_8 v1 v2 v3_1 v4_1 v5_1 v7 μ_4) : SW l Γ yX3_amendRow.cls cX3_amendRow Y_Floor_amendRow (pV k) g 175 0 0 μ_4 90 [(0, vr Γ 67), (1, vi v1), (2, vi v2), (3, vi v3_1), (4, vi v4_1), (5, vi v5_1), (7, vi v7)] [] := by
  unfold b_Floor_amendRow_90 at h
  refine z_iload dX3_amendRow_90 5 rfl ?_
  refine z_if_ne (tgt := 111) dX3_amendRow_92 (by decide) h (fun h => ?_) (fun h => ?_)
  · refine z_iload dX3_amendRow_95 6 rfl ?_
    refine z_iconst dX3_amendRow_97 ?_
    refine z_icmp_eq (tgt := 111) dX3_amendRow_98 (by decide) h (fun h => ?_) (fun h => ?_)
    · refine z_sub (lv' := [(0, vr Γ 67), (1, vi v1), (2, vi v2), (3, vi v3_1), (4, vi v4_1), (5, vi v5_1), (7, vi v7)]) [0, 1, 2, 3, 4, 5, 6] rfl ?_
      exact B_Floor_amendRow_111 hR_8 hs h
    · refine z_rload_n dX3_amendRow_101 rfl 0 rfl ?_
      refine z_iload_n dX3_amendRow_102 rfl 1 rfl ?_
      refine z_iload dX3_amendRow_103 6 rfl ?_
      refine z_VU (i_Floor_strikeLine  hs h) vk_X3_strikeLine kt_67 (Nat.le_of_ble_eq_true rfl) rfl ml_X3_93 ⟨Nat.le_of_ble_eq_true rfl, Nat.le_of_ble_eq_true rfl⟩ ⟨Nat.zero_le _, Nat.zero_le _⟩ rfl rfl (Nat.le_of_ble_eq_true rfl) dX3_amendRow_105 (fun μ_7 hs h => ?_)
      refine z_goto (tgt := 131) dX3_amendRow_108 (by decide) ?_
      refine z_iinc (j := 4) (lv' := [(4, vi (v4_1 + 1)), (0, vr Γ 67), (1, vi v1), (2, vi v2), (3, vi v3_1), (5, vi v5_1), (7, vi v7)]) dX3_amendRow_131 rfl (Nat.le_of_ble_eq_true rfl) rfl ?_
      refine z_goto (tgt := 8) dX3_amendRow_134 (by decide) ?_
      refine z_sub (lv' := [(0, vr Γ 67), (1, vi v1), (2, vi v2), (3, vi v3_1), (4, vi (v4_1 + 1))]) [1, 2, 3, 4, 0] rfl ?_
      exact hR_8 (v4_1 + 1) μ_7 hs h
  · refine z_sub (lv' := [(0, vr Γ 67), (1, vi v1), (2, vi v2), (3, vi v3_1), (4, vi v4_1), (5, vi v5_1), (7, vi v7)]) [0, 1, 2, 3, 4, 5, 6] rfl ?_
    exact B_Floor_amendRow_111 hR_8 hs h
theorem L_Floor_amendRow_8 {l : Launch} {Γ : Gam} {g : Nat} {a1 : Int} {a2 : Int} {v3 : Int} {X_8_137 : Mem → Prop} {k : Mem → Prop} (hX_8_137 : ∀ (ν : Mem), StatR ν.2.2 → X_8_137 ν → SW l Γ yX3_amendRow.cls cX3_amendRow Y_Floor_amendRow (pV k) g 175 0 0 ν 137 [] []) (n9 : Nat) : ∀ (v4 : Int) (μ_1 : Mem), StatR μ_1.2.2 → l_Floor_amendRow_8 a1 a2 v3 X_8_137 n9 v4 μ_1 → SW l Γ yX3_amendRow.cls cX3_amendRow Y_Floor_amendRow (pV k) g 175 0 0 μ_1 8 [(0, vr Γ 67), (1, vi a1), (2, vi a2), (3, vi v3), (4, vi v4)] [] := by
  induction n9 with
  | zero =>
    intro v4 μ_1 hs h
    exact h.elim
  | succ n9 hR_8 =>
    intro v4 μ_1 hs h
    rw [l_Floor_amendRow_8] at h
    refine z_iload dX3_amendRow_8 4 rfl ?_
    refine z_iload_n dX3_amendRow_10 rfl 3 rfl ?_
    refine z_rload_n dX3_amendRow_11 rfl 0 rfl ?_
    refine z_getR (q := 9576) ff_3_0 dX3_amendRow_12 kt_67 (Nat.le_of_ble_eq_true rfl) fl_X3_31 rfl (hs.1 _ _ sr_9576) ?_
    refine z_getR (q := 2538) ff_6_2 dX3_amendRow_15 kt_12 (Nat.le_of_ble_eq_true rfl) fl_X3_76 rfl (hs.1 _ _ sr_2538) ?_
    refine z_iload_n dX3_amendRow_18 rfl 2 rfl ?_
    refine z_NE (i_X11_at kt_15 (Nat.le_of_ble_eq_true rfl)) ok_X11_at nw_X3_54 ⟨Nat.le_of_ble_eq_true rfl, Nat.le_of_ble_eq_true rfl⟩ ⟨Nat.zero_le _, Nat.zero_le _⟩ rfl rfl (Nat.le_of_ble_eq_true rfl) dX3_amendRow_19 ?_
    refine z_iadd dX3_amendRow_22 ?_
    refine z_icmp_ge (tgt := 137) dX3_amendRow_23 (by decide) h (fun h => ?_) (fun h => ?_)
    · refine z_rload_n dX3_amendRow_26 rfl 0 rfl ?_
      refine z_getR (q := 9576) ff_3_0 dX3_amendRow_27 kt_67 (Nat.le_of_ble_eq_true rfl) fl_X3_31 rfl (hs.1 _ _ sr_9576) ?_
      refine z_getR (q := 2539) ff_6_3 dX3_amendRow_30 kt_12 (Nat.le_of_ble_eq_true rfl) fl_X3_79 rfl (hs.1 _ _ sr_2539) ?_
      refine z_iload dX3_amendRow_33 4 rfl ?_
      refine z_NE (i_X11_at kt_16 (Nat.le_of_ble_eq_true rfl)) ok_X11_at nw_X3_54 ⟨Nat.le_of_ble_eq_true rfl, Nat.le_of_ble_eq_true rfl⟩ ⟨Nat.zero_le _, Nat.zero_le _⟩ rfl rfl (Nat.le_of_ble_eq_true rfl) dX3_amendRow_35 ?_
      refine z_nm (fun v5 ev5 => ?_)
      replace h := h v5 ev5
      refine z_istore (lv' := [(5, vi v5), (0, vr Γ 67), (1, vi a1), (2, vi a2), (3, vi v3), (4, vi v4)]) dX3_amendRow_38 (Nat.le_of_ble_eq_true rfl) rfl ?_
      refine z_rload_n dX3_amendRow_40 rfl 1 rfl ?_
      refine z_getR (q := 9576) ff_3_0 dX3_amendRow_41 kt_67 (Nat.le_of_ble_eq_true rfl) fl_X3_31 rfl (hs.1 _ _ sr_9576) ?_
      refine z_getR (q := 2540) ff_6_4 dX3_amendRow_44 kt_12 (Nat.le_of_ble_eq_true rfl) fl_X3_82 rfl (hs.1 _ _ sr_2540) ?_
      refine z_iload dX3_amendRow_47 5 rfl ?_
      refine z_NE (i_X11_at kt_17 (Nat.le_of_ble_eq_true rfl)) ok_X11_at nw_X3_54 ⟨Nat.le_of_ble_eq_true rfl, Nat.le_of_ble_eq_true rfl⟩ ⟨Nat.zero_le _, Nat.zero_le _⟩ rfl rfl (Nat.le_of_ble_eq_true rfl) dX3_amendRow_49 ?_
      refine z_nm (fun v6 ev6 => ?_)
      replace h := h v6 ev6
      refine z_istore (lv' := [(6, vi v6), (5, vi v5), (0, vr Γ 67), (1, vi a1), (2, vi a2), (3, vi v3), (4, vi v4)]) dX3_amendRow_52 (Nat.le_of_ble_eq_true rfl) rfl ?_
      refine z_rload_n dX3_amendRow_54 rfl 2 rfl ?_
      refine z_iload_n dX3_amendRow_55 rfl 3 rfl ?_
      refine z_iload dX3_amendRow_56 0 rfl ?_
      refine z_abs dX3_amendRow_58 mm_X3_71 ms_abs mi_math mc_abs ⟨Nat.le_of_ble_eq_true rfl, Nat.le_of_ble_eq_true rfl⟩ ⟨Nat.zero_le _, Nat.zero_le _⟩ ?_
      refine z_VI (i_Floor_find  hs h) vk_X3_find kt_67 (Nat.le_of_ble_eq_true rfl) rfl ml_X3_85 ⟨Nat.le_of_ble_eq_true rfl, Nat.le_of_ble_eq_true rfl⟩ ⟨Nat.zero_le _, Nat.zero_le _⟩ rfl rfl (Nat.le_of_ble_eq_true rfl) dX3_amendRow_61 (fun r61 μ_2 hs h => ?_)
      refine z_istore (lv' := [(7, vi r61), (6, vi v6), (5, vi v5), (0, vr Γ 67), (1, vi a1), (2, vi a2), (3, vi v3), (4, vi v4)]) dX3_amendRow_64 (Nat.le_of_ble_eq_true rfl) rfl ?_
      refine z_iload dX3_amendRow_66 2 rfl ?_
      refine z_iconst dX3_amendRow_68 ?_
      refine z_icmp_ne (tgt := 90) dX3_amendRow_69 (by decide) h (fun h => ?_) (fun h => ?_)
      · refine z_iload dX3_amendRow_72 0 rfl ?_
        refine z_iconst dX3_amendRow_74 ?_
        refine z_icmp_ne (tgt := 90) dX3_amendRow_75 (by decide) h (fun h => ?_) (fun h => ?_)
        · refine z_rload_n dX3_amendRow_78 rfl 3 rfl ?_
          refine z_iload_n dX3_amendRow_79 rfl 4 rfl ?_
          refine z_iload dX3_amendRow_80 1 rfl ?_
          refine z_iconst dX3_amendRow_82 ?_
          refine z_iload_n dX3_amendRow_83 rfl 5 rfl ?_
          refine z_VU (i_Floor_addLine  hs h) vk_X3_addLine kt_67 (Nat.le_of_ble_eq_true rfl) rfl ml_X3_89 ⟨Nat.le_of_ble_eq_true rfl, Nat.le_of_ble_eq_true rfl⟩ ⟨Nat.zero_le _, Nat.zero_le _⟩ rfl rfl (Nat.le_of_ble_eq_true rfl) dX3_amendRow_84 (fun μ_3 hs h => ?_)
          refine z_goto (tgt := 131) dX3_amendRow_87 (by decide) ?_
          refine z_iinc (j := 7) (lv' := [(4, vi (v4 + 1)), (7, vi r61), (6, vi v6), (5, vi v5), (0, vr Γ 67), (1, vi a1), (2, vi a2), (3, vi v3)]) dX3_amendRow_131 rfl (Nat.le_of_ble_eq_true rfl) rfl ?_
          refine z_goto (tgt := 8) dX3_amendRow_134 (by decide) ?_
          refine z_sub (lv' := [(0, vr Γ 67), (1, vi a1), (2, vi a2), (3, vi v3), (4, vi (v4 + 1))]) [4, 5, 6, 7, 0] rfl ?_
          exact hR_8 (v4 + 1) μ_3 hs h
        · refine z_sub (lv' := [(0, vr Γ 67), (1, vi a1), (2, vi a2), (3, vi v3), (4, vi v4), (5, vi v5), (7, vi r61)]) [3, 4, 5, 6, 7, 2, 0] rfl ?_
          exact B_Floor_amendRow_90 hR_8 hs h
      · refine z_sub (lv' := [(0, vr Γ 67), (1, vi a1), (2, vi a2), (3, vi v3), (4, vi v4), (5, vi v5), (7, vi r61)]) [3, 4, 5, 6, 7, 2, 0] rfl ?_
        exact B_Floor_amendRow_90 hR_8 hs h
    · refine z_sub (lv' := []) [] rfl ?_
      exact hX_8_137 μ_1 hs h
theorem i_Floor_amendRow {l : Launch} {Γ : Gam} {g : Nat} {a1 : Int} {a2 : Int} {μ : Mem} {k : Mem → Prop} (hs : StatR μ.2.2) (h : f_Floor_amendRow a1 a2 μ k) : CT l Γ yX3_amendRow cX3_amendRow 8 none 2 47 0 0 [vr Γ 67, vi a1, vi a2] g 175 μ (pV k) := by
  refine SW.ct (by decide) (Nat.le_of_ble_eq_true rfl) ?_
  refine z_sub (lv' := [(0, vr Γ 67), (1, vi a1), (2, vi a2)]) [0, 1, 2] rfl ?_
  show SW l Γ yX3_amendRow.cls cX3_amendRow Y_Floor_amendRow (pV k) g 175 0 0 μ 0 [(0, vr Γ 67), (1, vi a1), (2, vi a2)] []
  unfold f_Floor_amendRow at h
  refine z_iload_n dX3_amendRow_0 rfl 2 rfl ?_
  refine z_bipush dX3_amendRow_1 (by decide) ?_
  refine z_imul dX3_amendRow_3 ?_
  refine z_nm (fun v3 ev3 => ?_)
  replace h := h v3 ev3
  refine z_istore_n (lv' := [(3, vi v3), (0, vr Γ 67), (1, vi a1), (2, vi a2)]) dX3_amendRow_4 rfl (Nat.le_of_ble_eq_true rfl) rfl ?_
  refine z_iload_n dX3_amendRow_5 rfl 0 rfl ?_
  refine z_istore (lv' := [(4, vi v3), (3, vi v3), (0, vr Γ 67), (1, vi a1), (2, vi a2)]) dX3_amendRow_6 (Nat.le_of_ble_eq_true rfl) rfl ?_
  obtain ⟨m8, h⟩ := h
  refine z_sub (lv' := [(0, vr Γ 67), (1, vi a1), (2, vi a2), (3, vi v3), (4, vi v3)]) [2, 3, 4, 1, 0] rfl ?_
  refine L_Floor_amendRow_8 (fun μ_8 hs h => ?_) m8 v3 μ hs h
  exact z_vret rfl dX3_amendRow_137 rfl rfl rfl ⟨rfl, hs, h⟩
def v_Floor_sizeOf (a1 : Int) (μ : Mem) : Int := at' μ 69 25 a1
theorem i_Floor_sizeOf {l : Launch} {Γ : Gam} {g : Nat} {μ : Mem} {a1 : Int} (hs : StatR μ.2.2) : CT l Γ yX3_sizeOf cX3_sizeOf 2 (some .int) 1 21 0 0 [vr Γ 67, vi a1] g 175 μ (pE (vi (v_Floor_sizeOf a1 μ)) μ) := by
  refine SW.ct (by decide) (Nat.le_of_ble_eq_true rfl) ?_
  refine z_sub (lv' := [(0, vr Γ 67), (1, vi a1)]) [0, 1] rfl ?_
  have hv : v_Floor_sizeOf a1 μ = v_Floor_sizeOf a1 μ := rfl
  refine z_rload_n dX3_sizeOf_0 rfl 0 rfl ?_
  refine z_getR (q := 9578) ff_3_2 dX3_sizeOf_1 kt_67 (Nat.le_of_ble_eq_true rfl) fl_X3_15 rfl (hs.1 _ _ sr_9578) ?_
  refine z_iload_n dX3_sizeOf_4 rfl 1 rfl ?_
  refine z_NE (i_X11_at kt_69 (Nat.le_of_ble_eq_true rfl)) ok_X11_at nw_X3_54 ⟨Nat.le_of_ble_eq_true rfl, Nat.le_of_ble_eq_true rfl⟩ ⟨Nat.zero_le _, Nat.zero_le _⟩ rfl rfl (Nat.le_of_ble_eq_true rfl) dX3_sizeOf_5 ?_
  exact z_iret rfl dX3_sizeOf_8 rfl rfl rfl ⟨by first | (rw [hv]; done) | rfl, rfl⟩
abbrev Y_Floor_passAmendment : Yt := (3, none, yX3_passAmendment.name, { frames := 3, cells := 0, slots := 0, locals := 74 }, 175, 0, 0)
def f_Floor_passAmendment (a1 : Int) (μ : Mem) (k : Mem → Prop) : Prop := ∀ v2 : Int, v2 = at' μ 14 40 a1 → f_Floor_put (100 + a1) 1 μ (fun μ_1 => f_Floor_amendRow v2 a1 μ_1 (fun μ_2 => if w (v_Floor_sizeOf v2 μ_2) = 0 then (f_Floor_closeMotion v2 3 μ_2 (fun μ_3 => k μ_3)) else (k μ_2)))
theorem i_Floor_passAmendment {l : Launch} {Γ : Gam} {g : Nat} {a1 : Int} {μ : Mem} {k : Mem → Prop} (hs : StatR μ.2.2) (h : f_Floor_passAmendment a1 μ k) : CT l Γ yX3_passAmendment cX3_passAmendment 3 none 3 74 0 0 [vr Γ 67, vi a1] g 175 μ (pV k) := by
  refine SW.ct (by decide) (Nat.le_of_ble_eq_true rfl) ?_
  refine z_sub (lv' := [(0, vr Γ 67), (1, vi a1)]) [0, 1] rfl ?_
  show SW l Γ yX3_passAmendment.cls cX3_passAmendment Y_Floor_passAmendment (pV k) g 175 0 0 μ 0 [(0, vr Γ 67), (1, vi a1)] []
  unfold f_Floor_passAmendment at h
  refine z_rload_n dX3_passAmendment_0 rfl 0 rfl ?_
  refine z_getR (q := 9576) ff_3_0 dX3_passAmendment_1 kt_67 (Nat.le_of_ble_eq_true rfl) fl_X3_31 rfl (hs.1 _ _ sr_9576) ?_
  refine z_getR (q := 2537) ff_6_1 dX3_passAmendment_4 kt_12 (Nat.le_of_ble_eq_true rfl) fl_X3_115 rfl (hs.1 _ _ sr_2537) ?_
  refine z_iload_n dX3_passAmendment_7 rfl 1 rfl ?_
  refine z_NE (i_X11_at kt_14 (Nat.le_of_ble_eq_true rfl)) ok_X11_at nw_X3_54 ⟨Nat.le_of_ble_eq_true rfl, Nat.le_of_ble_eq_true rfl⟩ ⟨Nat.zero_le _, Nat.zero_le _⟩ rfl rfl (Nat.le_of_ble_eq_true rfl) dX3_passAmendment_8 ?_
  refine z_nm (fun v2 ev2 => ?_)
  replace h := h v2 ev2
  refine z_istore_n (lv' := [(2, vi v2), (0, vr Γ 67), (1, vi a1)]) dX3_passAmendment_11 rfl (Nat.le_of_ble_eq_true rfl) rfl ?_
  refine z_rload_n dX3_passAmendment_12 rfl 1 rfl ?_
  refine z_bipush dX3_passAmendment_13 (by decide) ?_
  refine z_iload_n dX3_passAmendment_15 rfl 2 rfl ?_
  refine z_iadd dX3_passAmendment_16 ?_
  refine z_iconst dX3_passAmendment_17 ?_
  refine z_VU (i_Floor_put  hs h) vk_X3_put kt_67 (Nat.le_of_ble_eq_true rfl) rfl ml_X3_62 ⟨Nat.le_of_ble_eq_true rfl, Nat.le_of_ble_eq_true rfl⟩ ⟨Nat.zero_le _, Nat.zero_le _⟩ rfl rfl (Nat.le_of_ble_eq_true rfl) dX3_passAmendment_18 (fun μ_1 hs h => ?_)
  refine z_rload_n dX3_passAmendment_21 rfl 1 rfl ?_
  refine z_iload_n dX3_passAmendment_22 rfl 0 rfl ?_
  refine z_iload_n dX3_passAmendment_23 rfl 2 rfl ?_
  refine z_VU (i_Floor_amendRow  hs h) vk_X3_amendRow kt_67 (Nat.le_of_ble_eq_true rfl) rfl ml_X3_122 ⟨Nat.le_of_ble_eq_true rfl, Nat.le_of_ble_eq_true rfl⟩ ⟨Nat.zero_le _, Nat.zero_le _⟩ rfl rfl (Nat.le_of_ble_eq_true rfl) dX3_passAmendment_24 (fun μ_2 hs h => ?_)
  refine z_rload_n dX3_passAmendment_27 rfl 1 rfl ?_
  refine z_iload_n dX3_passAmendment_28 rfl 0 rfl ?_
  refine z_VE (i_Floor_sizeOf hs) vk_X3_sizeOf kt_67 (Nat.le_of_ble_eq_true rfl) rfl ml_X3_100 ⟨Nat.le_of_ble_eq_true rfl, Nat.le_of_ble_eq_true rfl⟩ ⟨Nat.zero_le _, Nat.zero_le _⟩ rfl rfl (Nat.le_of_ble_eq_true rfl) dX3_passAmendment_29 ?_
  refine z_if_ne (tgt := 41) dX3_passAmendment_32 (by decide) h (fun h => ?_) (fun h => ?_)
  · refine z_rload_n dX3_passAmendment_35 rfl 1 rfl ?_
    refine z_iload_n dX3_passAmendment_36 rfl 0 rfl ?_
    refine z_iconst dX3_passAmendment_37 ?_
    refine z_VU (i_Floor_closeMotion  hs h) vk_X3_closeMotion kt_67 (Nat.le_of_ble_eq_true rfl) rfl ml_X3_132 ⟨Nat.le_of_ble_eq_true rfl, Nat.le_of_ble_eq_true rfl⟩ ⟨Nat.zero_le _, Nat.zero_le _⟩ rfl rfl (Nat.le_of_ble_eq_true rfl) dX3_passAmendment_38 (fun μ_3 hs h => ?_)
    exact z_vret rfl dX3_passAmendment_41 rfl rfl rfl ⟨rfl, hs, h⟩
  · exact z_vret rfl dX3_passAmendment_41 rfl rfl rfl ⟨rfl, hs, h⟩
abbrev Y_Floor_bitsOf : Yt := (8, (some .long), yX3_bitsOf.name, { frames := 1, cells := 0, slots := 0, locals := 21 }, 175, 0, 0)
def l_Floor_bitsOf_23 (a2 : Int) (μ : Mem) (v5 : Int) (X_23_65 : Int64 → Prop) : Nat → Int64 → Int → Prop
  | 0, _, _ => False
  | fu23 + 1, v3, v6_1 => if w v6_1 < w v5 then (∀ v7 : Int, v7 = (at' μ 70 300 v6_1) * a2 → ∀ x57 : Int64, x57 = (if 0 < w v7 then (w_lshl 1 v7) else 0) → ∀ v3_1 : Int64, v3_1 = v3 ||| x57 → (l_Floor_bitsOf_23 a2 μ v5 X_23_65 fu23) v3_1 (v6_1 + 1)) else (X_23_65 v3)
def f_Floor_bitsOf (a1 : Int) (a2 : Int) (μ : Mem) (k : Int64 → Mem → Prop) : Prop := ∀ v5 : Int, v5 = (a1 * 12) + (at' μ 69 25 a1) → ∀ v6 : Int, v6 = a1 * 12 → ∃ m23 : Nat, l_Floor_bitsOf_23 a2 μ v5 (fun (v3_2 : Int64) => k v3_2 μ) m23 0 v6
theorem L_Floor_bitsOf_23 {l : Launch} {Γ : Gam} {g : Nat} {a2 : Int} {μ : Mem} {v5 : Int} {X_23_65 : Int64 → Prop} {k : Int64 → Mem → Prop} (hs : StatR μ.2.2) (hX_23_65 : ∀ (u3 : Int64), X_23_65 u3 → SW l Γ yX3_bitsOf.cls cX3_bitsOf Y_Floor_bitsOf (pL k) g 175 0 0 μ 65 [(3, vl u3)] []) (n9 : Nat) : ∀ (v3 : Int64) (v6_1 : Int), l_Floor_bitsOf_23 a2 μ v5 X_23_65 n9 v3 v6_1 → SW l Γ yX3_bitsOf.cls cX3_bitsOf Y_Floor_bitsOf (pL k) g 175 0 0 μ 23 [(0, vr Γ 67), (2, vi a2), (3, vl v3), (5, vi v5), (6, vi v6_1)] [] := by
  induction n9 with
  | zero =>
    intro v3 v6_1 h
    exact h.elim
  | succ n9 hR_23 =>
    intro v3 v6_1 h
    rw [l_Floor_bitsOf_23] at h
    refine z_iload dX3_bitsOf_23 4 rfl ?_
    refine z_iload dX3_bitsOf_25 3 rfl ?_
    refine z_icmp_ge (tgt := 65) dX3_bitsOf_27 (by decide) h (fun h => ?_) (fun h => ?_)
    · refine z_rload_n dX3_bitsOf_30 rfl 0 rfl ?_
      refine z_getR (q := 9579) ff_3_3 dX3_bitsOf_31 kt_67 (Nat.le_of_ble_eq_true rfl) fl_X3_18 rfl (hs.1 _ _ sr_9579) ?_
      refine z_iload dX3_bitsOf_34 4 rfl ?_
      refine z_NE (i_X11_at kt_70 (Nat.le_of_ble_eq_true rfl)) ok_X11_at nw_X3_54 ⟨Nat.le_of_ble_eq_true rfl, Nat.le_of_ble_eq_true rfl⟩ ⟨Nat.zero_le _, Nat.zero_le _⟩ rfl rfl (Nat.le_of_ble_eq_true rfl) dX3_bitsOf_36 ?_
      refine z_iload_n dX3_bitsOf_39 rfl 1 rfl ?_
      refine z_imul dX3_bitsOf_40 ?_
      refine z_nm (fun v7 ev7 => ?_)
      replace h := h v7 ev7
      refine z_istore (lv' := [(7, vi v7), (0, vr Γ 67), (2, vi a2), (3, vl v3), (5, vi v5), (6, vi v6_1)]) dX3_bitsOf_41 (Nat.le_of_ble_eq_true rfl) rfl ?_
      refine z_lload_n dX3_bitsOf_43 rfl 3 rfl ?_
      refine z_iload dX3_bitsOf_44 0 rfl ?_
      refine z_phiL 57 [vl v3] (fun V9 hv J9 => ?_) h (fun x57 h => ?_)
      · refine z_if_le (tgt := 56) dX3_bitsOf_46 (by decide) (eq_ite hv) (fun hv => ?_) (fun hv => ?_)
        · refine z_lconst (v := 1) dX3_bitsOf_49 rfl ?_
          refine z_iload dX3_bitsOf_50 0 rfl ?_
          refine z_lshl dX3_bitsOf_52 ?_
          refine z_goto (tgt := 57) dX3_bitsOf_53 (by decide) ?_
          exact J9 _ hv.symm
        · refine z_lconst (v := 0) dX3_bitsOf_56 rfl ?_
          exact J9 _ hv.symm
      · refine z_lor dX3_bitsOf_57 ?_
        refine z_nmL (fun v3_1 ev3_1 => ?_)
        replace h := h v3_1 ev3_1
        refine z_lstore_n (lv' := [(3, vl v3_1), (7, vi v7), (0, vr Γ 67), (2, vi a2), (5, vi v5), (6, vi v6_1)]) dX3_bitsOf_58 rfl (Nat.le_of_ble_eq_true rfl) rfl ?_
        refine z_iinc (j := 5) (lv' := [(6, vi (v6_1 + 1)), (3, vl v3_1), (7, vi v7), (0, vr Γ 67), (2, vi a2), (5, vi v5)]) dX3_bitsOf_59 rfl (Nat.le_of_ble_eq_true rfl) rfl ?_
        refine z_goto (tgt := 23) dX3_bitsOf_62 (by decide) ?_
        refine z_sub (lv' := [(0, vr Γ 67), (2, vi a2), (3, vl v3_1), (5, vi v5), (6, vi (v6_1 + 1))]) [3, 4, 1, 5, 0] rfl ?_
        exact hR_23 v3_1 (v6_1 + 1) h
    · refine z_sub (lv' := [(3, vl v3)]) [2] rfl ?_
      exact hX_23_65 v3 h
theorem i_Floor_bitsOf {l : Launch} {Γ : Gam} {g : Nat} {a1 : Int} {a2 : Int} {μ : Mem} {k : Int64 → Mem → Prop} (hs : StatR μ.2.2) (h : f_Floor_bitsOf a1 a2 μ k) : CT l Γ yX3_bitsOf cX3_bitsOf 8 (some .long) 1 21 0 0 [vr Γ 67, vi a1, vi a2] g 175 μ (pL k) := by
  refine SW.ct (by decide) (Nat.le_of_ble_eq_true rfl) ?_
  refine z_sub (lv' := [(0, vr Γ 67), (1, vi a1), (2, vi a2)]) [0, 1, 2] rfl ?_
  show SW l Γ yX3_bitsOf.cls cX3_bitsOf Y_Floor_bitsOf (pL k) g 175 0 0 μ 0 [(0, vr Γ 67), (1, vi a1), (2, vi a2)] []
  unfold f_Floor_bitsOf at h
  refine z_lconst (v := 0) dX3_bitsOf_0 rfl ?_
  refine z_lstore_n (lv' := [(3, vl 0), (0, vr Γ 67), (1, vi a1), (2, vi a2)]) dX3_bitsOf_1 rfl (Nat.le_of_ble_eq_true rfl) rfl ?_
  refine z_iload_n dX3_bitsOf_2 rfl 2 rfl ?_
  refine z_bipush dX3_bitsOf_3 (by decide) ?_
  refine z_imul dX3_bitsOf_5 ?_
  refine z_rload_n dX3_bitsOf_6 rfl 1 rfl ?_
  refine z_getR (q := 9578) ff_3_2 dX3_bitsOf_7 kt_67 (Nat.le_of_ble_eq_true rfl) fl_X3_15 rfl (hs.1 _ _ sr_9578) ?_
  refine z_iload_n dX3_bitsOf_10 rfl 2 rfl ?_
  refine z_NE (i_X11_at kt_69 (Nat.le_of_ble_eq_true rfl)) ok_X11_at nw_X3_54 ⟨Nat.le_of_ble_eq_true rfl, Nat.le_of_ble_eq_true rfl⟩ ⟨Nat.zero_le _, Nat.zero_le _⟩ rfl rfl (Nat.le_of_ble_eq_true rfl) dX3_bitsOf_11 ?_
  refine z_iadd dX3_bitsOf_14 ?_
  refine z_nm (fun v5 ev5 => ?_)
  replace h := h v5 ev5
  refine z_istore (lv' := [(5, vi v5), (3, vl 0), (0, vr Γ 67), (1, vi a1), (2, vi a2)]) dX3_bitsOf_15 (Nat.le_of_ble_eq_true rfl) rfl ?_
  refine z_iload_n dX3_bitsOf_17 rfl 3 rfl ?_
  refine z_bipush dX3_bitsOf_18 (by decide) ?_
  refine z_imul dX3_bitsOf_20 ?_
  refine z_nm (fun v6 ev6 => ?_)
  replace h := h v6 ev6
  refine z_istore (lv' := [(6, vi v6), (5, vi v5), (3, vl 0), (0, vr Γ 67), (1, vi a1), (2, vi a2)]) dX3_bitsOf_21 (Nat.le_of_ble_eq_true rfl) rfl ?_
  obtain ⟨m23, h⟩ := h
  refine z_sub (lv' := [(0, vr Γ 67), (2, vi a2), (3, vl 0), (5, vi v5), (6, vi v6)]) [3, 5, 2, 1, 0] rfl ?_
  refine L_Floor_bitsOf_23 hs (fun v3_2 h => ?_) m23 0 v6 h
  refine z_lload_n dX3_bitsOf_65 rfl 0 rfl ?_
  exact z_lret rfl dX3_bitsOf_66 rfl rfl rfl ⟨_, rfl, hs, h⟩
abbrev Y_Floor_areContrary : Yt := (3, (some .boolean), yX3_areContrary.name, { frames := 2, cells := 0, slots := 0, locals := 48 }, 175, 0, 0)
def f_Floor_areContrary (a1 : Int) (a2 : Int) (μ : Mem) (k : Bool → Mem → Prop) : Prop := f_Floor_bitsOf a1 1 μ (fun r3 μ_1 => f_Floor_bitsOf a2 (-1) μ_1 (fun r9 μ_2 => f_Floor_bitsOf a1 (-1) μ_2 (fun r16 μ_3 => f_Floor_bitsOf a2 1 μ_3 (fun r22 μ_4 => ∀ x37 : Bool, x37 = (if ((r3 &&& r9) ||| (r16 &&& r22)) = 0 then false else true) → k x37 μ_4))))
theorem i_Floor_areContrary {l : Launch} {Γ : Gam} {g : Nat} {a1 : Int} {a2 : Int} {μ : Mem} {k : Bool → Mem → Prop} (hs : StatR μ.2.2) (h : f_Floor_areContrary a1 a2 μ k) : CT l Γ yX3_areContrary cX3_areContrary 3 (some .boolean) 2 48 0 0 [vr Γ 67, vi a1, vi a2] g 175 μ (pB k) := by
  refine SW.ct (by decide) (Nat.le_of_ble_eq_true rfl) ?_
  refine z_sub (lv' := [(0, vr Γ 67), (1, vi a1), (2, vi a2)]) [0, 1, 2] rfl ?_
  show SW l Γ yX3_areContrary.cls cX3_areContrary Y_Floor_areContrary (pB k) g 175 0 0 μ 0 [(0, vr Γ 67), (1, vi a1), (2, vi a2)] []
  unfold f_Floor_areContrary at h
  refine z_rload_n dX3_areContrary_0 rfl 0 rfl ?_
  refine z_iload_n dX3_areContrary_1 rfl 1 rfl ?_
  refine z_iconst dX3_areContrary_2 ?_
  refine z_VL (i_Floor_bitsOf  hs h) vk_X3_bitsOf kt_67 (Nat.le_of_ble_eq_true rfl) rfl ml_X3_125 ⟨Nat.le_of_ble_eq_true rfl, Nat.le_of_ble_eq_true rfl⟩ ⟨Nat.zero_le _, Nat.zero_le _⟩ rfl rfl (Nat.le_of_ble_eq_true rfl) dX3_areContrary_3 (fun r3 μ_1 hs h => ?_)
  refine z_rload_n dX3_areContrary_6 rfl 0 rfl ?_
  refine z_iload_n dX3_areContrary_7 rfl 2 rfl ?_
  refine z_iconst dX3_areContrary_8 ?_
  refine z_VL (i_Floor_bitsOf  hs h) vk_X3_bitsOf kt_67 (Nat.le_of_ble_eq_true rfl) rfl ml_X3_125 ⟨Nat.le_of_ble_eq_true rfl, Nat.le_of_ble_eq_true rfl⟩ ⟨Nat.zero_le _, Nat.zero_le _⟩ rfl rfl (Nat.le_of_ble_eq_true rfl) dX3_areContrary_9 (fun r9 μ_2 hs h => ?_)
  refine z_land dX3_areContrary_12 ?_
  refine z_rload_n dX3_areContrary_13 rfl 0 rfl ?_
  refine z_iload_n dX3_areContrary_14 rfl 1 rfl ?_
  refine z_iconst dX3_areContrary_15 ?_
  refine z_VL (i_Floor_bitsOf  hs h) vk_X3_bitsOf kt_67 (Nat.le_of_ble_eq_true rfl) rfl ml_X3_125 ⟨Nat.le_of_ble_eq_true rfl, Nat.le_of_ble_eq_true rfl⟩ ⟨Nat.zero_le _, Nat.zero_le _⟩ rfl rfl (Nat.le_of_ble_eq_true rfl) dX3_areContrary_16 (fun r16 μ_3 hs h => ?_)
  refine z_rload_n dX3_areContrary_19 rfl 0 rfl ?_
  refine z_iload_n dX3_areContrary_20 rfl 2 rfl ?_
  refine z_iconst dX3_areContrary_21 ?_
  refine z_VL (i_Floor_bitsOf  hs h) vk_X3_bitsOf kt_67 (Nat.le_of_ble_eq_true rfl) rfl ml_X3_125 ⟨Nat.le_of_ble_eq_true rfl, Nat.le_of_ble_eq_true rfl⟩ ⟨Nat.zero_le _, Nat.zero_le _⟩ rfl rfl (Nat.le_of_ble_eq_true rfl) dX3_areContrary_22 (fun r22 μ_4 hs h => ?_)
  refine z_land dX3_areContrary_25 ?_
  refine z_lor dX3_areContrary_26 ?_
  refine z_lconst (v := 0) dX3_areContrary_27 rfl ?_
  refine z_phiB 37 [] (fun V9 hv J9 => ?_) h (fun x37 h => ?_)
  · refine z_lcmp_eq (tgt := 36) dX3_areContrary_28 dX3_areContrary_29 (by decide) (eq_ite hv) (fun hv => ?_) (fun hv => ?_)
    · refine z_iconst dX3_areContrary_36 ?_
      exact J9 false hv.symm
    · refine z_iconst dX3_areContrary_32 ?_
      refine z_goto (tgt := 37) dX3_areContrary_33 (by decide) ?_
      exact J9 true hv.symm
  · exact z_zret (b := x37) rfl dX3_areContrary_37 rfl rfl rfl ⟨_, rfl, hs, h⟩
abbrev Y_Floor_passMotion : Yt := (7, none, yX3_passMotion.name, { frames := 3, cells := 0, slots := 0, locals := 70 }, 175, 0, 0)
def l_Floor_passMotion_58 (a1 : Int) (X_58_108 : Mem → Prop) : Nat → Int → Mem → Prop
  | 0, _, _ => False
  | fu58 + 1, v6, μ_6 => if w v6 < w (rI μ_6 2543 0) then (if w v6 = w a1 then ((l_Floor_passMotion_58 a1 X_58_108 fu58) (v6 + 1) μ_6) else (if w (v_Floor_stateOf v6 μ_6) = 0 then (f_Floor_areContrary v6 a1 μ_6 (fun r89 μ_7 => if r89 = true then (f_Floor_closeMotion v6 3 μ_7 (fun μ_8 => (l_Floor_passMotion_58 a1 X_58_108 fu58) (v6 + 1) μ_8)) else ((l_Floor_passMotion_58 a1 X_58_108 fu58) (v6 + 1) μ_7))) else ((l_Floor_passMotion_58 a1 X_58_108 fu58) (v6 + 1) μ_6))) else (X_58_108 μ_6)
def f_Floor_passMotion (a1 : Int) (μ : Mem) (k : Mem → Prop) : Prop := f_Floor_closeMotion a1 1 μ (fun μ_1 => f_Floor_bitsOf a1 1 μ_1 (fun r9 μ_2 => f_Floor_bitsOf a1 (-1) μ_2 (fun r16 μ_3 => ∀ μ_4 : Mem, μ_4 = sL μ_3 9582 0 (((rL μ_3 9582 0) &&& (r16 ^^^ (-1))) ||| r9) → ∀ μ_5 : Mem, μ_5 = sL μ_4 9583 0 (((rL μ_4 9583 0) &&& (r9 ^^^ (-1))) ||| r16) → ∃ m58 : Nat, l_Floor_passMotion_58 a1 (fun (μ_9 : Mem) => k μ_9) m58 0 μ_5)))
theorem L_Floor_passMotion_58 {l : Launch} {Γ : Gam} {g : Nat} {a1 : Int} {X_58_108 : Mem → Prop} {k : Mem → Prop} (hX_58_108 : ∀ (ν : Mem), StatR ν.2.2 → X_58_108 ν → SW l Γ yX3_passMotion.cls cX3_passMotion Y_Floor_passMotion (pV k) g 175 0 0 ν 108 [] []) (n9 : Nat) : ∀ (v6 : Int) (μ_6 : Mem), StatR μ_6.2.2 → l_Floor_passMotion_58 a1 X_58_108 n9 v6 μ_6 → SW l Γ yX3_passMotion.cls cX3_passMotion Y_Floor_passMotion (pV k) g 175 0 0 μ_6 58 [(0, vr Γ 67), (1, vi a1), (6, vi v6)] [] := by
  induction n9 with
  | zero =>
    intro v6 μ_6 hs h
    exact h.elim
  | succ n9 hR_58 =>
    intro v6 μ_6 hs h
    rw [l_Floor_passMotion_58] at h
    refine z_iload dX3_passMotion_58 2 rfl ?_
    refine z_rload_n dX3_passMotion_60 rfl 0 rfl ?_
    refine z_getR (q := 9576) ff_3_0 dX3_passMotion_61 kt_67 (Nat.le_of_ble_eq_true rfl) fl_X3_31 rfl (hs.1 _ _ sr_9576) ?_
    refine z_getI (q := 2543) ff_6_7 dX3_passMotion_64 kt_12 (Nat.le_of_ble_eq_true rfl) fl_X3_66 rfl ?_
    refine z_icmp_ge (tgt := 108) dX3_passMotion_67 (by decide) h (fun h => ?_) (fun h => ?_)
    · refine z_iload dX3_passMotion_70 2 rfl ?_
      refine z_iload_n dX3_passMotion_72 rfl 1 rfl ?_
      refine z_icmp_eq (tgt := 102) dX3_passMotion_73 (by decide) h (fun h => ?_) (fun h => ?_)
      · refine z_iinc (j := 2) (lv' := [(6, vi (v6 + 1)), (0, vr Γ 67), (1, vi a1)]) dX3_passMotion_102 rfl (Nat.le_of_ble_eq_true rfl) rfl ?_
        refine z_goto (tgt := 58) dX3_passMotion_105 (by decide) ?_
        refine z_sub (lv' := [(0, vr Γ 67), (1, vi a1), (6, vi (v6 + 1))]) [1, 2, 0] rfl ?_
        exact hR_58 (v6 + 1) μ_6 hs h
      · refine z_rload_n dX3_passMotion_76 rfl 0 rfl ?_
        refine z_iload dX3_passMotion_77 2 rfl ?_
        refine z_VE (i_Floor_stateOf hs) vk_X3_stateOf kt_67 (Nat.le_of_ble_eq_true rfl) rfl ml_X3_50 ⟨Nat.le_of_ble_eq_true rfl, Nat.le_of_ble_eq_true rfl⟩ ⟨Nat.zero_le _, Nat.zero_le _⟩ rfl rfl (Nat.le_of_ble_eq_true rfl) dX3_passMotion_79 ?_
        refine z_if_ne (tgt := 102) dX3_passMotion_82 (by decide) h (fun h => ?_) (fun h => ?_)
        · refine z_rload_n dX3_passMotion_85 rfl 0 rfl ?_
          refine z_iload dX3_passMotion_86 2 rfl ?_
          refine z_iload_n dX3_passMotion_88 rfl 1 rfl ?_
          refine z_VB (i_Floor_areContrary  hs h) vk_X3_areContrary kt_67 (Nat.le_of_ble_eq_true rfl) rfl ml_X3_137 ⟨Nat.le_of_ble_eq_true rfl, Nat.le_of_ble_eq_true rfl⟩ ⟨Nat.zero_le _, Nat.zero_le _⟩ rfl rfl (Nat.le_of_ble_eq_true rfl) dX3_passMotion_89 (fun r89 μ_7 hs h => ?_)
          refine z_ifeq_b (tgt := 102) dX3_passMotion_92 (by decide) h (fun h => ?_) (fun h => ?_)
          · refine z_rload_n dX3_passMotion_95 rfl 0 rfl ?_
            refine z_iload dX3_passMotion_96 2 rfl ?_
            refine z_iconst dX3_passMotion_98 ?_
            refine z_VU (i_Floor_closeMotion  hs h) vk_X3_closeMotion kt_67 (Nat.le_of_ble_eq_true rfl) rfl ml_X3_132 ⟨Nat.le_of_ble_eq_true rfl, Nat.le_of_ble_eq_true rfl⟩ ⟨Nat.zero_le _, Nat.zero_le _⟩ rfl rfl (Nat.le_of_ble_eq_true rfl) dX3_passMotion_99 (fun μ_8 hs h => ?_)
            refine z_iinc (j := 2) (lv' := [(6, vi (v6 + 1)), (0, vr Γ 67), (1, vi a1)]) dX3_passMotion_102 rfl (Nat.le_of_ble_eq_true rfl) rfl ?_
            refine z_goto (tgt := 58) dX3_passMotion_105 (by decide) ?_
            refine z_sub (lv' := [(0, vr Γ 67), (1, vi a1), (6, vi (v6 + 1))]) [1, 2, 0] rfl ?_
            exact hR_58 (v6 + 1) μ_8 hs h
          · refine z_iinc (j := 2) (lv' := [(6, vi (v6 + 1)), (0, vr Γ 67), (1, vi a1)]) dX3_passMotion_102 rfl (Nat.le_of_ble_eq_true rfl) rfl ?_
            refine z_goto (tgt := 58) dX3_passMotion_105 (by decide) ?_
            refine z_sub (lv' := [(0, vr Γ 67), (1, vi a1), (6, vi (v6 + 1))]) [1, 2, 0] rfl ?_
            exact hR_58 (v6 + 1) μ_7 hs h
        · refine z_iinc (j := 2) (lv' := [(6, vi (v6 + 1)), (0, vr Γ 67), (1, vi a1)]) dX3_passMotion_102 rfl (Nat.le_of_ble_eq_true rfl) rfl ?_
          refine z_goto (tgt := 58) dX3_passMotion_105 (by decide) ?_
          refine z_sub (lv' := [(0, vr Γ 67), (1, vi a1), (6, vi (v6 + 1))]) [1, 2, 0] rfl ?_
          exact hR_58 (v6 + 1) μ_6 hs h
    · refine z_sub (lv' := []) [] rfl ?_
      exact hX_58_108 μ_6 hs h
theorem i_Floor_passMotion {l : Launch} {Γ : Gam} {g : Nat} {a1 : Int} {μ : Mem} {k : Mem → Prop} (hs : StatR μ.2.2) (h : f_Floor_passMotion a1 μ k) : CT l Γ yX3_passMotion cX3_passMotion 7 none 3 70 0 0 [vr Γ 67, vi a1] g 175 μ (pV k) := by
  refine SW.ct (by decide) (Nat.le_of_ble_eq_true rfl) ?_
  refine z_sub (lv' := [(0, vr Γ 67), (1, vi a1)]) [0, 1] rfl ?_
  show SW l Γ yX3_passMotion.cls cX3_passMotion Y_Floor_passMotion (pV k) g 175 0 0 μ 0 [(0, vr Γ 67), (1, vi a1)] []
  unfold f_Floor_passMotion at h
  refine z_rload_n dX3_passMotion_0 rfl 0 rfl ?_
  refine z_iload_n dX3_passMotion_1 rfl 1 rfl ?_
  refine z_iconst dX3_passMotion_2 ?_
  refine z_VU (i_Floor_closeMotion  hs h) vk_X3_closeMotion kt_67 (Nat.le_of_ble_eq_true rfl) rfl ml_X3_132 ⟨Nat.le_of_ble_eq_true rfl, Nat.le_of_ble_eq_true rfl⟩ ⟨Nat.zero_le _, Nat.zero_le _⟩ rfl rfl (Nat.le_of_ble_eq_true rfl) dX3_passMotion_3 (fun μ_1 hs h => ?_)
  refine z_rload_n dX3_passMotion_6 rfl 0 rfl ?_
  refine z_iload_n dX3_passMotion_7 rfl 1 rfl ?_
  refine z_iconst dX3_passMotion_8 ?_
  refine z_VL (i_Floor_bitsOf  hs h) vk_X3_bitsOf kt_67 (Nat.le_of_ble_eq_true rfl) rfl ml_X3_125 ⟨Nat.le_of_ble_eq_true rfl, Nat.le_of_ble_eq_true rfl⟩ ⟨Nat.zero_le _, Nat.zero_le _⟩ rfl rfl (Nat.le_of_ble_eq_true rfl) dX3_passMotion_9 (fun r9 μ_2 hs h => ?_)
  refine z_lstore_n (lv' := [(2, vl r9), (0, vr Γ 67), (1, vi a1)]) dX3_passMotion_12 rfl (Nat.le_of_ble_eq_true rfl) rfl ?_
  refine z_rload_n dX3_passMotion_13 rfl 1 rfl ?_
  refine z_iload_n dX3_passMotion_14 rfl 2 rfl ?_
  refine z_iconst dX3_passMotion_15 ?_
  refine z_VL (i_Floor_bitsOf  hs h) vk_X3_bitsOf kt_67 (Nat.le_of_ble_eq_true rfl) rfl ml_X3_125 ⟨Nat.le_of_ble_eq_true rfl, Nat.le_of_ble_eq_true rfl⟩ ⟨Nat.zero_le _, Nat.zero_le _⟩ rfl rfl (Nat.le_of_ble_eq_true rfl) dX3_passMotion_16 (fun r16 μ_3 hs h => ?_)
  refine z_lstore (lv' := [(4, vl r16), (2, vl r9), (0, vr Γ 67), (1, vi a1)]) dX3_passMotion_19 (Nat.le_of_ble_eq_true rfl) rfl ?_
  refine z_rload_n dX3_passMotion_21 rfl 2 rfl ?_
  refine z_rload_n dX3_passMotion_22 rfl 2 rfl ?_
  refine z_getJ (q := 9582) ff_3_6 dX3_passMotion_23 kt_67 (Nat.le_of_ble_eq_true rfl) fl_X3_43 rfl ?_
  refine z_lload dX3_passMotion_26 0 rfl ?_
  refine z_ldc2 (v := (-1)) dX3_passMotion_28 cl_X3_135 ?_
  refine z_lxor dX3_passMotion_31 ?_
  refine z_land dX3_passMotion_32 ?_
  refine z_lload_n dX3_passMotion_33 rfl 1 rfl ?_
  refine z_lor dX3_passMotion_34 ?_
  refine z_putJ (q := 9582) ff_3_6 (Or.inl rfl) rfl dX3_passMotion_35 kt_67 (Nat.le_of_ble_eq_true rfl) fl_X3_43 rfl ?_
  refine z_mm (fun μ_4 eμ_4 => ?_)
  replace h := h μ_4 eμ_4
  replace hs : StatR μ_4.2.2 := by rw [eμ_4]; exact hs
  refine z_rload_n dX3_passMotion_38 rfl 2 rfl ?_
  refine z_rload_n dX3_passMotion_39 rfl 2 rfl ?_
  refine z_getJ (q := 9583) ff_3_7 dX3_passMotion_40 kt_67 (Nat.le_of_ble_eq_true rfl) fl_X3_47 rfl ?_
  refine z_lload_n dX3_passMotion_43 rfl 1 rfl ?_
  refine z_ldc2 (v := (-1)) dX3_passMotion_44 cl_X3_135 ?_
  refine z_lxor dX3_passMotion_47 ?_
  refine z_land dX3_passMotion_48 ?_
  refine z_lload dX3_passMotion_49 0 rfl ?_
  refine z_lor dX3_passMotion_51 ?_
  refine z_putJ (q := 9583) ff_3_7 (Or.inl rfl) rfl dX3_passMotion_52 kt_67 (Nat.le_of_ble_eq_true rfl) fl_X3_47 rfl ?_
  refine z_mm (fun μ_5 eμ_5 => ?_)
  replace h := h μ_5 eμ_5
  replace hs : StatR μ_5.2.2 := by rw [eμ_5]; exact hs
  refine z_iconst dX3_passMotion_55 ?_
  refine z_istore (lv' := [(6, vi 0), (4, vl r16), (2, vl r9), (0, vr Γ 67), (1, vi a1)]) dX3_passMotion_56 (Nat.le_of_ble_eq_true rfl) rfl ?_
  obtain ⟨m58, h⟩ := h
  refine z_sub (lv' := [(0, vr Γ 67), (1, vi a1), (6, vi 0)]) [3, 4, 0] rfl ?_
  refine L_Floor_passMotion_58 (fun μ_9 hs h => ?_) m58 0 μ_5 hs h
  exact z_vret rfl dX3_passMotion_108 rfl rfl rfl ⟨rfl, hs, h⟩
abbrev Y_Floor_passOrders : Yt := (2, none, yX3_passOrders.name, { frames := 2, cells := 0, slots := 0, locals := 44 }, 175, 0, 0)
def f_Floor_passOrders (a1 : Int) (μ : Mem) (k : Mem → Prop) : Prop := f_Floor_put (200 + a1) 1 μ (fun μ_1 => ∀ μ_2 : Mem, μ_2 = sI μ_1 9584 0 a1 → k μ_2)
theorem i_Floor_passOrders {l : Launch} {Γ : Gam} {g : Nat} {a1 : Int} {μ : Mem} {k : Mem → Prop} (hs : StatR μ.2.2) (h : f_Floor_passOrders a1 μ k) : CT l Γ yX3_passOrders cX3_passOrders 2 none 2 44 0 0 [vr Γ 67, vi a1] g 175 μ (pV k) := by
  refine SW.ct (by decide) (Nat.le_of_ble_eq_true rfl) ?_
  refine z_sub (lv' := [(0, vr Γ 67), (1, vi a1)]) [0, 1] rfl ?_
  show SW l Γ yX3_passOrders.cls cX3_passOrders Y_Floor_passOrders (pV k) g 175 0 0 μ 0 [(0, vr Γ 67), (1, vi a1)] []
  unfold f_Floor_passOrders at h
  refine z_rload_n dX3_passOrders_0 rfl 0 rfl ?_
  refine z_sipush dX3_passOrders_1 (by decide) ?_
  refine z_iload_n dX3_passOrders_4 rfl 1 rfl ?_
  refine z_iadd dX3_passOrders_5 ?_
  refine z_iconst dX3_passOrders_6 ?_
  refine z_VU (i_Floor_put  hs h) vk_X3_put kt_67 (Nat.le_of_ble_eq_true rfl) rfl ml_X3_62 ⟨Nat.le_of_ble_eq_true rfl, Nat.le_of_ble_eq_true rfl⟩ ⟨Nat.zero_le _, Nat.zero_le _⟩ rfl rfl (Nat.le_of_ble_eq_true rfl) dX3_passOrders_7 (fun μ_1 hs h => ?_)
  refine z_rload_n dX3_passOrders_10 rfl 0 rfl ?_
  refine z_iload_n dX3_passOrders_11 rfl 1 rfl ?_
  refine z_putI (q := 9584) ff_3_8 (Or.inl rfl) rfl dX3_passOrders_12 kt_67 (Nat.le_of_ble_eq_true rfl) fl_X3_27 rfl ?_
  refine z_mm (fun μ_2 eμ_2 => ?_)
  replace h := h μ_2 eμ_2
  replace hs : StatR μ_2.2.2 := by rw [eμ_2]; exact hs
  exact z_vret rfl dX3_passOrders_15 rfl rfl rfl ⟨rfl, hs, h⟩
abbrev Y_Chair_carryOut : Yt := (4, none, yX0_carryOut.name, { frames := 4, cells := 0, slots := 0, locals := 96 }, 175, 0, 0)
def b_Chair_carryOut_24 (k : Mem → Prop) (v1 : Int) (v2 : Bool) (v3_1 : Int) (μ_2 : Mem) : Prop := if w v3_1 = 0 then (f_Floor_closeMotion v1 2 μ_2 (fun μ_3 => k μ_3)) else (if v2 = true then (if w v3_1 = w 1 then (f_Floor_passAmendment (v1 - 100) μ_2 (fun μ_4 => k μ_4)) else (f_Floor_passOrders (v1 - 200) μ_2 (fun μ_5 => k μ_5))) else (f_Floor_put v1 2 μ_2 (fun μ_6 => k μ_6)))
def f_Chair_carryOut (a1 : Int) (a2 : Bool) (μ : Mem) (k : Mem → Prop) : Prop := ∀ v3 : Int, v3 = v_H_kindOf a1 → if w v3 = 0 then (if a2 = true then (f_Floor_passMotion a1 μ (fun μ_1 => k μ_1)) else (b_Chair_carryOut_24 k a1 a2 v3 μ)) else (b_Chair_carryOut_24 k a1 a2 v3 μ)
theorem B_Chair_carryOut_24 {l : Launch} {Γ : Gam} {g : Nat} {k : Mem → Prop} {v1 : Int} {v2 : Bool} {v3_1 : Int} {μ_2 : Mem} (hs : StatR μ_2.2.2) (h : b_Chair_carryOut_24 k v1 v2 v3_1 μ_2) : SW l Γ yX0_carryOut.cls cX0_carryOut Y_Chair_carryOut (pV k) g 175 0 0 μ_2 24 [(0, vr Γ 83), (1, vi v1), (2, vi (b2i v2)), (3, vi v3_1)] [] := by
  unfold b_Chair_carryOut_24 at h
  refine z_iload_n dX0_carryOut_24 rfl 3 rfl ?_
  refine z_if_ne (tgt := 40) dX0_carryOut_25 (by decide) h (fun h => ?_) (fun h => ?_)
  · refine z_rload_n dX0_carryOut_28 rfl 0 rfl ?_
    refine z_getR (q := 11626) ff_0_2 dX0_carryOut_29 kt_83 (Nat.le_of_ble_eq_true rfl) fl_X0_23 rfl (hs.1 _ _ sr_11626) ?_
    refine z_iload_n dX0_carryOut_32 rfl 1 rfl ?_
    refine z_iconst dX0_carryOut_33 ?_
    refine z_VU (i_Floor_closeMotion  hs h) vk_X3_closeMotion kt_67 (Nat.le_of_ble_eq_true rfl) rfl ml_X0_146 ⟨Nat.le_of_ble_eq_true rfl, Nat.le_of_ble_eq_true rfl⟩ ⟨Nat.zero_le _, Nat.zero_le _⟩ rfl rfl (Nat.le_of_ble_eq_true rfl) dX0_carryOut_34 (fun μ_3 hs h => ?_)
    refine z_goto (tgt := 87) dX0_carryOut_37 (by decide) ?_
    exact z_vret rfl dX0_carryOut_87 rfl rfl rfl ⟨rfl, hs, h⟩
  · refine z_iload_n dX0_carryOut_40 rfl 2 rfl ?_
    refine z_ifne_b (tgt := 56) dX0_carryOut_41 (by decide) h (fun h => ?_) (fun h => ?_)
    · refine z_iload_n dX0_carryOut_56 rfl 3 rfl ?_
      refine z_iconst dX0_carryOut_57 ?_
      refine z_icmp_ne (tgt := 75) dX0_carryOut_58 (by decide) h (fun h => ?_) (fun h => ?_)
      · refine z_rload_n dX0_carryOut_61 rfl 0 rfl ?_
        refine z_getR (q := 11626) ff_0_2 dX0_carryOut_62 kt_83 (Nat.le_of_ble_eq_true rfl) fl_X0_23 rfl (hs.1 _ _ sr_11626) ?_
        refine z_iload_n dX0_carryOut_65 rfl 1 rfl ?_
        refine z_bipush dX0_carryOut_66 (by decide) ?_
        refine z_isub dX0_carryOut_68 ?_
        refine z_VU (i_Floor_passAmendment  hs h) vk_X3_passAmendment kt_67 (Nat.le_of_ble_eq_true rfl) rfl ml_X0_152 ⟨Nat.le_of_ble_eq_true rfl, Nat.le_of_ble_eq_true rfl⟩ ⟨Nat.zero_le _, Nat.zero_le _⟩ rfl rfl (Nat.le_of_ble_eq_true rfl) dX0_carryOut_69 (fun μ_4 hs h => ?_)
        refine z_goto (tgt := 87) dX0_carryOut_72 (by decide) ?_
        exact z_vret rfl dX0_carryOut_87 rfl rfl rfl ⟨rfl, hs, h⟩
      · refine z_rload_n dX0_carryOut_75 rfl 0 rfl ?_
        refine z_getR (q := 11626) ff_0_2 dX0_carryOut_76 kt_83 (Nat.le_of_ble_eq_true rfl) fl_X0_23 rfl (hs.1 _ _ sr_11626) ?_
        refine z_iload_n dX0_carryOut_79 rfl 1 rfl ?_
        refine z_sipush dX0_carryOut_80 (by decide) ?_
        refine z_isub dX0_carryOut_83 ?_
        refine z_VU (i_Floor_passOrders  hs h) vk_X3_passOrders kt_67 (Nat.le_of_ble_eq_true rfl) rfl ml_X0_155 ⟨Nat.le_of_ble_eq_true rfl, Nat.le_of_ble_eq_true rfl⟩ ⟨Nat.zero_le _, Nat.zero_le _⟩ rfl rfl (Nat.le_of_ble_eq_true rfl) dX0_carryOut_84 (fun μ_5 hs h => ?_)
        exact z_vret rfl dX0_carryOut_87 rfl rfl rfl ⟨rfl, hs, h⟩
    · refine z_rload_n dX0_carryOut_44 rfl 0 rfl ?_
      refine z_getR (q := 11626) ff_0_2 dX0_carryOut_45 kt_83 (Nat.le_of_ble_eq_true rfl) fl_X0_23 rfl (hs.1 _ _ sr_11626) ?_
      refine z_iload_n dX0_carryOut_48 rfl 1 rfl ?_
      refine z_iconst dX0_carryOut_49 ?_
      refine z_VU (i_Floor_put  hs h) vk_X3_put kt_67 (Nat.le_of_ble_eq_true rfl) rfl ml_X0_149 ⟨Nat.le_of_ble_eq_true rfl, Nat.le_of_ble_eq_true rfl⟩ ⟨Nat.zero_le _, Nat.zero_le _⟩ rfl rfl (Nat.le_of_ble_eq_true rfl) dX0_carryOut_50 (fun μ_6 hs h => ?_)
      refine z_goto (tgt := 87) dX0_carryOut_53 (by decide) ?_
      exact z_vret rfl dX0_carryOut_87 rfl rfl rfl ⟨rfl, hs, h⟩
theorem i_Chair_carryOut {l : Launch} {Γ : Gam} {g : Nat} {a1 : Int} {a2 : Bool} {μ : Mem} {k : Mem → Prop} (hs : StatR μ.2.2) (h : f_Chair_carryOut a1 a2 μ k) : CT l Γ yX0_carryOut cX0_carryOut 4 none 4 96 0 0 [vr Γ 83, vi a1, vi (b2i a2)] g 175 μ (pV k) := by
  refine SW.ct (by decide) (Nat.le_of_ble_eq_true rfl) ?_
  refine z_sub (lv' := [(0, vr Γ 83), (1, vi a1), (2, vi (b2i a2))]) [0, 1, 2] rfl ?_
  show SW l Γ yX0_carryOut.cls cX0_carryOut Y_Chair_carryOut (pV k) g 175 0 0 μ 0 [(0, vr Γ 83), (1, vi a1), (2, vi (b2i a2))] []
  unfold f_Chair_carryOut at h
  refine z_iload_n dX0_carryOut_0 rfl 1 rfl ?_
  refine z_NE (i_H_kindOf ) sk_X11_kindOf nw_X0_107 ⟨Nat.le_of_ble_eq_true rfl, Nat.le_of_ble_eq_true rfl⟩ ⟨Nat.zero_le _, Nat.zero_le _⟩ rfl rfl (Nat.le_of_ble_eq_true rfl) dX0_carryOut_1 ?_
  refine z_nm (fun v3 ev3 => ?_)
  replace h := h v3 ev3
  refine z_istore_n (lv' := [(3, vi v3), (0, vr Γ 83), (1, vi a1), (2, vi (b2i a2))]) dX0_carryOut_4 rfl (Nat.le_of_ble_eq_true rfl) rfl ?_
  refine z_iload_n dX0_carryOut_5 rfl 0 rfl ?_
  refine z_if_ne (tgt := 24) dX0_carryOut_6 (by decide) h (fun h => ?_) (fun h => ?_)
  · refine z_iload_n dX0_carryOut_9 rfl 3 rfl ?_
    refine z_ifeq_b (tgt := 24) dX0_carryOut_10 (by decide) h (fun h => ?_) (fun h => ?_)
    · refine z_rload_n dX0_carryOut_13 rfl 1 rfl ?_
      refine z_getR (q := 11626) ff_0_2 dX0_carryOut_14 kt_83 (Nat.le_of_ble_eq_true rfl) fl_X0_23 rfl (hs.1 _ _ sr_11626) ?_
      refine z_iload_n dX0_carryOut_17 rfl 2 rfl ?_
      refine z_VU (i_Floor_passMotion  hs h) vk_X3_passMotion kt_67 (Nat.le_of_ble_eq_true rfl) rfl ml_X0_143 ⟨Nat.le_of_ble_eq_true rfl, Nat.le_of_ble_eq_true rfl⟩ ⟨Nat.zero_le _, Nat.zero_le _⟩ rfl rfl (Nat.le_of_ble_eq_true rfl) dX0_carryOut_18 (fun μ_1 hs h => ?_)
      refine z_goto (tgt := 87) dX0_carryOut_21 (by decide) ?_
      exact z_vret rfl dX0_carryOut_87 rfl rfl rfl ⟨rfl, hs, h⟩
    · refine z_sub (lv' := [(0, vr Γ 83), (1, vi a1), (2, vi (b2i a2)), (3, vi v3)]) [1, 2, 3, 0] rfl ?_
      exact B_Chair_carryOut_24 hs h
  · refine z_sub (lv' := [(0, vr Γ 83), (1, vi a1), (2, vi (b2i a2)), (3, vi v3)]) [1, 2, 3, 0] rfl ?_
    exact B_Chair_carryOut_24 hs h
abbrev Y_JI_bitCount_0f7a4 : Yt := (1, (some .int), yJ6_bitCount_0f7a4.name, { frames := 0, cells := 0, slots := 0, locals := 0 }, 175, 0, 0)
def f_JI_bitCount_0f7a4 (a1 : Int) (μ : Mem) (k : Int → Mem → Prop) : Prop := ∀ v0 : Int, v0 = a1 - (w_iand (w_iushr a1 1) 1431655765) → ∀ v0_1 : Int, v0_1 = (w_iand v0 858993459) + (w_iand (w_iushr v0 2) 858993459) → ∀ v0_2 : Int, v0_2 = w_iand (v0_1 + (w_iushr v0_1 4)) 252645135 → ∀ v0_3 : Int, v0_3 = v0_2 + (w_iushr v0_2 8) → ∀ v0_4 : Int, v0_4 = v0_3 + (w_iushr v0_3 16) → k (w_iand v0_4 63) μ
def v_popI (a1 : Int) : Int :=
  let v0 := a1 - (w_iand (w_iushr a1 1) 1431655765)
  let v0_1 := (w_iand v0 858993459) + (w_iand (w_iushr v0 2) 858993459)
  let v0_2 := w_iand (v0_1 + (w_iushr v0_1 4)) 252645135
  let v0_3 := v0_2 + (w_iushr v0_2 8)
  let v0_4 := v0_3 + (w_iushr v0_3 16)
  (w_iand v0_4 63)
theorem i_JI_bitCount_0f7a4 {l : Launch} {Γ : Gam} {g : Nat} {a1 : Int} {μ : Mem} {k : Int → Mem → Prop} (hs : StatR μ.2.2) (h : f_JI_bitCount_0f7a4 a1 μ k) : CT l Γ yJ6_bitCount_0f7a4 cJ6_bitCount_0f7a4 1 (some .int) 0 0 0 0 [vi a1] g 175 μ (pI k) := by
  refine SW.ct (by decide) (Nat.le_of_ble_eq_true rfl) ?_
  refine z_sub (lv' := [(0, vi a1)]) [0] rfl ?_
  show SW l Γ yJ6_bitCount_0f7a4.cls cJ6_bitCount_0f7a4 Y_JI_bitCount_0f7a4 (pI k) g 175 0 0 μ 0 [(0, vi a1)] []
  unfold f_JI_bitCount_0f7a4 at h
  refine z_iload_n dJ6_bitCount_0f7a4_0 rfl 0 rfl ?_
  refine z_iload_n dJ6_bitCount_0f7a4_1 rfl 0 rfl ?_
  refine z_iconst dJ6_bitCount_0f7a4_2 ?_
  refine z_iushr dJ6_bitCount_0f7a4_3 ?_
  refine z_ldcw (x := 1431655765) dJ6_bitCount_0f7a4_4 cs_J6_265 ?_
  refine z_iand dJ6_bitCount_0f7a4_7 ?_
  refine z_isub dJ6_bitCount_0f7a4_8 ?_
  refine z_nm (fun v0 ev0 => ?_)
  replace h := h v0 ev0
  refine z_istore_n (lv' := [(0, vi v0)]) dJ6_bitCount_0f7a4_9 rfl (Nat.le_of_ble_eq_true rfl) rfl ?_
  refine z_iload_n dJ6_bitCount_0f7a4_10 rfl 0 rfl ?_
  refine z_ldcw (x := 858993459) dJ6_bitCount_0f7a4_11 cs_J6_266 ?_
  refine z_iand dJ6_bitCount_0f7a4_14 ?_
  refine z_iload_n dJ6_bitCount_0f7a4_15 rfl 0 rfl ?_
  refine z_iconst dJ6_bitCount_0f7a4_16 ?_
  refine z_iushr dJ6_bitCount_0f7a4_17 ?_
  refine z_ldcw (x := 858993459) dJ6_bitCount_0f7a4_18 cs_J6_266 ?_
  refine z_iand dJ6_bitCount_0f7a4_21 ?_
  refine z_iadd dJ6_bitCount_0f7a4_22 ?_
  refine z_nm (fun v0_1 ev0_1 => ?_)
  replace h := h v0_1 ev0_1
  refine z_istore_n (lv' := [(0, vi v0_1)]) dJ6_bitCount_0f7a4_23 rfl (Nat.le_of_ble_eq_true rfl) rfl ?_
  refine z_iload_n dJ6_bitCount_0f7a4_24 rfl 0 rfl ?_
  refine z_iload_n dJ6_bitCount_0f7a4_25 rfl 0 rfl ?_
  refine z_iconst dJ6_bitCount_0f7a4_26 ?_
  refine z_iushr dJ6_bitCount_0f7a4_27 ?_
  refine z_iadd dJ6_bitCount_0f7a4_28 ?_
  refine z_ldcw (x := 252645135) dJ6_bitCount_0f7a4_29 cs_J6_267 ?_
  refine z_iand dJ6_bitCount_0f7a4_32 ?_
  refine z_nm (fun v0_2 ev0_2 => ?_)
  replace h := h v0_2 ev0_2
  refine z_istore_n (lv' := [(0, vi v0_2)]) dJ6_bitCount_0f7a4_33 rfl (Nat.le_of_ble_eq_true rfl) rfl ?_
  refine z_iload_n dJ6_bitCount_0f7a4_34 rfl 0 rfl ?_
  refine z_iload_n dJ6_bitCount_0f7a4_35 rfl 0 rfl ?_
  refine z_bipush dJ6_bitCount_0f7a4_36 (by decide) ?_
  refine z_iushr dJ6_bitCount_0f7a4_38 ?_
  refine z_iadd dJ6_bitCount_0f7a4_39 ?_
  refine z_nm (fun v0_3 ev0_3 => ?_)
  replace h := h v0_3 ev0_3
  refine z_istore_n (lv' := [(0, vi v0_3)]) dJ6_bitCount_0f7a4_40 rfl (Nat.le_of_ble_eq_true rfl) rfl ?_
  refine z_iload_n dJ6_bitCount_0f7a4_41 rfl 0 rfl ?_
  refine z_iload_n dJ6_bitCount_0f7a4_42 rfl 0 rfl ?_
  refine z_bipush dJ6_bitCount_0f7a4_43 (by decide) ?_
  refine z_iushr dJ6_bitCount_0f7a4_45 ?_
  refine z_iadd dJ6_bitCount_0f7a4_46 ?_
  refine z_nm (fun v0_4 ev0_4 => ?_)
  replace h := h v0_4 ev0_4
  refine z_istore_n (lv' := [(0, vi v0_4)]) dJ6_bitCount_0f7a4_47 rfl (Nat.le_of_ble_eq_true rfl) rfl ?_
  refine z_iload_n dJ6_bitCount_0f7a4_48 rfl 0 rfl ?_
  refine z_bipush dJ6_bitCount_0f7a4_49 (by decide) ?_
  refine z_iand dJ6_bitCount_0f7a4_51 ?_
  exact z_iret rfl dJ6_bitCount_0f7a4_52 rfl rfl rfl ⟨_, rfl, hs, h⟩
theorem i_popI {l : Launch} {Γ : Gam} {g : Nat} {μ : Mem} {a1 : Int} (hs : StatR μ.2.2) : CT l Γ yJ6_bitCount_0f7a4 cJ6_bitCount_0f7a4 1 (some .int) 0 0 0 0 [vi a1] g 175 μ (pE (vi (v_popI a1)) μ) := by
  refine CT.mono (i_JI_bitCount_0f7a4 (k := fun r ν => r = v_popI a1 ∧ ν = μ) hs ?_) (fun v ν q => ?_)
  · unfold f_JI_bitCount_0f7a4
    repeat (intro _ e; subst e)
    exact ⟨rfl, rfl⟩
  · obtain ⟨r, rfl, -, rfl, rfl⟩ := q
    exact ⟨rfl, rfl⟩
abbrev Y_Chair_writeRow : Yt := (5, none, yX0_writeRow.name, { frames := 1, cells := 0, slots := 0, locals := 22 }, 175, 0, 0)
def f_Chair_writeRow (a1 : Int) (a2 : Int) (a3 : Bool) (μ : Mem) (k : Mem → Prop) : Prop := ∀ v4 : Int, v4 = ((rI μ 11632 0) - 1) * 7 → ∀ μ_1 : Mem, μ_1 = set' μ 84 700 v4 a1 → ∀ μ_2 : Mem, μ_2 = set' μ_1 84 700 (v4 + 1) a2 → ∀ μ_3 : Mem, μ_3 = set' μ_2 84 700 (v4 + 2) (rI μ_2 10357 0) → ∀ μ_4 : Mem, μ_4 = set' μ_3 84 700 (v4 + 3) (rI μ_3 10358 0) → ∀ μ_5 : Mem, μ_5 = set' μ_4 84 700 (v4 + 4) (rI μ_4 10359 0) → ∀ x104 : Int, x104 = (if a3 = true then 1 else 0) → ∀ μ_6 : Mem, μ_6 = set' μ_5 84 700 (v4 + 5) x104 → ∀ μ_7 : Mem, μ_7 = set' μ_6 84 700 (v4 + 6) (v_popI (rI μ_6 11631 0)) → k μ_7
theorem i_Chair_writeRow {l : Launch} {Γ : Gam} {g : Nat} {a1 : Int} {a2 : Int} {a3 : Bool} {μ : Mem} {k : Mem → Prop} (hs : StatR μ.2.2) (h : f_Chair_writeRow a1 a2 a3 μ k) : CT l Γ yX0_writeRow cX0_writeRow 5 none 1 22 0 0 [vr Γ 83, vi a1, vi a2, vi (b2i a3)] g 175 μ (pV k) := by
  refine SW.ct (by decide) (Nat.le_of_ble_eq_true rfl) ?_
  refine z_sub (lv' := [(0, vr Γ 83), (1, vi a1), (2, vi a2), (3, vi (b2i a3))]) [0, 1, 2, 3] rfl ?_
  show SW l Γ yX0_writeRow.cls cX0_writeRow Y_Chair_writeRow (pV k) g 175 0 0 μ 0 [(0, vr Γ 83), (1, vi a1), (2, vi a2), (3, vi (b2i a3))] []
  unfold f_Chair_writeRow at h
  refine z_rload_n dX0_writeRow_0 rfl 0 rfl ?_
  refine z_getI (q := 11632) ff_0_8 dX0_writeRow_1 kt_83 (Nat.le_of_ble_eq_true rfl) fl_X0_51 rfl ?_
  refine z_iconst dX0_writeRow_4 ?_
  refine z_isub dX0_writeRow_5 ?_
  refine z_bipush dX0_writeRow_6 (by decide) ?_
  refine z_imul dX0_writeRow_8 ?_
  refine z_nm (fun v4 ev4 => ?_)
  replace h := h v4 ev4
  refine z_istore (lv' := [(4, vi v4), (0, vr Γ 83), (1, vi a1), (2, vi a2), (3, vi (b2i a3))]) dX0_writeRow_9 (Nat.le_of_ble_eq_true rfl) rfl ?_
  refine z_rload_n dX0_writeRow_11 rfl 1 rfl ?_
  refine z_getR (q := 11629) ff_0_5 dX0_writeRow_12 kt_83 (Nat.le_of_ble_eq_true rfl) fl_X0_11 rfl (hs.1 _ _ sr_11629) ?_
  refine z_iload dX0_writeRow_15 0 rfl ?_
  refine z_iload_n dX0_writeRow_17 rfl 2 rfl ?_
  refine z_NM (i_X11_set kt_84 (Nat.le_of_ble_eq_true rfl)) ok_X11_set nw_X0_125 ⟨Nat.le_of_ble_eq_true rfl, Nat.le_of_ble_eq_true rfl⟩ ⟨Nat.zero_le _, Nat.zero_le _⟩ rfl rfl (Nat.le_of_ble_eq_true rfl) dX0_writeRow_18 ?_
  refine z_mm (fun μ_1 eμ_1 => ?_)
  replace h := h μ_1 eμ_1
  replace hs : StatR μ_1.2.2 := by rw [eμ_1]; exact (StatR.set hs)
  refine z_rload_n dX0_writeRow_21 rfl 1 rfl ?_
  refine z_getR (q := 11629) ff_0_5 dX0_writeRow_22 kt_83 (Nat.le_of_ble_eq_true rfl) fl_X0_11 rfl (hs.1 _ _ sr_11629) ?_
  refine z_iload dX0_writeRow_25 0 rfl ?_
  refine z_iconst dX0_writeRow_27 ?_
  refine z_iadd dX0_writeRow_28 ?_
  refine z_iload_n dX0_writeRow_29 rfl 3 rfl ?_
  refine z_NM (i_X11_set kt_84 (Nat.le_of_ble_eq_true rfl)) ok_X11_set nw_X0_125 ⟨Nat.le_of_ble_eq_true rfl, Nat.le_of_ble_eq_true rfl⟩ ⟨Nat.zero_le _, Nat.zero_le _⟩ rfl rfl (Nat.le_of_ble_eq_true rfl) dX0_writeRow_30 ?_
  refine z_mm (fun μ_2 eμ_2 => ?_)
  replace h := h μ_2 eμ_2
  replace hs : StatR μ_2.2.2 := by rw [eμ_2]; exact (StatR.set hs)
  refine z_rload_n dX0_writeRow_33 rfl 1 rfl ?_
  refine z_getR (q := 11629) ff_0_5 dX0_writeRow_34 kt_83 (Nat.le_of_ble_eq_true rfl) fl_X0_11 rfl (hs.1 _ _ sr_11629) ?_
  refine z_iload dX0_writeRow_37 0 rfl ?_
  refine z_iconst dX0_writeRow_39 ?_
  refine z_iadd dX0_writeRow_40 ?_
  refine z_rload_n dX0_writeRow_41 rfl 1 rfl ?_
  refine z_getR (q := 11628) ff_0_4 dX0_writeRow_42 kt_83 (Nat.le_of_ble_eq_true rfl) fl_X0_27 rfl (hs.1 _ _ sr_11628) ?_
  refine z_getI (q := 10357) ff_2_13 dX0_writeRow_45 kt_73 (Nat.le_of_ble_eq_true rfl) fl_X0_129 rfl ?_
  refine z_NM (i_X11_set kt_84 (Nat.le_of_ble_eq_true rfl)) ok_X11_set nw_X0_125 ⟨Nat.le_of_ble_eq_true rfl, Nat.le_of_ble_eq_true rfl⟩ ⟨Nat.zero_le _, Nat.zero_le _⟩ rfl rfl (Nat.le_of_ble_eq_true rfl) dX0_writeRow_48 ?_
  refine z_mm (fun μ_3 eμ_3 => ?_)
  replace h := h μ_3 eμ_3
  replace hs : StatR μ_3.2.2 := by rw [eμ_3]; exact (StatR.set hs)
  refine z_rload_n dX0_writeRow_51 rfl 1 rfl ?_
  refine z_getR (q := 11629) ff_0_5 dX0_writeRow_52 kt_83 (Nat.le_of_ble_eq_true rfl) fl_X0_11 rfl (hs.1 _ _ sr_11629) ?_
  refine z_iload dX0_writeRow_55 0 rfl ?_
  refine z_iconst dX0_writeRow_57 ?_
  refine z_iadd dX0_writeRow_58 ?_
  refine z_rload_n dX0_writeRow_59 rfl 1 rfl ?_
  refine z_getR (q := 11628) ff_0_4 dX0_writeRow_60 kt_83 (Nat.le_of_ble_eq_true rfl) fl_X0_27 rfl (hs.1 _ _ sr_11628) ?_
  refine z_getI (q := 10358) ff_2_14 dX0_writeRow_63 kt_73 (Nat.le_of_ble_eq_true rfl) fl_X0_132 rfl ?_
  refine z_NM (i_X11_set kt_84 (Nat.le_of_ble_eq_true rfl)) ok_X11_set nw_X0_125 ⟨Nat.le_of_ble_eq_true rfl, Nat.le_of_ble_eq_true rfl⟩ ⟨Nat.zero_le _, Nat.zero_le _⟩ rfl rfl (Nat.le_of_ble_eq_true rfl) dX0_writeRow_66 ?_
  refine z_mm (fun μ_4 eμ_4 => ?_)
  replace h := h μ_4 eμ_4
  replace hs : StatR μ_4.2.2 := by rw [eμ_4]; exact (StatR.set hs)
  refine z_rload_n dX0_writeRow_69 rfl 1 rfl ?_
  refine z_getR (q := 11629) ff_0_5 dX0_writeRow_70 kt_83 (Nat.le_of_ble_eq_true rfl) fl_X0_11 rfl (hs.1 _ _ sr_11629) ?_
  refine z_iload dX0_writeRow_73 0 rfl ?_
  refine z_iconst dX0_writeRow_75 ?_
  refine z_iadd dX0_writeRow_76 ?_
  refine z_rload_n dX0_writeRow_77 rfl 1 rfl ?_
  refine z_getR (q := 11628) ff_0_4 dX0_writeRow_78 kt_83 (Nat.le_of_ble_eq_true rfl) fl_X0_27 rfl (hs.1 _ _ sr_11628) ?_
  refine z_getI (q := 10359) ff_2_15 dX0_writeRow_81 kt_73 (Nat.le_of_ble_eq_true rfl) fl_X0_135 rfl ?_
  refine z_NM (i_X11_set kt_84 (Nat.le_of_ble_eq_true rfl)) ok_X11_set nw_X0_125 ⟨Nat.le_of_ble_eq_true rfl, Nat.le_of_ble_eq_true rfl⟩ ⟨Nat.zero_le _, Nat.zero_le _⟩ rfl rfl (Nat.le_of_ble_eq_true rfl) dX0_writeRow_84 ?_
  refine z_mm (fun μ_5 eμ_5 => ?_)
  replace h := h μ_5 eμ_5
  replace hs : StatR μ_5.2.2 := by rw [eμ_5]; exact (StatR.set hs)
  refine z_rload_n dX0_writeRow_87 rfl 1 rfl ?_
  refine z_getR (q := 11629) ff_0_5 dX0_writeRow_88 kt_83 (Nat.le_of_ble_eq_true rfl) fl_X0_11 rfl (hs.1 _ _ sr_11629) ?_
  refine z_iload dX0_writeRow_91 0 rfl ?_
  refine z_iconst dX0_writeRow_93 ?_
  refine z_iadd dX0_writeRow_94 ?_
  refine z_iload_n dX0_writeRow_95 rfl 4 rfl ?_
  refine z_phi 104 [vi (v4 + 5), vr Γ 84] (fun V9 hv J9 => ?_) h (fun x104 h => ?_)
  · refine z_ifeq_b (tgt := 103) dX0_writeRow_96 (by decide) (eq_ite hv) (fun hv => ?_) (fun hv => ?_)
    · refine z_iconst dX0_writeRow_99 ?_
      refine z_goto (tgt := 104) dX0_writeRow_100 (by decide) ?_
      exact J9 _ hv.symm
    · refine z_iconst dX0_writeRow_103 ?_
      exact J9 _ hv.symm
  · refine z_NM (i_X11_set kt_84 (Nat.le_of_ble_eq_true rfl)) ok_X11_set nw_X0_125 ⟨Nat.le_of_ble_eq_true rfl, Nat.le_of_ble_eq_true rfl⟩ ⟨Nat.zero_le _, Nat.zero_le _⟩ rfl rfl (Nat.le_of_ble_eq_true rfl) dX0_writeRow_104 ?_
    refine z_mm (fun μ_6 eμ_6 => ?_)
    replace h := h μ_6 eμ_6
    replace hs : StatR μ_6.2.2 := by rw [eμ_6]; exact (StatR.set hs)
    refine z_rload_n dX0_writeRow_107 rfl 1 rfl ?_
    refine z_getR (q := 11629) ff_0_5 dX0_writeRow_108 kt_83 (Nat.le_of_ble_eq_true rfl) fl_X0_11 rfl (hs.1 _ _ sr_11629) ?_
    refine z_iload dX0_writeRow_111 0 rfl ?_
    refine z_bipush dX0_writeRow_113 (by decide) ?_
    refine z_iadd dX0_writeRow_115 ?_
    refine z_rload_n dX0_writeRow_116 rfl 1 rfl ?_
    refine z_getI (q := 11631) ff_0_7 dX0_writeRow_117 kt_83 (Nat.le_of_ble_eq_true rfl) fl_X0_59 rfl ?_
    refine z_SE (i_popI hs) sk_J6_bitCount_0f7a4 ml_X0_138 ⟨Nat.le_of_ble_eq_true rfl, Nat.le_of_ble_eq_true rfl⟩ ⟨Nat.zero_le _, Nat.zero_le _⟩ rfl rfl (Nat.le_of_ble_eq_true rfl) dX0_writeRow_120 ?_
    refine z_NM (i_X11_set kt_84 (Nat.le_of_ble_eq_true rfl)) ok_X11_set nw_X0_125 ⟨Nat.le_of_ble_eq_true rfl, Nat.le_of_ble_eq_true rfl⟩ ⟨Nat.zero_le _, Nat.zero_le _⟩ rfl rfl (Nat.le_of_ble_eq_true rfl) dX0_writeRow_123 ?_
    refine z_mm (fun μ_7 eμ_7 => ?_)
    replace h := h μ_7 eμ_7
    replace hs : StatR μ_7.2.2 := by rw [eμ_7]; exact (StatR.set hs)
    exact z_vret rfl dX0_writeRow_126 rfl rfl rfl ⟨rfl, hs, h⟩
abbrev Y_Count_leaveOut : Yt := (3, none, yX2_leaveOut.name, { frames := 1, cells := 0, slots := 0, locals := 22 }, 175, 0, 0)
def l_Count_leaveOut_2 (a1 : Int) (X_2_36 : Mem → Prop) : Nat → Int → Mem → Prop
  | 0, _, _ => False
  | fu2 + 1, v2, μ_1 => if w v2 < w (rI μ_1 1136 0) then (if w (w_iand (w_iushr a1 v2) 1) = 0 then ((l_Count_leaveOut_2 a1 X_2_36 fu2) (v2 + 1) μ_1) else (∀ μ_2 : Mem, μ_2 = set' μ_1 78 12 v2 0 → (l_Count_leaveOut_2 a1 X_2_36 fu2) (v2 + 1) μ_2)) else (X_2_36 μ_1)
def f_Count_leaveOut (a1 : Int) (μ : Mem) (k : Mem → Prop) : Prop := ∃ m2 : Nat, l_Count_leaveOut_2 a1 (fun (μ_3 : Mem) => k μ_3) m2 0 μ
theorem L_Count_leaveOut_2 {l : Launch} {Γ : Gam} {g : Nat} {a1 : Int} {X_2_36 : Mem → Prop} {k : Mem → Prop} (hX_2_36 : ∀ (ν : Mem), StatR ν.2.2 → X_2_36 ν → SW l Γ yX2_leaveOut.cls cX2_leaveOut Y_Count_leaveOut (pV k) g 175 0 0 ν 36 [] []) (n9 : Nat) : ∀ (v2 : Int) (μ_1 : Mem), StatR μ_1.2.2 → l_Count_leaveOut_2 a1 X_2_36 n9 v2 μ_1 → SW l Γ yX2_leaveOut.cls cX2_leaveOut Y_Count_leaveOut (pV k) g 175 0 0 μ_1 2 [(0, vr Γ 73), (1, vi a1), (2, vi v2)] [] := by
  induction n9 with
  | zero =>
    intro v2 μ_1 hs h
    exact h.elim
  | succ n9 hR_2 =>
    intro v2 μ_1 hs h
    rw [l_Count_leaveOut_2] at h
    refine z_iload_n dX2_leaveOut_2 rfl 2 rfl ?_
    refine z_rload_n dX2_leaveOut_3 rfl 0 rfl ?_
    refine z_getR (q := 10344) ff_2_0 dX2_leaveOut_4 kt_73 (Nat.le_of_ble_eq_true rfl) fl_X2_42 rfl (hs.1 _ _ sr_10344) ?_
    refine z_getI (q := 1136) ff_7_8 dX2_leaveOut_7 kt_1 (Nat.le_of_ble_eq_true rfl) fl_X2_67 rfl ?_
    refine z_icmp_ge (tgt := 36) dX2_leaveOut_10 (by decide) h (fun h => ?_) (fun h => ?_)
    · refine z_iload_n dX2_leaveOut_13 rfl 1 rfl ?_
      refine z_iload_n dX2_leaveOut_14 rfl 2 rfl ?_
      refine z_iushr dX2_leaveOut_15 ?_
      refine z_iconst dX2_leaveOut_16 ?_
      refine z_iand dX2_leaveOut_17 ?_
      refine z_if_eq (tgt := 30) dX2_leaveOut_18 (by decide) h (fun h => ?_) (fun h => ?_)
      · refine z_iinc (j := 2) (lv' := [(2, vi (v2 + 1)), (0, vr Γ 73), (1, vi a1)]) dX2_leaveOut_30 rfl (Nat.le_of_ble_eq_true rfl) rfl ?_
        refine z_goto (tgt := 2) dX2_leaveOut_33 (by decide) ?_
        refine z_sub (lv' := [(0, vr Γ 73), (1, vi a1), (2, vi (v2 + 1))]) [1, 2, 0] rfl ?_
        exact hR_2 (v2 + 1) μ_1 hs h
      · refine z_rload_n dX2_leaveOut_21 rfl 0 rfl ?_
        refine z_getR (q := 10349) ff_2_5 dX2_leaveOut_22 kt_73 (Nat.le_of_ble_eq_true rfl) fl_X2_24 rfl (hs.1 _ _ sr_10349) ?_
        refine z_iload_n dX2_leaveOut_25 rfl 2 rfl ?_
        refine z_iconst dX2_leaveOut_26 ?_
        refine z_NM (i_X11_set kt_78 (Nat.le_of_ble_eq_true rfl)) ok_X11_set nw_X2_74 ⟨Nat.le_of_ble_eq_true rfl, Nat.le_of_ble_eq_true rfl⟩ ⟨Nat.zero_le _, Nat.zero_le _⟩ rfl rfl (Nat.le_of_ble_eq_true rfl) dX2_leaveOut_27 ?_
        refine z_mm (fun μ_2 eμ_2 => ?_)
        replace h := h μ_2 eμ_2
        replace hs : StatR μ_2.2.2 := by rw [eμ_2]; exact (StatR.set hs)
        refine z_iinc (j := 2) (lv' := [(2, vi (v2 + 1)), (0, vr Γ 73), (1, vi a1)]) dX2_leaveOut_30 rfl (Nat.le_of_ble_eq_true rfl) rfl ?_
        refine z_goto (tgt := 2) dX2_leaveOut_33 (by decide) ?_
        refine z_sub (lv' := [(0, vr Γ 73), (1, vi a1), (2, vi (v2 + 1))]) [1, 2, 0] rfl ?_
        exact hR_2 (v2 + 1) μ_2 hs h
    · refine z_sub (lv' := []) [] rfl ?_
      exact hX_2_36 μ_1 hs h
theorem i_Count_leaveOut {l : Launch} {Γ : Gam} {g : Nat} {a1 : Int} {μ : Mem} {k : Mem → Prop} (hs : StatR μ.2.2) (h : f_Count_leaveOut a1 μ k) : CT l Γ yX2_leaveOut cX2_leaveOut 3 none 1 22 0 0 [vr Γ 73, vi a1] g 175 μ (pV k) := by
  refine SW.ct (by decide) (Nat.le_of_ble_eq_true rfl) ?_
  refine z_sub (lv' := [(0, vr Γ 73), (1, vi a1)]) [0, 1] rfl ?_
  show SW l Γ yX2_leaveOut.cls cX2_leaveOut Y_Count_leaveOut (pV k) g 175 0 0 μ 0 [(0, vr Γ 73), (1, vi a1)] []
  unfold f_Count_leaveOut at h
  refine z_iconst dX2_leaveOut_0 ?_
  refine z_istore_n (lv' := [(2, vi 0), (0, vr Γ 73), (1, vi a1)]) dX2_leaveOut_1 rfl (Nat.le_of_ble_eq_true rfl) rfl ?_
  obtain ⟨m2, h⟩ := h
  refine z_sub (lv' := [(0, vr Γ 73), (1, vi a1), (2, vi 0)]) [1, 2, 0] rfl ?_
  refine L_Count_leaveOut_2 (fun μ_3 hs h => ?_) m2 0 μ hs h
  exact z_vret rfl dX2_leaveOut_36 rfl rfl rfl ⟨rfl, hs, h⟩
abbrev Y_Count_passes : Yt := (5, (some .boolean), yX2_passes.name, { frames := 2, cells := 0, slots := 0, locals := 52 }, 175, 0, 0)
def f_Count_passes (a1 : Nat) (a2 : Int) (a3 : Int) (a4 : Int) (μ : Mem) (k : Bool → Mem → Prop) : Prop := if (v_Rules_says a1 a2 μ) = true then (∀ μ_1 : Mem, μ_1 = set' μ 81 6 0 (rI μ 10357 0) → ∀ μ_2 : Mem, μ_2 = set' μ_1 81 6 1 (rI μ_1 10358 0) → ∀ μ_3 : Mem, μ_3 = set' μ_2 81 6 2 (rI μ_2 10359 0) → ∀ μ_4 : Mem, μ_4 = set' μ_3 81 6 3 (rI μ_3 10360 0) → ∀ μ_5 : Mem, μ_5 = set' μ_4 81 6 4 a3 → ∀ μ_6 : Mem, μ_6 = set' μ_5 81 6 5 a4 → f_Rules_value a1 a2 μ_6 (fun r102 μ_7 => ∀ x113 : Bool, x113 = (if w r102 = 0 then false else true) → k x113 μ_7)) else (∀ x24 : Bool, x24 = (if w (rI μ 10358 0) < w (rI μ 10357 0) then true else false) → k x24 μ)
theorem i_Count_passes {l : Launch} {Γ : Gam} {g : Nat} {a1 : Nat} {a2 : Int} {a3 : Int} {a4 : Int} {μ : Mem} {k : Bool → Mem → Prop} (hr_a1 : isRu a1 = true) (hs : StatR μ.2.2) (h : f_Count_passes a1 a2 a3 a4 μ k) : CT l Γ yX2_passes cX2_passes 5 (some .boolean) 2 52 0 0 [vr Γ 73, vr Γ a1, vi a2, vi a3, vi a4] g 175 μ (pB k) := by
  refine SW.ct (by decide) (Nat.le_of_ble_eq_true rfl) ?_
  refine z_sub (lv' := [(0, vr Γ 73), (1, vr Γ a1), (2, vi a2), (3, vi a3), (4, vi a4)]) [0, 1, 2, 3, 4] rfl ?_
  show SW l Γ yX2_passes.cls cX2_passes Y_Count_passes (pB k) g 175 0 0 μ 0 [(0, vr Γ 73), (1, vr Γ a1), (2, vi a2), (3, vi a3), (4, vi a4)] []
  unfold f_Count_passes at h
  refine z_rload_n dX2_passes_0 rfl 1 rfl ?_
  refine z_iload_n dX2_passes_1 rfl 2 rfl ?_
  refine z_VE (i_Rules_says hr_a1 hs) vk_X8_says (ru_k hr_a1) (ru_l hr_a1) rfl ml_X2_114 ⟨Nat.le_of_ble_eq_true rfl, Nat.le_of_ble_eq_true rfl⟩ ⟨Nat.zero_le _, Nat.zero_le _⟩ rfl rfl (Nat.le_of_ble_eq_true rfl) dX2_passes_2 ?_
  refine z_ifne_b (tgt := 25) dX2_passes_5 (by decide) h (fun h => ?_) (fun h => ?_)
  · refine z_rload_n dX2_passes_25 rfl 0 rfl ?_
    refine z_getR (q := 10352) ff_2_8 dX2_passes_26 kt_73 (Nat.le_of_ble_eq_true rfl) fl_X2_34 rfl (hs.1 _ _ sr_10352) ?_
    refine z_iconst dX2_passes_29 ?_
    refine z_rload_n dX2_passes_30 rfl 0 rfl ?_
    refine z_getI (q := 10357) ff_2_13 dX2_passes_31 kt_73 (Nat.le_of_ble_eq_true rfl) fl_X2_161 rfl ?_
    refine z_NM (i_X11_set kt_81 (Nat.le_of_ble_eq_true rfl)) ok_X11_set nw_X2_74 ⟨Nat.le_of_ble_eq_true rfl, Nat.le_of_ble_eq_true rfl⟩ ⟨Nat.zero_le _, Nat.zero_le _⟩ rfl rfl (Nat.le_of_ble_eq_true rfl) dX2_passes_34 ?_
    refine z_mm (fun μ_1 eμ_1 => ?_)
    replace h := h μ_1 eμ_1
    replace hs : StatR μ_1.2.2 := by rw [eμ_1]; exact (StatR.set hs)
    refine z_rload_n dX2_passes_37 rfl 0 rfl ?_
    refine z_getR (q := 10352) ff_2_8 dX2_passes_38 kt_73 (Nat.le_of_ble_eq_true rfl) fl_X2_34 rfl (hs.1 _ _ sr_10352) ?_
    refine z_iconst dX2_passes_41 ?_
    refine z_rload_n dX2_passes_42 rfl 0 rfl ?_
    refine z_getI (q := 10358) ff_2_14 dX2_passes_43 kt_73 (Nat.le_of_ble_eq_true rfl) fl_X2_164 rfl ?_
    refine z_NM (i_X11_set kt_81 (Nat.le_of_ble_eq_true rfl)) ok_X11_set nw_X2_74 ⟨Nat.le_of_ble_eq_true rfl, Nat.le_of_ble_eq_true rfl⟩ ⟨Nat.zero_le _, Nat.zero_le _⟩ rfl rfl (Nat.le_of_ble_eq_true rfl) dX2_passes_46 ?_
    refine z_mm (fun μ_2 eμ_2 => ?_)
    replace h := h μ_2 eμ_2
    replace hs : StatR μ_2.2.2 := by rw [eμ_2]; exact (StatR.set hs)
    refine z_rload_n dX2_passes_49 rfl 0 rfl ?_
    refine z_getR (q := 10352) ff_2_8 dX2_passes_50 kt_73 (Nat.le_of_ble_eq_true rfl) fl_X2_34 rfl (hs.1 _ _ sr_10352) ?_
    refine z_iconst dX2_passes_53 ?_
    refine z_rload_n dX2_passes_54 rfl 0 rfl ?_
    refine z_getI (q := 10359) ff_2_15 dX2_passes_55 kt_73 (Nat.le_of_ble_eq_true rfl) fl_X2_167 rfl ?_
    refine z_NM (i_X11_set kt_81 (Nat.le_of_ble_eq_true rfl)) ok_X11_set nw_X2_74 ⟨Nat.le_of_ble_eq_true rfl, Nat.le_of_ble_eq_true rfl⟩ ⟨Nat.zero_le _, Nat.zero_le _⟩ rfl rfl (Nat.le_of_ble_eq_true rfl) dX2_passes_58 ?_
    refine z_mm (fun μ_3 eμ_3 => ?_)
    replace h := h μ_3 eμ_3
    replace hs : StatR μ_3.2.2 := by rw [eμ_3]; exact (StatR.set hs)
    refine z_rload_n dX2_passes_61 rfl 0 rfl ?_
    refine z_getR (q := 10352) ff_2_8 dX2_passes_62 kt_73 (Nat.le_of_ble_eq_true rfl) fl_X2_34 rfl (hs.1 _ _ sr_10352) ?_
    refine z_iconst dX2_passes_65 ?_
    refine z_rload_n dX2_passes_66 rfl 0 rfl ?_
    refine z_getI (q := 10360) ff_2_16 dX2_passes_67 kt_73 (Nat.le_of_ble_eq_true rfl) fl_X2_170 rfl ?_
    refine z_NM (i_X11_set kt_81 (Nat.le_of_ble_eq_true rfl)) ok_X11_set nw_X2_74 ⟨Nat.le_of_ble_eq_true rfl, Nat.le_of_ble_eq_true rfl⟩ ⟨Nat.zero_le _, Nat.zero_le _⟩ rfl rfl (Nat.le_of_ble_eq_true rfl) dX2_passes_70 ?_
    refine z_mm (fun μ_4 eμ_4 => ?_)
    replace h := h μ_4 eμ_4
    replace hs : StatR μ_4.2.2 := by rw [eμ_4]; exact (StatR.set hs)
    refine z_rload_n dX2_passes_73 rfl 0 rfl ?_
    refine z_getR (q := 10352) ff_2_8 dX2_passes_74 kt_73 (Nat.le_of_ble_eq_true rfl) fl_X2_34 rfl (hs.1 _ _ sr_10352) ?_
    refine z_iconst dX2_passes_77 ?_
    refine z_iload_n dX2_passes_78 rfl 3 rfl ?_
    refine z_NM (i_X11_set kt_81 (Nat.le_of_ble_eq_true rfl)) ok_X11_set nw_X2_74 ⟨Nat.le_of_ble_eq_true rfl, Nat.le_of_ble_eq_true rfl⟩ ⟨Nat.zero_le _, Nat.zero_le _⟩ rfl rfl (Nat.le_of_ble_eq_true rfl) dX2_passes_79 ?_
    refine z_mm (fun μ_5 eμ_5 => ?_)
    replace h := h μ_5 eμ_5
    replace hs : StatR μ_5.2.2 := by rw [eμ_5]; exact (StatR.set hs)
    refine z_rload_n dX2_passes_82 rfl 0 rfl ?_
    refine z_getR (q := 10352) ff_2_8 dX2_passes_83 kt_73 (Nat.le_of_ble_eq_true rfl) fl_X2_34 rfl (hs.1 _ _ sr_10352) ?_
    refine z_iconst dX2_passes_86 ?_
    refine z_iload dX2_passes_87 4 rfl ?_
    refine z_NM (i_X11_set kt_81 (Nat.le_of_ble_eq_true rfl)) ok_X11_set nw_X2_74 ⟨Nat.le_of_ble_eq_true rfl, Nat.le_of_ble_eq_true rfl⟩ ⟨Nat.zero_le _, Nat.zero_le _⟩ rfl rfl (Nat.le_of_ble_eq_true rfl) dX2_passes_89 ?_
    refine z_mm (fun μ_6 eμ_6 => ?_)
    replace h := h μ_6 eμ_6
    replace hs : StatR μ_6.2.2 := by rw [eμ_6]; exact (StatR.set hs)
    refine z_rload_n dX2_passes_92 rfl 1 rfl ?_
    refine z_iload_n dX2_passes_93 rfl 2 rfl ?_
    refine z_rload_n dX2_passes_94 rfl 0 rfl ?_
    refine z_getR (q := 10352) ff_2_8 dX2_passes_95 kt_73 (Nat.le_of_ble_eq_true rfl) fl_X2_34 rfl (hs.1 _ _ sr_10352) ?_
    refine z_rload_n dX2_passes_98 rfl 0 rfl ?_
    refine z_getR (q := 10353) ff_2_9 dX2_passes_99 kt_73 (Nat.le_of_ble_eq_true rfl) fl_X2_39 rfl (hs.1 _ _ sr_10353) ?_
    refine z_VI (i_Rules_value hr_a1 hs h) vk_X8_value (ru_k hr_a1) (ru_l hr_a1) rfl ml_X2_127 ⟨Nat.le_of_ble_eq_true rfl, Nat.le_of_ble_eq_true rfl⟩ ⟨Nat.zero_le _, Nat.zero_le _⟩ rfl rfl (Nat.le_of_ble_eq_true rfl) dX2_passes_102 (fun r102 μ_7 hs h => ?_)
    refine z_phiB 113 [] (fun V9 hv J9 => ?_) h (fun x113 h => ?_)
    · refine z_if_eq (tgt := 112) dX2_passes_105 (by decide) (eq_ite hv) (fun hv => ?_) (fun hv => ?_)
      · refine z_iconst dX2_passes_112 ?_
        exact J9 false hv.symm
      · refine z_iconst dX2_passes_108 ?_
        refine z_goto (tgt := 113) dX2_passes_109 (by decide) ?_
        exact J9 true hv.symm
    · exact z_zret (b := x113) rfl dX2_passes_113 rfl rfl rfl ⟨_, rfl, hs, h⟩
  · refine z_rload_n dX2_passes_8 rfl 0 rfl ?_
    refine z_getI (q := 10357) ff_2_13 dX2_passes_9 kt_73 (Nat.le_of_ble_eq_true rfl) fl_X2_161 rfl ?_
    refine z_rload_n dX2_passes_12 rfl 0 rfl ?_
    refine z_getI (q := 10358) ff_2_14 dX2_passes_13 kt_73 (Nat.le_of_ble_eq_true rfl) fl_X2_164 rfl ?_
    refine z_phiB 24 [] (fun V9 hv J9 => ?_) h (fun x24 h => ?_)
    · refine z_icmp_le (tgt := 23) dX2_passes_16 (by decide) (eq_ite hv) (fun hv => ?_) (fun hv => ?_)
      · refine z_iconst dX2_passes_19 ?_
        refine z_goto (tgt := 24) dX2_passes_20 (by decide) ?_
        exact J9 true hv.symm
      · refine z_iconst dX2_passes_23 ?_
        exact J9 false hv.symm
    · exact z_zret (b := x24) rfl dX2_passes_24 rfl rfl rfl ⟨_, rfl, hs, h⟩
def v_Floor_byOf (a1 : Int) (a2 : Int) (μ : Mem) : Int := at' μ 72 300 ((a1 * 12) + a2)
theorem i_Floor_byOf {l : Launch} {Γ : Gam} {g : Nat} {μ : Mem} {a1 : Int} {a2 : Int} (hs : StatR μ.2.2) : CT l Γ yX3_byOf cX3_byOf 3 (some .int) 1 21 0 0 [vr Γ 67, vi a1, vi a2] g 175 μ (pE (vi (v_Floor_byOf a1 a2 μ)) μ) := by
  refine SW.ct (by decide) (Nat.le_of_ble_eq_true rfl) ?_
  refine z_sub (lv' := [(0, vr Γ 67), (1, vi a1), (2, vi a2)]) [0, 1, 2] rfl ?_
  have hv : v_Floor_byOf a1 a2 μ = v_Floor_byOf a1 a2 μ := rfl
  refine z_rload_n dX3_byOf_0 rfl 0 rfl ?_
  refine z_getR (q := 9581) ff_3_5 dX3_byOf_1 kt_67 (Nat.le_of_ble_eq_true rfl) fl_X3_24 rfl (hs.1 _ _ sr_9581) ?_
  refine z_iload_n dX3_byOf_4 rfl 1 rfl ?_
  refine z_bipush dX3_byOf_5 (by decide) ?_
  refine z_imul dX3_byOf_7 ?_
  refine z_iload_n dX3_byOf_8 rfl 2 rfl ?_
  refine z_iadd dX3_byOf_9 ?_
  refine z_NE (i_X11_at kt_72 (Nat.le_of_ble_eq_true rfl)) ok_X11_at nw_X3_54 ⟨Nat.le_of_ble_eq_true rfl, Nat.le_of_ble_eq_true rfl⟩ ⟨Nat.zero_le _, Nat.zero_le _⟩ rfl rfl (Nat.le_of_ble_eq_true rfl) dX3_byOf_10 ?_
  exact z_iret rfl dX3_byOf_13 rfl rfl rfl ⟨by first | (rw [hv]; done) | rfl, rfl⟩
def v_Floor_lineOf (a1 : Int) (a2 : Int) (μ : Mem) : Int := at' μ 70 300 ((a1 * 12) + a2)
theorem i_Floor_lineOf {l : Launch} {Γ : Gam} {g : Nat} {μ : Mem} {a1 : Int} {a2 : Int} (hs : StatR μ.2.2) : CT l Γ yX3_lineOf cX3_lineOf 3 (some .int) 1 21 0 0 [vr Γ 67, vi a1, vi a2] g 175 μ (pE (vi (v_Floor_lineOf a1 a2 μ)) μ) := by
  refine SW.ct (by decide) (Nat.le_of_ble_eq_true rfl) ?_
  refine z_sub (lv' := [(0, vr Γ 67), (1, vi a1), (2, vi a2)]) [0, 1, 2] rfl ?_
  have hv : v_Floor_lineOf a1 a2 μ = v_Floor_lineOf a1 a2 μ := rfl
  refine z_rload_n dX3_lineOf_0 rfl 0 rfl ?_
  refine z_getR (q := 9579) ff_3_3 dX3_lineOf_1 kt_67 (Nat.le_of_ble_eq_true rfl) fl_X3_18 rfl (hs.1 _ _ sr_9579) ?_
  refine z_iload_n dX3_lineOf_4 rfl 1 rfl ?_
  refine z_bipush dX3_lineOf_5 (by decide) ?_
  refine z_imul dX3_lineOf_7 ?_
  refine z_iload_n dX3_lineOf_8 rfl 2 rfl ?_
  refine z_iadd dX3_lineOf_9 ?_
  refine z_NE (i_X11_at kt_70 (Nat.le_of_ble_eq_true rfl)) ok_X11_at nw_X3_54 ⟨Nat.le_of_ble_eq_true rfl, Nat.le_of_ble_eq_true rfl⟩ ⟨Nat.zero_le _, Nat.zero_le _⟩ rfl rfl (Nat.le_of_ble_eq_true rfl) dX3_lineOf_10 ?_
  exact z_iret rfl dX3_lineOf_13 rfl rfl rfl ⟨by first | (rw [hv]; done) | rfl, rfl⟩
def v_Floor_mustOf (a1 : Int) (a2 : Int) (μ : Mem) : Int := at' μ 71 300 ((a1 * 12) + a2)
theorem i_Floor_mustOf {l : Launch} {Γ : Gam} {g : Nat} {μ : Mem} {a1 : Int} {a2 : Int} (hs : StatR μ.2.2) : CT l Γ yX3_mustOf cX3_mustOf 3 (some .int) 1 21 0 0 [vr Γ 67, vi a1, vi a2] g 175 μ (pE (vi (v_Floor_mustOf a1 a2 μ)) μ) := by
  refine SW.ct (by decide) (Nat.le_of_ble_eq_true rfl) ?_
  refine z_sub (lv' := [(0, vr Γ 67), (1, vi a1), (2, vi a2)]) [0, 1, 2] rfl ?_
  have hv : v_Floor_mustOf a1 a2 μ = v_Floor_mustOf a1 a2 μ := rfl
  refine z_rload_n dX3_mustOf_0 rfl 0 rfl ?_
  refine z_getR (q := 9580) ff_3_4 dX3_mustOf_1 kt_67 (Nat.le_of_ble_eq_true rfl) fl_X3_21 rfl (hs.1 _ _ sr_9580) ?_
  refine z_iload_n dX3_mustOf_4 rfl 1 rfl ?_
  refine z_bipush dX3_mustOf_5 (by decide) ?_
  refine z_imul dX3_mustOf_7 ?_
  refine z_iload_n dX3_mustOf_8 rfl 2 rfl ?_
  refine z_iadd dX3_mustOf_9 ?_
  refine z_NE (i_X11_at kt_71 (Nat.le_of_ble_eq_true rfl)) ok_X11_at nw_X3_54 ⟨Nat.le_of_ble_eq_true rfl, Nat.le_of_ble_eq_true rfl⟩ ⟨Nat.zero_le _, Nat.zero_le _⟩ rfl rfl (Nat.le_of_ble_eq_true rfl) dX3_mustOf_10 ?_
  exact z_iret rfl dX3_mustOf_13 rfl rfl rfl ⟨by first | (rw [hv]; done) | rfl, rfl⟩
abbrev Y_Floor_copyToTrial : Yt := (3, none, yX3_copyToTrial.name, { frames := 2, cells := 0, slots := 0, locals := 47 }, 175, 0, 0)
def l_Floor_copyToTrial_12 (a1 : Int) (X_12_51 : Mem → Prop) : Nat → Int → Mem → Prop
  | 0, _, _ => False
  | fu12 + 1, v2, μ_2 => if w v2 < w (v_Floor_sizeOf a1 μ_2) then (f_Floor_addLine 24 (v_Floor_lineOf a1 v2 μ_2) (v_Floor_mustOf a1 v2 μ_2) (v_Floor_byOf a1 v2 μ_2) μ_2 (fun μ_3 => (l_Floor_copyToTrial_12 a1 X_12_51 fu12) (v2 + 1) μ_3)) else (X_12_51 μ_2)
def f_Floor_copyToTrial (a1 : Int) (μ : Mem) (k : Mem → Prop) : Prop := ∀ μ_1 : Mem, μ_1 = set' μ 69 25 24 0 → ∃ m12 : Nat, l_Floor_copyToTrial_12 a1 (fun (μ_4 : Mem) => k μ_4) m12 0 μ_1
theorem L_Floor_copyToTrial_12 {l : Launch} {Γ : Gam} {g : Nat} {a1 : Int} {X_12_51 : Mem → Prop} {k : Mem → Prop} (hX_12_51 : ∀ (ν : Mem), StatR ν.2.2 → X_12_51 ν → SW l Γ yX3_copyToTrial.cls cX3_copyToTrial Y_Floor_copyToTrial (pV k) g 175 0 0 ν 51 [] []) (n9 : Nat) : ∀ (v2 : Int) (μ_2 : Mem), StatR μ_2.2.2 → l_Floor_copyToTrial_12 a1 X_12_51 n9 v2 μ_2 → SW l Γ yX3_copyToTrial.cls cX3_copyToTrial Y_Floor_copyToTrial (pV k) g 175 0 0 μ_2 12 [(0, vr Γ 67), (1, vi a1), (2, vi v2)] [] := by
  induction n9 with
  | zero =>
    intro v2 μ_2 hs h
    exact h.elim
  | succ n9 hR_12 =>
    intro v2 μ_2 hs h
    rw [l_Floor_copyToTrial_12] at h
    refine z_iload_n dX3_copyToTrial_12 rfl 2 rfl ?_
    refine z_rload_n dX3_copyToTrial_13 rfl 0 rfl ?_
    refine z_iload_n dX3_copyToTrial_14 rfl 1 rfl ?_
    refine z_VE (i_Floor_sizeOf hs) vk_X3_sizeOf kt_67 (Nat.le_of_ble_eq_true rfl) rfl ml_X3_100 ⟨Nat.le_of_ble_eq_true rfl, Nat.le_of_ble_eq_true rfl⟩ ⟨Nat.zero_le _, Nat.zero_le _⟩ rfl rfl (Nat.le_of_ble_eq_true rfl) dX3_copyToTrial_15 ?_
    refine z_icmp_ge (tgt := 51) dX3_copyToTrial_18 (by decide) h (fun h => ?_) (fun h => ?_)
    · refine z_rload_n dX3_copyToTrial_21 rfl 0 rfl ?_
      refine z_bipush dX3_copyToTrial_22 (by decide) ?_
      refine z_rload_n dX3_copyToTrial_24 rfl 0 rfl ?_
      refine z_iload_n dX3_copyToTrial_25 rfl 1 rfl ?_
      refine z_iload_n dX3_copyToTrial_26 rfl 2 rfl ?_
      refine z_VE (i_Floor_lineOf hs) vk_X3_lineOf kt_67 (Nat.le_of_ble_eq_true rfl) rfl ml_X3_103 ⟨Nat.le_of_ble_eq_true rfl, Nat.le_of_ble_eq_true rfl⟩ ⟨Nat.zero_le _, Nat.zero_le _⟩ rfl rfl (Nat.le_of_ble_eq_true rfl) dX3_copyToTrial_27 ?_
      refine z_rload_n dX3_copyToTrial_30 rfl 0 rfl ?_
      refine z_iload_n dX3_copyToTrial_31 rfl 1 rfl ?_
      refine z_iload_n dX3_copyToTrial_32 rfl 2 rfl ?_
      refine z_VE (i_Floor_mustOf hs) vk_X3_mustOf kt_67 (Nat.le_of_ble_eq_true rfl) rfl ml_X3_106 ⟨Nat.le_of_ble_eq_true rfl, Nat.le_of_ble_eq_true rfl⟩ ⟨Nat.zero_le _, Nat.zero_le _⟩ rfl rfl (Nat.le_of_ble_eq_true rfl) dX3_copyToTrial_33 ?_
      refine z_rload_n dX3_copyToTrial_36 rfl 0 rfl ?_
      refine z_iload_n dX3_copyToTrial_37 rfl 1 rfl ?_
      refine z_iload_n dX3_copyToTrial_38 rfl 2 rfl ?_
      refine z_VE (i_Floor_byOf hs) vk_X3_byOf kt_67 (Nat.le_of_ble_eq_true rfl) rfl ml_X3_109 ⟨Nat.le_of_ble_eq_true rfl, Nat.le_of_ble_eq_true rfl⟩ ⟨Nat.zero_le _, Nat.zero_le _⟩ rfl rfl (Nat.le_of_ble_eq_true rfl) dX3_copyToTrial_39 ?_
      refine z_VU (i_Floor_addLine  hs h) vk_X3_addLine kt_67 (Nat.le_of_ble_eq_true rfl) rfl ml_X3_89 ⟨Nat.le_of_ble_eq_true rfl, Nat.le_of_ble_eq_true rfl⟩ ⟨Nat.zero_le _, Nat.zero_le _⟩ rfl rfl (Nat.le_of_ble_eq_true rfl) dX3_copyToTrial_42 (fun μ_3 hs h => ?_)
      refine z_iinc (j := 2) (lv' := [(2, vi (v2 + 1)), (0, vr Γ 67), (1, vi a1)]) dX3_copyToTrial_45 rfl (Nat.le_of_ble_eq_true rfl) rfl ?_
      refine z_goto (tgt := 12) dX3_copyToTrial_48 (by decide) ?_
      refine z_sub (lv' := [(0, vr Γ 67), (1, vi a1), (2, vi (v2 + 1))]) [1, 2, 0] rfl ?_
      exact hR_12 (v2 + 1) μ_3 hs h
    · refine z_sub (lv' := []) [] rfl ?_
      exact hX_12_51 μ_2 hs h
theorem i_Floor_copyToTrial {l : Launch} {Γ : Gam} {g : Nat} {a1 : Int} {μ : Mem} {k : Mem → Prop} (hs : StatR μ.2.2) (h : f_Floor_copyToTrial a1 μ k) : CT l Γ yX3_copyToTrial cX3_copyToTrial 3 none 2 47 0 0 [vr Γ 67, vi a1] g 175 μ (pV k) := by
  refine SW.ct (by decide) (Nat.le_of_ble_eq_true rfl) ?_
  refine z_sub (lv' := [(0, vr Γ 67), (1, vi a1)]) [0, 1] rfl ?_
  show SW l Γ yX3_copyToTrial.cls cX3_copyToTrial Y_Floor_copyToTrial (pV k) g 175 0 0 μ 0 [(0, vr Γ 67), (1, vi a1)] []
  unfold f_Floor_copyToTrial at h
  refine z_rload_n dX3_copyToTrial_0 rfl 0 rfl ?_
  refine z_getR (q := 9578) ff_3_2 dX3_copyToTrial_1 kt_67 (Nat.le_of_ble_eq_true rfl) fl_X3_15 rfl (hs.1 _ _ sr_9578) ?_
  refine z_bipush dX3_copyToTrial_4 (by decide) ?_
  refine z_iconst dX3_copyToTrial_6 ?_
  refine z_NM (i_X11_set kt_69 (Nat.le_of_ble_eq_true rfl)) ok_X11_set nw_X3_58 ⟨Nat.le_of_ble_eq_true rfl, Nat.le_of_ble_eq_true rfl⟩ ⟨Nat.zero_le _, Nat.zero_le _⟩ rfl rfl (Nat.le_of_ble_eq_true rfl) dX3_copyToTrial_7 ?_
  refine z_mm (fun μ_1 eμ_1 => ?_)
  replace h := h μ_1 eμ_1
  replace hs : StatR μ_1.2.2 := by rw [eμ_1]; exact (StatR.set hs)
  refine z_iconst dX3_copyToTrial_10 ?_
  refine z_istore_n (lv' := [(2, vi 0), (0, vr Γ 67), (1, vi a1)]) dX3_copyToTrial_11 rfl (Nat.le_of_ble_eq_true rfl) rfl ?_
  obtain ⟨m12, h⟩ := h
  refine z_sub (lv' := [(0, vr Γ 67), (1, vi a1), (2, vi 0)]) [1, 2, 0] rfl ?_
  refine L_Floor_copyToTrial_12 (fun μ_4 hs h => ?_) m12 0 μ_1 hs h
  exact z_vret rfl dX3_copyToTrial_51 rfl rfl rfl ⟨rfl, hs, h⟩
abbrev Y_Floor_against : Yt := (4, (some .int), yX3_against.name, { frames := 3, cells := 0, slots := 0, locals := 74 }, 175, 0, 0)
def b_Floor_against_49 (k : Int → Mem → Prop) (v2 : Int) (μ_3 : Mem) : Prop := f_Floor_bitsOf v2 1 μ_3 (fun r52 μ_4 => f_Floor_bitsOf v2 (-1) μ_4 (fun r63 μ_5 => ∀ x82 : Int, x82 = (if ((r52 &&& (rL μ_4 9583 0)) ||| (r63 &&& (rL μ_5 9582 0))) = 0 then 0 else 1) → k x82 μ_5))
def f_Floor_against (a1 : Int) (μ : Mem) (k : Int → Mem → Prop) : Prop := if w (v_H_kindOf a1) = w 2 then (k 0 μ) else (if w (v_H_kindOf a1) = w 1 then (f_Floor_copyToTrial (at' μ 14 40 (a1 - 100)) μ (fun μ_1 => f_Floor_amendRow 24 (a1 - 100) μ_1 (fun μ_2 => b_Floor_against_49 k 24 μ_2))) else (b_Floor_against_49 k a1 μ))
theorem B_Floor_against_49 {l : Launch} {Γ : Gam} {g : Nat} {k : Int → Mem → Prop} {v2 : Int} {μ_3 : Mem} (hs : StatR μ_3.2.2) (h : b_Floor_against_49 k v2 μ_3) : SW l Γ yX3_against.cls cX3_against Y_Floor_against (pI k) g 175 0 0 μ_3 49 [(0, vr Γ 67), (2, vi v2)] [] := by
  unfold b_Floor_against_49 at h
  refine z_rload_n dX3_against_49 rfl 0 rfl ?_
  refine z_iload_n dX3_against_50 rfl 1 rfl ?_
  refine z_iconst dX3_against_51 ?_
  refine z_VL (i_Floor_bitsOf  hs h) vk_X3_bitsOf kt_67 (Nat.le_of_ble_eq_true rfl) rfl ml_X3_125 ⟨Nat.le_of_ble_eq_true rfl, Nat.le_of_ble_eq_true rfl⟩ ⟨Nat.zero_le _, Nat.zero_le _⟩ rfl rfl (Nat.le_of_ble_eq_true rfl) dX3_against_52 (fun r52 μ_4 hs h => ?_)
  refine z_rload_n dX3_against_55 rfl 0 rfl ?_
  refine z_getJ (q := 9583) ff_3_7 dX3_against_56 kt_67 (Nat.le_of_ble_eq_true rfl) fl_X3_47 rfl ?_
  refine z_land dX3_against_59 ?_
  refine z_rload_n dX3_against_60 rfl 0 rfl ?_
  refine z_iload_n dX3_against_61 rfl 1 rfl ?_
  refine z_iconst dX3_against_62 ?_
  refine z_VL (i_Floor_bitsOf  hs h) vk_X3_bitsOf kt_67 (Nat.le_of_ble_eq_true rfl) rfl ml_X3_125 ⟨Nat.le_of_ble_eq_true rfl, Nat.le_of_ble_eq_true rfl⟩ ⟨Nat.zero_le _, Nat.zero_le _⟩ rfl rfl (Nat.le_of_ble_eq_true rfl) dX3_against_63 (fun r63 μ_5 hs h => ?_)
  refine z_rload_n dX3_against_66 rfl 0 rfl ?_
  refine z_getJ (q := 9582) ff_3_6 dX3_against_67 kt_67 (Nat.le_of_ble_eq_true rfl) fl_X3_43 rfl ?_
  refine z_land dX3_against_70 ?_
  refine z_lor dX3_against_71 ?_
  refine z_lconst (v := 0) dX3_against_72 rfl ?_
  refine z_phi 82 [] (fun V9 hv J9 => ?_) h (fun x82 h => ?_)
  · refine z_lcmp_eq (tgt := 81) dX3_against_73 dX3_against_74 (by decide) (eq_ite hv) (fun hv => ?_) (fun hv => ?_)
    · refine z_iconst dX3_against_81 ?_
      exact J9 _ hv.symm
    · refine z_iconst dX3_against_77 ?_
      refine z_goto (tgt := 82) dX3_against_78 (by decide) ?_
      exact J9 _ hv.symm
  · exact z_iret rfl dX3_against_82 rfl rfl rfl ⟨_, rfl, hs, h⟩
theorem i_Floor_against {l : Launch} {Γ : Gam} {g : Nat} {a1 : Int} {μ : Mem} {k : Int → Mem → Prop} (hs : StatR μ.2.2) (h : f_Floor_against a1 μ k) : CT l Γ yX3_against cX3_against 4 (some .int) 3 74 0 0 [vr Γ 67, vi a1] g 175 μ (pI k) := by
  refine SW.ct (by decide) (Nat.le_of_ble_eq_true rfl) ?_
  refine z_sub (lv' := [(0, vr Γ 67), (1, vi a1)]) [0, 1] rfl ?_
  show SW l Γ yX3_against.cls cX3_against Y_Floor_against (pI k) g 175 0 0 μ 0 [(0, vr Γ 67), (1, vi a1)] []
  unfold f_Floor_against at h
  refine z_iload_n dX3_against_0 rfl 1 rfl ?_
  refine z_NE (i_H_kindOf ) sk_X11_kindOf nw_X3_112 ⟨Nat.le_of_ble_eq_true rfl, Nat.le_of_ble_eq_true rfl⟩ ⟨Nat.zero_le _, Nat.zero_le _⟩ rfl rfl (Nat.le_of_ble_eq_true rfl) dX3_against_1 ?_
  refine z_iconst dX3_against_4 ?_
  refine z_icmp_ne (tgt := 10) dX3_against_5 (by decide) h (fun h => ?_) (fun h => ?_)
  · refine z_iconst dX3_against_8 ?_
    exact z_iret rfl dX3_against_9 rfl rfl rfl ⟨_, rfl, hs, h⟩
  · refine z_iload_n dX3_against_10 rfl 1 rfl ?_
    refine z_istore_n (lv' := [(2, vi a1), (0, vr Γ 67), (1, vi a1)]) dX3_against_11 rfl (Nat.le_of_ble_eq_true rfl) rfl ?_
    refine z_iload_n dX3_against_12 rfl 2 rfl ?_
    refine z_NE (i_H_kindOf ) sk_X11_kindOf nw_X3_112 ⟨Nat.le_of_ble_eq_true rfl, Nat.le_of_ble_eq_true rfl⟩ ⟨Nat.zero_le _, Nat.zero_le _⟩ rfl rfl (Nat.le_of_ble_eq_true rfl) dX3_against_13 ?_
    refine z_iconst dX3_against_16 ?_
    refine z_icmp_ne (tgt := 49) dX3_against_17 (by decide) h (fun h => ?_) (fun h => ?_)
    · refine z_iload_n dX3_against_20 rfl 2 rfl ?_
      refine z_bipush dX3_against_21 (by decide) ?_
      refine z_isub dX3_against_23 ?_
      refine z_istore_n (lv' := [(3, vi (a1 - 100)), (2, vi a1), (0, vr Γ 67), (1, vi a1)]) dX3_against_24 rfl (Nat.le_of_ble_eq_true rfl) rfl ?_
      refine z_bipush dX3_against_25 (by decide) ?_
      refine z_istore_n (lv' := [(2, vi 24), (3, vi (a1 - 100)), (0, vr Γ 67), (1, vi a1)]) dX3_against_27 rfl (Nat.le_of_ble_eq_true rfl) rfl ?_
      refine z_rload_n dX3_against_28 rfl 2 rfl ?_
      refine z_rload_n dX3_against_29 rfl 2 rfl ?_
      refine z_getR (q := 9576) ff_3_0 dX3_against_30 kt_67 (Nat.le_of_ble_eq_true rfl) fl_X3_31 rfl (hs.1 _ _ sr_9576) ?_
      refine z_getR (q := 2537) ff_6_1 dX3_against_33 kt_12 (Nat.le_of_ble_eq_true rfl) fl_X3_115 rfl (hs.1 _ _ sr_2537) ?_
      refine z_iload_n dX3_against_36 rfl 1 rfl ?_
      refine z_NE (i_X11_at kt_14 (Nat.le_of_ble_eq_true rfl)) ok_X11_at nw_X3_54 ⟨Nat.le_of_ble_eq_true rfl, Nat.le_of_ble_eq_true rfl⟩ ⟨Nat.zero_le _, Nat.zero_le _⟩ rfl rfl (Nat.le_of_ble_eq_true rfl) dX3_against_37 ?_
      refine z_VU (i_Floor_copyToTrial  hs h) vk_X3_copyToTrial kt_67 (Nat.le_of_ble_eq_true rfl) rfl ml_X3_118 ⟨Nat.le_of_ble_eq_true rfl, Nat.le_of_ble_eq_true rfl⟩ ⟨Nat.zero_le _, Nat.zero_le _⟩ rfl rfl (Nat.le_of_ble_eq_true rfl) dX3_against_40 (fun μ_1 hs h => ?_)
      refine z_rload_n dX3_against_43 rfl 2 rfl ?_
      refine z_iload_n dX3_against_44 rfl 0 rfl ?_
      refine z_iload_n dX3_against_45 rfl 1 rfl ?_
      refine z_VU (i_Floor_amendRow  hs h) vk_X3_amendRow kt_67 (Nat.le_of_ble_eq_true rfl) rfl ml_X3_122 ⟨Nat.le_of_ble_eq_true rfl, Nat.le_of_ble_eq_true rfl⟩ ⟨Nat.zero_le _, Nat.zero_le _⟩ rfl rfl (Nat.le_of_ble_eq_true rfl) dX3_against_46 (fun μ_2 hs h => ?_)
      refine z_sub (lv' := [(0, vr Γ 67), (2, vi 24)]) [2, 0] rfl ?_
      exact B_Floor_against_49 hs h
    · refine z_sub (lv' := [(0, vr Γ 67), (2, vi a1)]) [1, 0] rfl ?_
      exact B_Floor_against_49 hs h
abbrev Y_Chair_decideOn : Yt := (5, (some .int), yX0_decideOn.name, { frames := 5, cells := 0, slots := 0, locals := 119 }, 175, 0, 0)
def f_Chair_decideOn (a1 : Int) (a2 : Int) (μ : Mem) (k : Int → Mem → Prop) : Prop := f_Papers_inForce (rI μ 9584 0) μ (fun r11 μ_1 => isRu r11 = true ∧ f_Count_take a1 a2 μ_1 (fun μ_2 => f_Count_weigh r11 0 μ_2 (fun μ_3 => f_Count_leaveOut (rI μ_3 11631 0) μ_3 (fun μ_4 => f_Count_sumUp (-1) μ_4 (fun μ_5 => f_Floor_against a1 μ_5 (fun r66 μ_6 => f_Count_passes r11 (v_H_kindOf a1) r66 a2 μ_6 (fun r70 μ_7 => f_Chair_writeRow a1 a2 r70 μ_7 (fun μ_8 => f_Chair_carryOut a1 r70 μ_8 (fun μ_9 => ∀ x100 : Int, x100 = (if r70 = true then 1 else 0) → k x100 μ_9)))))))))
theorem i_Chair_decideOn {l : Launch} {Γ : Gam} {g : Nat} {a1 : Int} {a2 : Int} {μ : Mem} {k : Int → Mem → Prop} (hs : StatR μ.2.2) (h : f_Chair_decideOn a1 a2 μ k) : CT l Γ yX0_decideOn cX0_decideOn 5 (some .int) 5 119 0 0 [vr Γ 83, vi a1, vi a2] g 175 μ (pI k) := by
  refine SW.ct (by decide) (Nat.le_of_ble_eq_true rfl) ?_
  refine z_sub (lv' := [(0, vr Γ 83), (1, vi a1), (2, vi a2)]) [0, 1, 2] rfl ?_
  show SW l Γ yX0_decideOn.cls cX0_decideOn Y_Chair_decideOn (pI k) g 175 0 0 μ 0 [(0, vr Γ 83), (1, vi a1), (2, vi a2)] []
  unfold f_Chair_decideOn at h
  refine z_rload_n dX0_decideOn_0 rfl 0 rfl ?_
  refine z_getR (q := 11625) ff_0_1 dX0_decideOn_1 kt_83 (Nat.le_of_ble_eq_true rfl) fl_X0_19 rfl (hs.1 _ _ sr_11625) ?_
  refine z_rload_n dX0_decideOn_4 rfl 0 rfl ?_
  refine z_getR (q := 11626) ff_0_2 dX0_decideOn_5 kt_83 (Nat.le_of_ble_eq_true rfl) fl_X0_23 rfl (hs.1 _ _ sr_11626) ?_
  refine z_getI (q := 9584) ff_3_8 dX0_decideOn_8 kt_67 (Nat.le_of_ble_eq_true rfl) fl_X0_87 rfl ?_
  refine z_VA (i_Papers_inForce  hs h) vk_X6_inForce kt_12 (Nat.le_of_ble_eq_true rfl) rfl ml_X0_90 ⟨Nat.le_of_ble_eq_true rfl, Nat.le_of_ble_eq_true rfl⟩ ⟨Nat.zero_le _, Nat.zero_le _⟩ rfl rfl (Nat.le_of_ble_eq_true rfl) dX0_decideOn_11 (fun r11 μ_1 hs h => ?_)
  obtain ⟨hr_r11, h⟩ := h
  refine z_rstore_n (lv' := [(3, vr Γ r11), (0, vr Γ 83), (1, vi a1), (2, vi a2)]) dX0_decideOn_14 rfl (Nat.le_of_ble_eq_true rfl) rfl ?_
  refine z_rload_n dX0_decideOn_15 rfl 1 rfl ?_
  refine z_getR (q := 11628) ff_0_4 dX0_decideOn_16 kt_83 (Nat.le_of_ble_eq_true rfl) fl_X0_27 rfl (hs.1 _ _ sr_11628) ?_
  refine z_iload_n dX0_decideOn_19 rfl 2 rfl ?_
  refine z_iload_n dX0_decideOn_20 rfl 3 rfl ?_
  refine z_VU (i_Count_take  hs h) vk_X2_take kt_73 (Nat.le_of_ble_eq_true rfl) rfl ml_X0_78 ⟨Nat.le_of_ble_eq_true rfl, Nat.le_of_ble_eq_true rfl⟩ ⟨Nat.zero_le _, Nat.zero_le _⟩ rfl rfl (Nat.le_of_ble_eq_true rfl) dX0_decideOn_21 (fun μ_2 hs h => ?_)
  refine z_rload_n dX0_decideOn_24 rfl 1 rfl ?_
  refine z_getR (q := 11628) ff_0_4 dX0_decideOn_25 kt_83 (Nat.le_of_ble_eq_true rfl) fl_X0_27 rfl (hs.1 _ _ sr_11628) ?_
  refine z_rload_n dX0_decideOn_28 rfl 0 rfl ?_
  refine z_iconst dX0_decideOn_29 ?_
  refine z_VU (i_Count_weigh hr_r11 hs h) vk_X2_weigh kt_73 (Nat.le_of_ble_eq_true rfl) rfl ml_X0_96 ⟨Nat.le_of_ble_eq_true rfl, Nat.le_of_ble_eq_true rfl⟩ ⟨Nat.zero_le _, Nat.zero_le _⟩ rfl rfl (Nat.le_of_ble_eq_true rfl) dX0_decideOn_30 (fun μ_3 hs h => ?_)
  refine z_rload_n dX0_decideOn_33 rfl 1 rfl ?_
  refine z_getR (q := 11628) ff_0_4 dX0_decideOn_34 kt_83 (Nat.le_of_ble_eq_true rfl) fl_X0_27 rfl (hs.1 _ _ sr_11628) ?_
  refine z_rload_n dX0_decideOn_37 rfl 1 rfl ?_
  refine z_getI (q := 11631) ff_0_7 dX0_decideOn_38 kt_83 (Nat.le_of_ble_eq_true rfl) fl_X0_59 rfl ?_
  refine z_VU (i_Count_leaveOut  hs h) vk_X2_leaveOut kt_73 (Nat.le_of_ble_eq_true rfl) rfl ml_X0_100 ⟨Nat.le_of_ble_eq_true rfl, Nat.le_of_ble_eq_true rfl⟩ ⟨Nat.zero_le _, Nat.zero_le _⟩ rfl rfl (Nat.le_of_ble_eq_true rfl) dX0_decideOn_41 (fun μ_4 hs h => ?_)
  refine z_rload_n dX0_decideOn_44 rfl 1 rfl ?_
  refine z_getR (q := 11628) ff_0_4 dX0_decideOn_45 kt_83 (Nat.le_of_ble_eq_true rfl) fl_X0_27 rfl (hs.1 _ _ sr_11628) ?_
  refine z_iconst dX0_decideOn_48 ?_
  refine z_VU (i_Count_sumUp  hs h) vk_X2_sumUp kt_73 (Nat.le_of_ble_eq_true rfl) rfl ml_X0_104 ⟨Nat.le_of_ble_eq_true rfl, Nat.le_of_ble_eq_true rfl⟩ ⟨Nat.zero_le _, Nat.zero_le _⟩ rfl rfl (Nat.le_of_ble_eq_true rfl) dX0_decideOn_49 (fun μ_5 hs h => ?_)
  refine z_rload_n dX0_decideOn_52 rfl 1 rfl ?_
  refine z_getR (q := 11628) ff_0_4 dX0_decideOn_53 kt_83 (Nat.le_of_ble_eq_true rfl) fl_X0_27 rfl (hs.1 _ _ sr_11628) ?_
  refine z_rload_n dX0_decideOn_56 rfl 0 rfl ?_
  refine z_iload_n dX0_decideOn_57 rfl 2 rfl ?_
  refine z_NE (i_H_kindOf ) sk_X11_kindOf nw_X0_107 ⟨Nat.le_of_ble_eq_true rfl, Nat.le_of_ble_eq_true rfl⟩ ⟨Nat.zero_le _, Nat.zero_le _⟩ rfl rfl (Nat.le_of_ble_eq_true rfl) dX0_decideOn_58 ?_
  refine z_rload_n dX0_decideOn_61 rfl 1 rfl ?_
  refine z_getR (q := 11626) ff_0_2 dX0_decideOn_62 kt_83 (Nat.le_of_ble_eq_true rfl) fl_X0_23 rfl (hs.1 _ _ sr_11626) ?_
  refine z_iload_n dX0_decideOn_65 rfl 2 rfl ?_
  refine z_VI (i_Floor_against  hs h) vk_X3_against kt_67 (Nat.le_of_ble_eq_true rfl) rfl ml_X0_110 ⟨Nat.le_of_ble_eq_true rfl, Nat.le_of_ble_eq_true rfl⟩ ⟨Nat.zero_le _, Nat.zero_le _⟩ rfl rfl (Nat.le_of_ble_eq_true rfl) dX0_decideOn_66 (fun r66 μ_6 hs h => ?_)
  refine z_iload_n dX0_decideOn_69 rfl 3 rfl ?_
  refine z_VB (i_Count_passes hr_r11 hs h) vk_X2_passes kt_73 (Nat.le_of_ble_eq_true rfl) rfl ml_X0_113 ⟨Nat.le_of_ble_eq_true rfl, Nat.le_of_ble_eq_true rfl⟩ ⟨Nat.zero_le _, Nat.zero_le _⟩ rfl rfl (Nat.le_of_ble_eq_true rfl) dX0_decideOn_70 (fun r70 μ_7 hs h => ?_)
  refine z_istore (lv' := [(4, vi (b2i r70)), (3, vr Γ r11), (0, vr Γ 83), (1, vi a1), (2, vi a2)]) dX0_decideOn_73 (Nat.le_of_ble_eq_true rfl) rfl ?_
  refine z_rload_n dX0_decideOn_75 rfl 2 rfl ?_
  refine z_iload_n dX0_decideOn_76 rfl 3 rfl ?_
  refine z_iload_n dX0_decideOn_77 rfl 4 rfl ?_
  refine z_iload dX0_decideOn_78 0 rfl ?_
  refine z_VU (i_Chair_writeRow  hs h) vk_X0_writeRow kt_83 (Nat.le_of_ble_eq_true rfl) rfl ml_X0_117 ⟨Nat.le_of_ble_eq_true rfl, Nat.le_of_ble_eq_true rfl⟩ ⟨Nat.zero_le _, Nat.zero_le _⟩ rfl rfl (Nat.le_of_ble_eq_true rfl) dX0_decideOn_80 (fun μ_8 hs h => ?_)
  refine z_rload_n dX0_decideOn_83 rfl 2 rfl ?_
  refine z_iload_n dX0_decideOn_84 rfl 3 rfl ?_
  refine z_iload dX0_decideOn_85 0 rfl ?_
  refine z_VU (i_Chair_carryOut  hs h) vk_X0_carryOut kt_83 (Nat.le_of_ble_eq_true rfl) rfl ml_X0_121 ⟨Nat.le_of_ble_eq_true rfl, Nat.le_of_ble_eq_true rfl⟩ ⟨Nat.zero_le _, Nat.zero_le _⟩ rfl rfl (Nat.le_of_ble_eq_true rfl) dX0_decideOn_87 (fun μ_9 hs h => ?_)
  refine z_iload dX0_decideOn_90 0 rfl ?_
  refine z_phi 100 [] (fun V9 hv J9 => ?_) h (fun x100 h => ?_)
  · refine z_ifeq_b (tgt := 99) dX0_decideOn_92 (by decide) (eq_ite hv) (fun hv => ?_) (fun hv => ?_)
    · refine z_iconst dX0_decideOn_95 ?_
      refine z_goto (tgt := 100) dX0_decideOn_96 (by decide) ?_
      exact J9 _ hv.symm
    · refine z_iconst dX0_decideOn_99 ?_
      exact J9 _ hv.symm
  · exact z_iret rfl dX0_decideOn_100 rfl rfl rfl ⟨_, rfl, hs, h⟩
