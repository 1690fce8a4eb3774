abbrev Y_Floor_openMotions : Yt := (3, (some .int), yX3_openMotions.name, { frames := 2, cells := 0, slots := 0, locals := 42 }, 174, 0, 0)
def l_Floor_openMotions_4 (μ : Mem) (X_4_37 : Int → Prop) : Nat → Int → Int → Prop
  | 0, _, _ => False
  | fu4 + 1, v1, v2 => if w v2 < w (rI μ 2543 0) then (∀ x29 : Int, x29 = (if w (v_Floor_stateOf v2 μ) = 0 then 1 else 0) → ∀ v1_1 : Int, v1_1 = v1 + x29 → (l_Floor_openMotions_4 μ X_4_37 fu4) v1_1 (v2 + 1)) else (X_4_37 v1)
def f_Floor_openMotions  (μ : Mem) (k : Int → Mem → Prop) : Prop := ∃ m4 : Nat, l_Floor_openMotions_4 μ (fun (v1_2 : Int) => k v1_2 μ) m4 0 0
theorem L_Floor_openMotions_4 {l : Launch} {Γ : Gam} {g : Nat} {μ : Mem} {X_4_37 : Int → Prop} {k : Int → Mem → Prop} (hs : StatR μ.2.2) (hX_4_37 : ∀ (u1 : Int), X_4_37 u1 → SW l Γ yX3_openMotions.cls cX3_openMotions Y_Floor_openMotions (pI k) g 174 0 0 μ 37 [(1, vi u1)] []) (n9 : Nat) : ∀ (v1 : Int) (v2 : Int), l_Floor_openMotions_4 μ X_4_37 n9 v1 v2 → SW l Γ yX3_openMotions.cls cX3_openMotions Y_Floor_openMotions (pI k) g 174 0 0 μ 4 [(0, vr Γ 67), (1, vi v1), (2, vi v2)] [] := by
  induction n9 with
  | zero =>
    intro v1 v2 h
    exact h.elim
  | succ n9 hR_4 =>
    intro v1 v2 h
    rw [l_Floor_openMotions_4] at h
    refine z_iload_n dX3_openMotions_4 rfl 2 rfl ?_
    refine z_rload_n dX3_openMotions_5 rfl 0 rfl ?_
    refine z_getR (q := 9576) ff_3_0 dX3_openMotions_6 kt_67 (Nat.le_of_ble_eq_true rfl) fl_X3_31 rfl (hs.1 _ _ sr_9576) ?_
    refine z_getI (q := 2543) ff_6_7 dX3_openMotions_9 kt_12 (Nat.le_of_ble_eq_true rfl) fl_X3_66 rfl ?_
    refine z_icmp_ge (tgt := 37) dX3_openMotions_12 (by decide) h (fun h => ?_) (fun h => ?_)
    · refine z_iload_n dX3_openMotions_15 rfl 1 rfl ?_
      refine z_rload_n dX3_openMotions_16 rfl 0 rfl ?_
      refine z_iload_n dX3_openMotions_17 rfl 2 rfl ?_
      refine z_VE (i_Floor_stateOf hs) vk_X3_stateOf kt_67 (Nat.le_of_ble_eq_true rfl) rfl ml_X3_50 ⟨Nat.le_of_ble_eq_true rfl, Nat.le_of_ble_eq_true rfl⟩ ⟨Nat.zero_le _, Nat.zero_le _⟩ rfl rfl (Nat.le_of_ble_eq_true rfl) dX3_openMotions_18 ?_
      refine z_phi 29 [vi v1] (fun V9 hv J9 => ?_) h (fun x29 h => ?_)
      · refine z_if_ne (tgt := 28) dX3_openMotions_21 (by decide) (eq_ite hv) (fun hv => ?_) (fun hv => ?_)
        · refine z_iconst dX3_openMotions_24 ?_
          refine z_goto (tgt := 29) dX3_openMotions_25 (by decide) ?_
          exact J9 _ hv.symm
        · refine z_iconst dX3_openMotions_28 ?_
          exact J9 _ hv.symm
      · refine z_iadd dX3_openMotions_29 ?_
        refine z_nm (fun v1_1 ev1_1 => ?_)
        replace h := h v1_1 ev1_1
        refine z_istore_n (lv' := [(1, vi v1_1), (0, vr Γ 67), (2, vi v2)]) dX3_openMotions_30 rfl (Nat.le_of_ble_eq_true rfl) rfl ?_
        refine z_iinc (j := 2) (lv' := [(2, vi (v2 + 1)), (1, vi v1_1), (0, vr Γ 67)]) dX3_openMotions_31 rfl (Nat.le_of_ble_eq_true rfl) rfl ?_
        refine z_goto (tgt := 4) dX3_openMotions_34 (by decide) ?_
        refine z_sub (lv' := [(0, vr Γ 67), (1, vi v1_1), (2, vi (v2 + 1))]) [2, 1, 0] rfl ?_
        exact hR_4 v1_1 (v2 + 1) h
    · refine z_sub (lv' := [(1, vi v1)]) [1] rfl ?_
      exact hX_4_37 v1 h
theorem i_Floor_openMotions {l : Launch} {Γ : Gam} {g : Nat} {μ : Mem} {k : Int → Mem → Prop} (hs : StatR μ.2.2) (h : f_Floor_openMotions  μ k) : CT l Γ yX3_openMotions cX3_openMotions 3 (some .int) 2 42 0 0 [vr Γ 67] g 174 μ (pI k) := by
  refine SW.ct (by decide) (Nat.le_of_ble_eq_true rfl) ?_
  refine z_sub (lv' := [(0, vr Γ 67)]) [0] rfl ?_
  show SW l Γ yX3_openMotions.cls cX3_openMotions Y_Floor_openMotions (pI k) g 174 0 0 μ 0 [(0, vr Γ 67)] []
  unfold f_Floor_openMotions at h
  refine z_iconst dX3_openMotions_0 ?_
  refine z_istore_n (lv' := [(1, vi 0), (0, vr Γ 67)]) dX3_openMotions_1 rfl (Nat.le_of_ble_eq_true rfl) rfl ?_
  refine z_iconst dX3_openMotions_2 ?_
  refine z_istore_n (lv' := [(2, vi 0), (1, vi 0), (0, vr Γ 67)]) dX3_openMotions_3 rfl (Nat.le_of_ble_eq_true rfl) rfl ?_
  obtain ⟨m4, h⟩ := h
  refine z_sub (lv' := [(0, vr Γ 67), (1, vi 0), (2, vi 0)]) [2, 1, 0] rfl ?_
  refine L_Floor_openMotions_4 hs (fun v1_2 h => ?_) m4 0 0 h
  refine z_iload_n dX3_openMotions_37 rfl 0 rfl ?_
  exact z_iret rfl dX3_openMotions_38 rfl rfl rfl ⟨_, rfl, hs, h⟩
abbrev Y_H_count : Yt := (2, (some .int), yX11_count.name, { frames := 3, cells := 0, slots := 0, locals := 64 }, 174, 0, 0)
def f_H_count (a1 : Int) (μ : Mem) (k : Int → Mem → Prop) : Prop := if w a1 = 0 then (k (rI μ 1139 0) μ) else (if w a1 = 1 then (k (rI μ 1136 0) μ) else (if w a1 = 2 then (k (rI μ 1137 0) μ) else (if w a1 = 3 then (k (rI μ 1138 0) μ) else (if w a1 = 4 then (k (rI μ 2543 0) μ) else (if w a1 = 5 then (k (rI μ 2544 0) μ) else (if w a1 = 6 then (k (rI μ 2545 0) μ) else (if w a1 = 7 then (k (rI μ 9584 0) μ) else (if w a1 = 8 then (k (rI μ 11632 0) μ) else (if w a1 = 9 then (k (rI μ 2281 0) μ) else (if w a1 = 10 then (f_Floor_openMotions  μ (fun r148 μ_1 => k r148 μ_1)) else (if w a1 = 11 then (k (v_popL ((rL μ 9582 0) ||| (rL μ 9583 0))) μ) else (k (-1) μ))))))))))))
theorem i_H_count {l : Launch} {Γ : Gam} {g : Nat} {a1 : Int} {μ : Mem} {k : Int → Mem → Prop} (hs : StatR μ.2.2) (h : f_H_count a1 μ k) : CT l Γ yX11_count cX11_count 2 (some .int) 3 64 0 0 [vr Γ 0, vi a1] g 174 μ (pI k) := by
  refine SW.ct (by decide) (Nat.le_of_ble_eq_true rfl) ?_
  refine z_sub (lv' := [(0, vr Γ 0), (1, vi a1)]) [0, 1] rfl ?_
  show SW l Γ yX11_count.cls cX11_count Y_H_count (pI k) g 174 0 0 μ 0 [(0, vr Γ 0), (1, vi a1)] []
  unfold f_H_count at h
  refine z_iload_n dX11_count_0 rfl 1 rfl ?_
  by_cases hc0 : w a1 = 0
  · rw [if_pos hc0] at h
    refine z_tcase (tgt := 64) 0 hc0 dX11_count_1 (by decide) (by decide) rfl (by decide) ?_
    refine z_rload_n dX11_count_64 rfl 0 rfl ?_
    refine z_getR (q := 1000) ff_11_0 dX11_count_65 kt_0 (Nat.le_of_ble_eq_true rfl) fl_X11_12 rfl (hs.1 _ _ sr_1000) ?_
    refine z_getI (q := 1139) ff_7_11 dX11_count_68 kt_1 (Nat.le_of_ble_eq_true rfl) fl_X11_139 rfl ?_
    exact z_iret rfl dX11_count_71 rfl rfl rfl ⟨_, rfl, hs, h⟩
  · rw [if_neg hc0] at h
    by_cases hc1 : w a1 = 1
    · rw [if_pos hc1] at h
      refine z_tcase (tgt := 72) 1 hc1 dX11_count_1 (by decide) (by decide) rfl (by decide) ?_
      refine z_rload_n dX11_count_72 rfl 0 rfl ?_
      refine z_getR (q := 1000) ff_11_0 dX11_count_73 kt_0 (Nat.le_of_ble_eq_true rfl) fl_X11_12 rfl (hs.1 _ _ sr_1000) ?_
      refine z_getI (q := 1136) ff_7_8 dX11_count_76 kt_1 (Nat.le_of_ble_eq_true rfl) fl_X11_356 rfl ?_
      exact z_iret rfl dX11_count_79 rfl rfl rfl ⟨_, rfl, hs, h⟩
    · rw [if_neg hc1] at h
      by_cases hc2 : w a1 = 2
      · rw [if_pos hc2] at h
        refine z_tcase (tgt := 80) 2 hc2 dX11_count_1 (by decide) (by decide) rfl (by decide) ?_
        refine z_rload_n dX11_count_80 rfl 0 rfl ?_
        refine z_getR (q := 1000) ff_11_0 dX11_count_81 kt_0 (Nat.le_of_ble_eq_true rfl) fl_X11_12 rfl (hs.1 _ _ sr_1000) ?_
        refine z_getI (q := 1137) ff_7_9 dX11_count_84 kt_1 (Nat.le_of_ble_eq_true rfl) fl_X11_359 rfl ?_
        exact z_iret rfl dX11_count_87 rfl rfl rfl ⟨_, rfl, hs, h⟩
      · rw [if_neg hc2] at h
        by_cases hc3 : w a1 = 3
        · rw [if_pos hc3] at h
          refine z_tcase (tgt := 88) 3 hc3 dX11_count_1 (by decide) (by decide) rfl (by decide) ?_
          refine z_rload_n dX11_count_88 rfl 0 rfl ?_
          refine z_getR (q := 1000) ff_11_0 dX11_count_89 kt_0 (Nat.le_of_ble_eq_true rfl) fl_X11_12 rfl (hs.1 _ _ sr_1000) ?_
          refine z_getI (q := 1138) ff_7_10 dX11_count_92 kt_1 (Nat.le_of_ble_eq_true rfl) fl_X11_362 rfl ?_
          exact z_iret rfl dX11_count_95 rfl rfl rfl ⟨_, rfl, hs, h⟩
        · rw [if_neg hc3] at h
          by_cases hc4 : w a1 = 4
          · rw [if_pos hc4] at h
            refine z_tcase (tgt := 96) 4 hc4 dX11_count_1 (by decide) (by decide) rfl (by decide) ?_
            refine z_rload_n dX11_count_96 rfl 0 rfl ?_
            refine z_getR (q := 1004) ff_11_4 dX11_count_97 kt_0 (Nat.le_of_ble_eq_true rfl) fl_X11_26 rfl (hs.1 _ _ sr_1004) ?_
            refine z_getI (q := 2543) ff_6_7 dX11_count_100 kt_12 (Nat.le_of_ble_eq_true rfl) fl_X11_183 rfl ?_
            exact z_iret rfl dX11_count_103 rfl rfl rfl ⟨_, rfl, hs, h⟩
          · rw [if_neg hc4] at h
            by_cases hc5 : w a1 = 5
            · rw [if_pos hc5] at h
              refine z_tcase (tgt := 104) 5 hc5 dX11_count_1 (by decide) (by decide) rfl (by decide) ?_
              refine z_rload_n dX11_count_104 rfl 0 rfl ?_
              refine z_getR (q := 1004) ff_11_4 dX11_count_105 kt_0 (Nat.le_of_ble_eq_true rfl) fl_X11_26 rfl (hs.1 _ _ sr_1004) ?_
              refine z_getI (q := 2544) ff_6_8 dX11_count_108 kt_12 (Nat.le_of_ble_eq_true rfl) fl_X11_225 rfl ?_
              exact z_iret rfl dX11_count_111 rfl rfl rfl ⟨_, rfl, hs, h⟩
            · rw [if_neg hc5] at h
              by_cases hc6 : w a1 = 6
              · rw [if_pos hc6] at h
                refine z_tcase (tgt := 112) 6 hc6 dX11_count_1 (by decide) (by decide) rfl (by decide) ?_
                refine z_rload_n dX11_count_112 rfl 0 rfl ?_
                refine z_getR (q := 1004) ff_11_4 dX11_count_113 kt_0 (Nat.le_of_ble_eq_true rfl) fl_X11_26 rfl (hs.1 _ _ sr_1004) ?_
                refine z_getI (q := 2545) ff_6_9 dX11_count_116 kt_12 (Nat.le_of_ble_eq_true rfl) fl_X11_160 rfl ?_
                exact z_iret rfl dX11_count_119 rfl rfl rfl ⟨_, rfl, hs, h⟩
              · rw [if_neg hc6] at h
                by_cases hc7 : w a1 = 7
                · rw [if_pos hc7] at h
                  refine z_tcase (tgt := 120) 7 hc7 dX11_count_1 (by decide) (by decide) rfl (by decide) ?_
                  refine z_rload_n dX11_count_120 rfl 0 rfl ?_
                  refine z_getR (q := 1005) ff_11_5 dX11_count_121 kt_0 (Nat.le_of_ble_eq_true rfl) fl_X11_57 rfl (hs.1 _ _ sr_1005) ?_
                  refine z_getI (q := 9584) ff_3_8 dX11_count_124 kt_67 (Nat.le_of_ble_eq_true rfl) fl_X11_125 rfl ?_
                  exact z_iret rfl dX11_count_127 rfl rfl rfl ⟨_, rfl, hs, h⟩
                · rw [if_neg hc7] at h
                  by_cases hc8 : w a1 = 8
                  · rw [if_pos hc8] at h
                    refine z_tcase (tgt := 128) 8 hc8 dX11_count_1 (by decide) (by decide) rfl (by decide) ?_
                    refine z_rload_n dX11_count_128 rfl 0 rfl ?_
                    refine z_getR (q := 1007) ff_11_7 dX11_count_129 kt_0 (Nat.le_of_ble_eq_true rfl) fl_X11_75 rfl (hs.1 _ _ sr_1007) ?_
                    refine z_getI (q := 11632) ff_0_8 dX11_count_132 kt_83 (Nat.le_of_ble_eq_true rfl) fl_X11_283 rfl ?_
                    exact z_iret rfl dX11_count_135 rfl rfl rfl ⟨_, rfl, hs, h⟩
                  · rw [if_neg hc8] at h
                    by_cases hc9 : w a1 = 9
                    · rw [if_pos hc9] at h
                      refine z_tcase (tgt := 136) 9 hc9 dX11_count_1 (by decide) (by decide) rfl (by decide) ?_
                      refine z_rload_n dX11_count_136 rfl 0 rfl ?_
                      refine z_getR (q := 1001) ff_11_1 dX11_count_137 kt_0 (Nat.le_of_ble_eq_true rfl) fl_X11_19 rfl (hs.1 _ _ sr_1001) ?_
                      refine z_getI (q := 2281) ff_9_1 dX11_count_140 kt_10 (Nat.le_of_ble_eq_true rfl) fl_X11_153 rfl ?_
                      exact z_iret rfl dX11_count_143 rfl rfl rfl ⟨_, rfl, hs, h⟩
                    · rw [if_neg hc9] at h
                      by_cases hc10 : w a1 = 10
                      · rw [if_pos hc10] at h
                        refine z_tcase (tgt := 144) 10 hc10 dX11_count_1 (by decide) (by decide) rfl (by decide) ?_
                        refine z_rload_n dX11_count_144 rfl 0 rfl ?_
                        refine z_getR (q := 1005) ff_11_5 dX11_count_145 kt_0 (Nat.le_of_ble_eq_true rfl) fl_X11_57 rfl (hs.1 _ _ sr_1005) ?_
                        refine z_VI (i_Floor_openMotions  hs h) vk_X3_openMotions kt_67 (Nat.le_of_ble_eq_true rfl) rfl ml_X11_365 ⟨Nat.le_of_ble_eq_true rfl, Nat.le_of_ble_eq_true rfl⟩ ⟨Nat.zero_le _, Nat.zero_le _⟩ rfl rfl (Nat.le_of_ble_eq_true rfl) dX11_count_148 (fun r148 μ_1 hs h => ?_)
                        exact z_iret rfl dX11_count_151 rfl rfl rfl ⟨_, rfl, hs, h⟩
                      · rw [if_neg hc10] at h
                        by_cases hc11 : w a1 = 11
                        · rw [if_pos hc11] at h
                          refine z_tcase (tgt := 152) 11 hc11 dX11_count_1 (by decide) (by decide) rfl (by decide) ?_
                          refine z_rload_n dX11_count_152 rfl 0 rfl ?_
                          refine z_getR (q := 1005) ff_11_5 dX11_count_153 kt_0 (Nat.le_of_ble_eq_true rfl) fl_X11_57 rfl (hs.1 _ _ sr_1005) ?_
                          refine z_getJ (q := 9582) ff_3_6 dX11_count_156 kt_67 (Nat.le_of_ble_eq_true rfl) fl_X11_308 rfl ?_
                          refine z_rload_n dX11_count_159 rfl 0 rfl ?_
                          refine z_getR (q := 1005) ff_11_5 dX11_count_160 kt_0 (Nat.le_of_ble_eq_true rfl) fl_X11_57 rfl (hs.1 _ _ sr_1005) ?_
                          refine z_getJ (q := 9583) ff_3_7 dX11_count_163 kt_67 (Nat.le_of_ble_eq_true rfl) fl_X11_312 rfl ?_
                          refine z_lor dX11_count_166 ?_
                          refine z_SE (i_popL hs) sk_J13_bitCount_95d88 ml_X11_368 ⟨Nat.le_of_ble_eq_true rfl, Nat.le_of_ble_eq_true rfl⟩ ⟨Nat.zero_le _, Nat.zero_le _⟩ rfl rfl (Nat.le_of_ble_eq_true rfl) dX11_count_167 ?_
                          exact z_iret rfl dX11_count_170 rfl rfl rfl ⟨_, rfl, hs, h⟩
                        · rw [if_neg hc11] at h
                          refine z_tdef (tgt := 171) (by omega) dX11_count_1 (by decide) ?_
                          refine z_iconst dX11_count_171 ?_
                          exact z_iret rfl dX11_count_172 rfl rfl rfl ⟨_, rfl, hs, h⟩
