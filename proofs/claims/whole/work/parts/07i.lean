abbrev Y_M_groups : Yt := (8, (some .int), yX12_groups.name, { frames := 4, cells := 0, slots := 0, locals := 94 }, 175, 0, 0)
def l_M_groups_7 (a1 : Int) (a2 : Int) (X_7_60 : Mem → Prop) : Nat → Int → Mem → Prop
  | 0, _, _ => False
  | fu7 + 1, v3, μ_2 => if w v3 < w 24 then (if w (w_iand (w_ishr a1 v3) 1) = 0 then ((l_M_groups_7 a1 a2 X_7_60 fu7) (v3 + 1) μ_2) else (0 ≤ w (rI μ_2 15545 0) ∧ w (rI μ_2 15545 0) < ((8 : Nat) : Int) ∧ ∀ μ_3 : Mem, μ_3 = sI μ_2 163 (w (rI μ_2 15545 0)) v3 → 0 ≤ w (rI μ_3 15545 0) ∧ w (rI μ_3 15545 0) < ((8 : Nat) : Int) ∧ ∀ μ_4 : Mem, μ_4 = sI μ_3 164 (w (rI μ_3 15545 0)) 0 → ∀ μ_5 : Mem, μ_5 = sI μ_4 15545 0 ((rI μ_4 15545 0) + 1) → (l_M_groups_7 a1 a2 X_7_60 fu7) (v3 + 1) μ_5)) else (X_7_60 μ_2)
def b_M_groups_95 (R_68 : Int → Int → Bool → Mem → Prop) (v2 : Int) (v3_2 : Int) (v4_1 : Int) (v6 : Int) (s0 : Int) (μ_9 : Mem) : Prop := if w s0 = w (-1) then (f_M_countsUp  μ_9 (fun r147 μ_10 => R_68 v3_2 v4_1 r147 μ_10)) else (if w v3_2 = w (-1) then (f_M_copies 164 8 165 8 μ_9 (fun μ_11 => f_M_countsUp  μ_11 (fun r147_1 μ_12 => R_68 s0 v6 r147_1 μ_12))) else (if w s0 < w v3_2 then (f_M_copies 164 8 165 8 μ_9 (fun μ_13 => f_M_countsUp  μ_13 (fun r147_2 μ_14 => R_68 s0 v6 r147_2 μ_14))) else (if w s0 = w v3_2 then (if w v6 < w v4_1 then (f_M_copies 164 8 165 8 μ_9 (fun μ_15 => f_M_countsUp  μ_15 (fun r147_3 μ_16 => R_68 s0 v6 r147_3 μ_16))) else (f_M_countsUp  μ_9 (fun r147_4 μ_17 => R_68 v3_2 v4_1 r147_4 μ_17))) else (f_M_countsUp  μ_9 (fun r147_5 μ_18 => R_68 v3_2 v4_1 r147_5 μ_18)))))
def l_M_groups_68 (a2 : Int) (X_68_155 : Int → Mem → Prop) : Nat → Int → Int → Bool → Mem → Prop
  | 0, _, _, _, _ => False
  | fu68 + 1, v3_1, v4, v5, μ_7 => if v5 = true then (f_M_groupsOf  μ_7 (fun r74 μ_8 => if w a2 < w r74 then (b_M_groups_95 (l_M_groups_68 a2 X_68_155 fu68) a2 v3_1 v4 r74 (-1) μ_8) else (f_M_loses r74 μ_8 (fun r88 μ_19 => b_M_groups_95 (l_M_groups_68 a2 X_68_155 fu68) a2 v3_1 v4 r74 r88 μ_19)))) else (X_68_155 v3_1 μ_7)
def f_M_groups (a1 : Int) (a2 : Int) (μ : Mem) (k : Int → Mem → Prop) : Prop := ∀ μ_1 : Mem, μ_1 = sI μ 15545 0 0 → ∃ m7 : Nat, l_M_groups_7 a1 a2 (fun (μ_6 : Mem) => ∃ m68 : Nat, l_M_groups_68 a2 (fun (v3_3 : Int) (μ_20 : Mem) => k v3_3 μ_20) m68 (-1) 0 true μ_6) m7 0 μ_1
theorem L_M_groups_7 {l : Launch} {Γ : Gam} {g : Nat} {a1 : Int} {a2 : Int} {X_7_60 : Mem → Prop} {k : Int → Mem → Prop} (hX_7_60 : ∀ (ν : Mem), StatR ν.2.2 → X_7_60 ν → SW l Γ yX12_groups.cls cX12_groups Y_M_groups (pI k) g 175 0 0 ν 60 [(0, vr Γ 113), (2, vi a2)] []) (n9 : Nat) : ∀ (v3 : Int) (μ_2 : Mem), StatR μ_2.2.2 → l_M_groups_7 a1 a2 X_7_60 n9 v3 μ_2 → SW l Γ yX12_groups.cls cX12_groups Y_M_groups (pI k) g 175 0 0 μ_2 7 [(0, vr Γ 113), (1, vi a1), (2, vi a2), (3, vi v3)] [] := by
  induction n9 with
  | zero =>
    intro v3 μ_2 hs h
    exact h.elim
  | succ n9 hR_7 =>
    intro v3 μ_2 hs h
    rw [l_M_groups_7] at h
    refine z_iload_n dX12_groups_7 rfl 3 rfl ?_
    refine z_bipush dX12_groups_8 (by decide) ?_
    refine z_icmp_ge (tgt := 60) dX12_groups_10 (by decide) h (fun h => ?_) (fun h => ?_)
    · refine z_iload_n dX12_groups_13 rfl 1 rfl ?_
      refine z_iload_n dX12_groups_14 rfl 3 rfl ?_
      refine z_ishr dX12_groups_15 ?_
      refine z_iconst dX12_groups_16 ?_
      refine z_iand dX12_groups_17 ?_
      refine z_if_ne (tgt := 24) dX12_groups_18 (by decide) h (fun h => ?_) (fun h => ?_)
      · refine z_goto (tgt := 54) dX12_groups_21 (by decide) ?_
        refine z_iinc (j := 3) (lv' := [(3, vi (v3 + 1)), (0, vr Γ 113), (1, vi a1), (2, vi a2)]) dX12_groups_54 rfl (Nat.le_of_ble_eq_true rfl) rfl ?_
        refine z_goto (tgt := 7) dX12_groups_57 (by decide) ?_
        refine z_sub (lv' := [(0, vr Γ 113), (1, vi a1), (2, vi a2), (3, vi (v3 + 1))]) [1, 2, 3, 0] rfl ?_
        exact hR_7 (v3 + 1) μ_2 hs h
      · refine z_rload_n dX12_groups_24 rfl 0 rfl ?_
        refine z_getR (q := 15542) ff_12_78 dX12_groups_25 kt_113 (Nat.le_of_ble_eq_true rfl) fl_X12_176 rfl (hs.1 _ _ sr_15542) ?_
        refine z_rload_n dX12_groups_28 rfl 0 rfl ?_
        refine z_getI (q := 15545) ff_12_81 dX12_groups_29 kt_113 (Nat.le_of_ble_eq_true rfl) fl_X12_576 rfl ?_
        refine z_iload_n dX12_groups_32 rfl 3 rfl ?_
        obtain ⟨h0, h1, h⟩ := h
        refine z_iast dX12_groups_33 kt_163 (Nat.le_of_ble_eq_true rfl) h0 h1 ?_
        refine z_mm (fun μ_3 eμ_3 => ?_)
        replace h := h μ_3 eμ_3
        replace hs : StatR μ_3.2.2 := by rw [eμ_3]; exact hs
        refine z_rload_n dX12_groups_34 rfl 0 rfl ?_
        refine z_getR (q := 15543) ff_12_79 dX12_groups_35 kt_113 (Nat.le_of_ble_eq_true rfl) fl_X12_179 rfl (hs.1 _ _ sr_15543) ?_
        refine z_rload_n dX12_groups_38 rfl 0 rfl ?_
        refine z_getI (q := 15545) ff_12_81 dX12_groups_39 kt_113 (Nat.le_of_ble_eq_true rfl) fl_X12_576 rfl ?_
        refine z_iconst dX12_groups_42 ?_
        obtain ⟨h0, h1, h⟩ := h
        refine z_iast dX12_groups_43 kt_164 (Nat.le_of_ble_eq_true rfl) h0 h1 ?_
        refine z_mm (fun μ_4 eμ_4 => ?_)
        replace h := h μ_4 eμ_4
        replace hs : StatR μ_4.2.2 := by rw [eμ_4]; exact hs
        refine z_rload_n dX12_groups_44 rfl 0 rfl ?_
        refine z_dup dX12_groups_45 rfl ?_
        refine z_getI (q := 15545) ff_12_81 dX12_groups_46 kt_113 (Nat.le_of_ble_eq_true rfl) fl_X12_576 rfl ?_
        refine z_iconst dX12_groups_49 ?_
        refine z_iadd dX12_groups_50 ?_
        refine z_putI (q := 15545) ff_12_81 (Or.inl rfl) rfl dX12_groups_51 kt_113 (Nat.le_of_ble_eq_true rfl) fl_X12_576 rfl ?_
        refine z_mm (fun μ_5 eμ_5 => ?_)
        replace h := h μ_5 eμ_5
        replace hs : StatR μ_5.2.2 := by rw [eμ_5]; exact hs
        refine z_iinc (j := 3) (lv' := [(3, vi (v3 + 1)), (0, vr Γ 113), (1, vi a1), (2, vi a2)]) dX12_groups_54 rfl (Nat.le_of_ble_eq_true rfl) rfl ?_
        refine z_goto (tgt := 7) dX12_groups_57 (by decide) ?_
        refine z_sub (lv' := [(0, vr Γ 113), (1, vi a1), (2, vi a2), (3, vi (v3 + 1))]) [1, 2, 3, 0] rfl ?_
        exact hR_7 (v3 + 1) μ_5 hs h
    · refine z_sub (lv' := [(0, vr Γ 113), (2, vi a2)]) [0, 2] rfl ?_
      exact hX_7_60 μ_2 hs h
theorem B_M_groups_95 {l : Launch} {Γ : Gam} {g : Nat} {R_68 : Int → Int → Bool → Mem → Prop} {k : Int → Mem → Prop} {v2 : Int} {v3_2 : Int} {v4_1 : Int} {v6 : Int} {s0 : Int} {μ_9 : Mem} (hR_68 : ∀ (u3 : Int) (u4 : Int) (u5 : Bool) (ν : Mem), StatR ν.2.2 → R_68 u3 u4 u5 ν → SW l Γ yX12_groups.cls cX12_groups Y_M_groups (pI k) g 175 0 0 ν 68 [(0, vr Γ 113), (2, vi v2), (3, vi u3), (4, vi u4), (5, vi (b2i u5))] []) (hs : StatR μ_9.2.2) (h : b_M_groups_95 R_68 v2 v3_2 v4_1 v6 s0 μ_9) : SW l Γ yX12_groups.cls cX12_groups Y_M_groups (pI k) g 175 0 0 μ_9 95 [(0, vr Γ 113), (2, vi v2), (3, vi v3_2), (4, vi v4_1), (6, vi v6)] [vi s0] := by
  unfold b_M_groups_95 at h
  refine z_istore (lv' := [(7, vi s0), (0, vr Γ 113), (2, vi v2), (3, vi v3_2), (4, vi v4_1), (6, vi v6)]) dX12_groups_95 (Nat.le_of_ble_eq_true rfl) rfl ?_
  refine z_iload dX12_groups_97 0 rfl ?_
  refine z_iconst dX12_groups_99 ?_
  refine z_icmp_eq (tgt := 146) dX12_groups_100 (by decide) h (fun h => ?_) (fun h => ?_)
  · refine z_rload_n dX12_groups_146 rfl 1 rfl ?_
    refine z_VB (i_M_countsUp  hs h) vk_X12_countsUp kt_113 (Nat.le_of_ble_eq_true rfl) rfl ml_X12_585 ⟨Nat.le_of_ble_eq_true rfl, Nat.le_of_ble_eq_true rfl⟩ ⟨Nat.zero_le _, Nat.zero_le _⟩ rfl rfl (Nat.le_of_ble_eq_true rfl) dX12_groups_147 (fun r147 μ_10 hs h => ?_)
    refine z_istore (lv' := [(5, vi (b2i r147)), (7, vi s0), (0, vr Γ 113), (2, vi v2), (3, vi v3_2), (4, vi v4_1), (6, vi v6)]) dX12_groups_150 (Nat.le_of_ble_eq_true rfl) rfl ?_
    refine z_goto (tgt := 68) dX12_groups_152 (by decide) ?_
    refine z_sub (lv' := [(0, vr Γ 113), (2, vi v2), (3, vi v3_2), (4, vi v4_1), (5, vi (b2i r147))]) [2, 3, 4, 5, 0] rfl ?_
    exact hR_68 v3_2 v4_1 r147 μ_10 hs h
  · refine z_iload_n dX12_groups_103 rfl 3 rfl ?_
    refine z_iconst dX12_groups_104 ?_
    refine z_icmp_eq (tgt := 127) dX12_groups_105 (by decide) h (fun h => ?_) (fun h => ?_)
    · refine z_iload dX12_groups_127 0 rfl ?_
      refine z_istore_n (lv' := [(3, vi s0), (7, vi s0), (0, vr Γ 113), (2, vi v2), (4, vi v4_1), (6, vi v6)]) dX12_groups_129 rfl (Nat.le_of_ble_eq_true rfl) rfl ?_
      refine z_iload dX12_groups_130 5 rfl ?_
      refine z_istore (lv' := [(4, vi v6), (3, vi s0), (7, vi s0), (0, vr Γ 113), (2, vi v2), (6, vi v6)]) dX12_groups_132 (Nat.le_of_ble_eq_true rfl) rfl ?_
      refine z_rload_n dX12_groups_134 rfl 3 rfl ?_
      refine z_rload_n dX12_groups_135 rfl 3 rfl ?_
      refine z_getR (q := 15543) ff_12_79 dX12_groups_136 kt_113 (Nat.le_of_ble_eq_true rfl) fl_X12_179 rfl (hs.1 _ _ sr_15543) ?_
      refine z_rload_n dX12_groups_139 rfl 3 rfl ?_
      refine z_getR (q := 15544) ff_12_80 dX12_groups_140 kt_113 (Nat.le_of_ble_eq_true rfl) fl_X12_182 rfl (hs.1 _ _ sr_15544) ?_
      refine z_VU (i_M_copies kt_164 (Nat.le_of_ble_eq_true rfl) kt_165 (Nat.le_of_ble_eq_true rfl) hs h) vk_X12_copies kt_113 (Nat.le_of_ble_eq_true rfl) rfl ml_X12_227 ⟨Nat.le_of_ble_eq_true rfl, Nat.le_of_ble_eq_true rfl⟩ ⟨Nat.zero_le _, Nat.zero_le _⟩ rfl rfl (Nat.le_of_ble_eq_true rfl) dX12_groups_143 (fun μ_11 hs h => ?_)
      refine z_rload_n dX12_groups_146 rfl 3 rfl ?_
      refine z_VB (i_M_countsUp  hs h) vk_X12_countsUp kt_113 (Nat.le_of_ble_eq_true rfl) rfl ml_X12_585 ⟨Nat.le_of_ble_eq_true rfl, Nat.le_of_ble_eq_true rfl⟩ ⟨Nat.zero_le _, Nat.zero_le _⟩ rfl rfl (Nat.le_of_ble_eq_true rfl) dX12_groups_147 (fun r147_1 μ_12 hs h => ?_)
      refine z_istore (lv' := [(5, vi (b2i r147_1)), (4, vi v6), (3, vi s0), (7, vi s0), (0, vr Γ 113), (2, vi v2), (6, vi v6)]) dX12_groups_150 (Nat.le_of_ble_eq_true rfl) rfl ?_
      refine z_goto (tgt := 68) dX12_groups_152 (by decide) ?_
      refine z_sub (lv' := [(0, vr Γ 113), (2, vi v2), (3, vi s0), (4, vi v6), (5, vi (b2i r147_1))]) [4, 5, 2, 1, 0] rfl ?_
      exact hR_68 s0 v6 r147_1 μ_12 hs h
    · refine z_iload dX12_groups_108 0 rfl ?_
      refine z_iload_n dX12_groups_110 rfl 3 rfl ?_
      refine z_icmp_lt (tgt := 127) dX12_groups_111 (by decide) h (fun h => ?_) (fun h => ?_)
      · refine z_iload dX12_groups_127 0 rfl ?_
        refine z_istore_n (lv' := [(3, vi s0), (7, vi s0), (0, vr Γ 113), (2, vi v2), (4, vi v4_1), (6, vi v6)]) dX12_groups_129 rfl (Nat.le_of_ble_eq_true rfl) rfl ?_
        refine z_iload dX12_groups_130 5 rfl ?_
        refine z_istore (lv' := [(4, vi v6), (3, vi s0), (7, vi s0), (0, vr Γ 113), (2, vi v2), (6, vi v6)]) dX12_groups_132 (Nat.le_of_ble_eq_true rfl) rfl ?_
        refine z_rload_n dX12_groups_134 rfl 3 rfl ?_
        refine z_rload_n dX12_groups_135 rfl 3 rfl ?_
        refine z_getR (q := 15543) ff_12_79 dX12_groups_136 kt_113 (Nat.le_of_ble_eq_true rfl) fl_X12_179 rfl (hs.1 _ _ sr_15543) ?_
        refine z_rload_n dX12_groups_139 rfl 3 rfl ?_
        refine z_getR (q := 15544) ff_12_80 dX12_groups_140 kt_113 (Nat.le_of_ble_eq_true rfl) fl_X12_182 rfl (hs.1 _ _ sr_15544) ?_
        refine z_VU (i_M_copies kt_164 (Nat.le_of_ble_eq_true rfl) kt_165 (Nat.le_of_ble_eq_true rfl) hs h) vk_X12_copies kt_113 (Nat.le_of_ble_eq_true rfl) rfl ml_X12_227 ⟨Nat.le_of_ble_eq_true rfl, Nat.le_of_ble_eq_true rfl⟩ ⟨Nat.zero_le _, Nat.zero_le _⟩ rfl rfl (Nat.le_of_ble_eq_true rfl) dX12_groups_143 (fun μ_13 hs h => ?_)
        refine z_rload_n dX12_groups_146 rfl 3 rfl ?_
        refine z_VB (i_M_countsUp  hs h) vk_X12_countsUp kt_113 (Nat.le_of_ble_eq_true rfl) rfl ml_X12_585 ⟨Nat.le_of_ble_eq_true rfl, Nat.le_of_ble_eq_true rfl⟩ ⟨Nat.zero_le _, Nat.zero_le _⟩ rfl rfl (Nat.le_of_ble_eq_true rfl) dX12_groups_147 (fun r147_2 μ_14 hs h => ?_)
        refine z_istore (lv' := [(5, vi (b2i r147_2)), (4, vi v6), (3, vi s0), (7, vi s0), (0, vr Γ 113), (2, vi v2), (6, vi v6)]) dX12_groups_150 (Nat.le_of_ble_eq_true rfl) rfl ?_
        refine z_goto (tgt := 68) dX12_groups_152 (by decide) ?_
        refine z_sub (lv' := [(0, vr Γ 113), (2, vi v2), (3, vi s0), (4, vi v6), (5, vi (b2i r147_2))]) [4, 5, 2, 1, 0] rfl ?_
        exact hR_68 s0 v6 r147_2 μ_14 hs h
      · refine z_iload dX12_groups_114 0 rfl ?_
        refine z_iload_n dX12_groups_116 rfl 3 rfl ?_
        refine z_icmp_ne (tgt := 146) dX12_groups_117 (by decide) h (fun h => ?_) (fun h => ?_)
        · refine z_iload dX12_groups_120 5 rfl ?_
          refine z_iload dX12_groups_122 4 rfl ?_
          refine z_icmp_ge (tgt := 146) dX12_groups_124 (by decide) h (fun h => ?_) (fun h => ?_)
          · refine z_iload dX12_groups_127 0 rfl ?_
            refine z_istore_n (lv' := [(3, vi s0), (7, vi s0), (0, vr Γ 113), (2, vi v2), (4, vi v4_1), (6, vi v6)]) dX12_groups_129 rfl (Nat.le_of_ble_eq_true rfl) rfl ?_
            refine z_iload dX12_groups_130 5 rfl ?_
            refine z_istore (lv' := [(4, vi v6), (3, vi s0), (7, vi s0), (0, vr Γ 113), (2, vi v2), (6, vi v6)]) dX12_groups_132 (Nat.le_of_ble_eq_true rfl) rfl ?_
            refine z_rload_n dX12_groups_134 rfl 3 rfl ?_
            refine z_rload_n dX12_groups_135 rfl 3 rfl ?_
            refine z_getR (q := 15543) ff_12_79 dX12_groups_136 kt_113 (Nat.le_of_ble_eq_true rfl) fl_X12_179 rfl (hs.1 _ _ sr_15543) ?_
            refine z_rload_n dX12_groups_139 rfl 3 rfl ?_
            refine z_getR (q := 15544) ff_12_80 dX12_groups_140 kt_113 (Nat.le_of_ble_eq_true rfl) fl_X12_182 rfl (hs.1 _ _ sr_15544) ?_
            refine z_VU (i_M_copies kt_164 (Nat.le_of_ble_eq_true rfl) kt_165 (Nat.le_of_ble_eq_true rfl) hs h) vk_X12_copies kt_113 (Nat.le_of_ble_eq_true rfl) rfl ml_X12_227 ⟨Nat.le_of_ble_eq_true rfl, Nat.le_of_ble_eq_true rfl⟩ ⟨Nat.zero_le _, Nat.zero_le _⟩ rfl rfl (Nat.le_of_ble_eq_true rfl) dX12_groups_143 (fun μ_15 hs h => ?_)
            refine z_rload_n dX12_groups_146 rfl 3 rfl ?_
            refine z_VB (i_M_countsUp  hs h) vk_X12_countsUp kt_113 (Nat.le_of_ble_eq_true rfl) rfl ml_X12_585 ⟨Nat.le_of_ble_eq_true rfl, Nat.le_of_ble_eq_true rfl⟩ ⟨Nat.zero_le _, Nat.zero_le _⟩ rfl rfl (Nat.le_of_ble_eq_true rfl) dX12_groups_147 (fun r147_3 μ_16 hs h => ?_)
            refine z_istore (lv' := [(5, vi (b2i r147_3)), (4, vi v6), (3, vi s0), (7, vi s0), (0, vr Γ 113), (2, vi v2), (6, vi v6)]) dX12_groups_150 (Nat.le_of_ble_eq_true rfl) rfl ?_
            refine z_goto (tgt := 68) dX12_groups_152 (by decide) ?_
            refine z_sub (lv' := [(0, vr Γ 113), (2, vi v2), (3, vi s0), (4, vi v6), (5, vi (b2i r147_3))]) [4, 5, 2, 1, 0] rfl ?_
            exact hR_68 s0 v6 r147_3 μ_16 hs h
          · refine z_rload_n dX12_groups_146 rfl 1 rfl ?_
            refine z_VB (i_M_countsUp  hs h) vk_X12_countsUp kt_113 (Nat.le_of_ble_eq_true rfl) rfl ml_X12_585 ⟨Nat.le_of_ble_eq_true rfl, Nat.le_of_ble_eq_true rfl⟩ ⟨Nat.zero_le _, Nat.zero_le _⟩ rfl rfl (Nat.le_of_ble_eq_true rfl) dX12_groups_147 (fun r147_4 μ_17 hs h => ?_)
            refine z_istore (lv' := [(5, vi (b2i r147_4)), (7, vi s0), (0, vr Γ 113), (2, vi v2), (3, vi v3_2), (4, vi v4_1), (6, vi v6)]) dX12_groups_150 (Nat.le_of_ble_eq_true rfl) rfl ?_
            refine z_goto (tgt := 68) dX12_groups_152 (by decide) ?_
            refine z_sub (lv' := [(0, vr Γ 113), (2, vi v2), (3, vi v3_2), (4, vi v4_1), (5, vi (b2i r147_4))]) [2, 3, 4, 5, 0] rfl ?_
            exact hR_68 v3_2 v4_1 r147_4 μ_17 hs h
        · refine z_rload_n dX12_groups_146 rfl 1 rfl ?_
          refine z_VB (i_M_countsUp  hs h) vk_X12_countsUp kt_113 (Nat.le_of_ble_eq_true rfl) rfl ml_X12_585 ⟨Nat.le_of_ble_eq_true rfl, Nat.le_of_ble_eq_true rfl⟩ ⟨Nat.zero_le _, Nat.zero_le _⟩ rfl rfl (Nat.le_of_ble_eq_true rfl) dX12_groups_147 (fun r147_5 μ_18 hs h => ?_)
          refine z_istore (lv' := [(5, vi (b2i r147_5)), (7, vi s0), (0, vr Γ 113), (2, vi v2), (3, vi v3_2), (4, vi v4_1), (6, vi v6)]) dX12_groups_150 (Nat.le_of_ble_eq_true rfl) rfl ?_
          refine z_goto (tgt := 68) dX12_groups_152 (by decide) ?_
          refine z_sub (lv' := [(0, vr Γ 113), (2, vi v2), (3, vi v3_2), (4, vi v4_1), (5, vi (b2i r147_5))]) [2, 3, 4, 5, 0] rfl ?_
          exact hR_68 v3_2 v4_1 r147_5 μ_18 hs h
theorem L_M_groups_68 {l : Launch} {Γ : Gam} {g : Nat} {a2 : Int} {X_68_155 : Int → Mem → Prop} {k : Int → Mem → Prop} (hX_68_155 : ∀ (u3 : Int) (ν : Mem), StatR ν.2.2 → X_68_155 u3 ν → SW l Γ yX12_groups.cls cX12_groups Y_M_groups (pI k) g 175 0 0 ν 155 [(3, vi u3)] []) (n9 : Nat) : ∀ (v3_1 : Int) (v4 : Int) (v5 : Bool) (μ_7 : Mem), StatR μ_7.2.2 → l_M_groups_68 a2 X_68_155 n9 v3_1 v4 v5 μ_7 → SW l Γ yX12_groups.cls cX12_groups Y_M_groups (pI k) g 175 0 0 μ_7 68 [(0, vr Γ 113), (2, vi a2), (3, vi v3_1), (4, vi v4), (5, vi (b2i v5))] [] := by
  induction n9 with
  | zero =>
    intro v3_1 v4 v5 μ_7 hs h
    exact h.elim
  | succ n9 hR_68 =>
    intro v3_1 v4 v5 μ_7 hs h
    rw [l_M_groups_68] at h
    refine z_iload dX12_groups_68 4 rfl ?_
    refine z_ifeq_b (tgt := 155) dX12_groups_70 (by decide) h (fun h => ?_) (fun h => ?_)
    · refine z_rload_n dX12_groups_73 rfl 0 rfl ?_
      refine z_VI (i_M_groupsOf  hs h) vk_X12_groupsOf kt_113 (Nat.le_of_ble_eq_true rfl) rfl ml_X12_579 ⟨Nat.le_of_ble_eq_true rfl, Nat.le_of_ble_eq_true rfl⟩ ⟨Nat.zero_le _, Nat.zero_le _⟩ rfl rfl (Nat.le_of_ble_eq_true rfl) dX12_groups_74 (fun r74 μ_8 hs h => ?_)
      refine z_istore (lv' := [(6, vi r74), (0, vr Γ 113), (2, vi a2), (3, vi v3_1), (4, vi v4), (5, vi (b2i v5))]) dX12_groups_77 (Nat.le_of_ble_eq_true rfl) rfl ?_
      refine z_iload dX12_groups_79 0 rfl ?_
      refine z_iload_n dX12_groups_81 rfl 2 rfl ?_
      refine z_icmp_gt (tgt := 94) dX12_groups_82 (by decide) h (fun h => ?_) (fun h => ?_)
      · refine z_iconst dX12_groups_94 ?_
        refine z_sub (lv' := [(0, vr Γ 113), (2, vi a2), (3, vi v3_1), (4, vi v4), (6, vi r74)]) [1, 2, 3, 4, 0] rfl ?_
        exact B_M_groups_95 hR_68 hs h
      · refine z_rload_n dX12_groups_85 rfl 1 rfl ?_
        refine z_iload dX12_groups_86 0 rfl ?_
        refine z_VI (i_M_loses  hs h) vk_X12_loses kt_113 (Nat.le_of_ble_eq_true rfl) rfl ml_X12_582 ⟨Nat.le_of_ble_eq_true rfl, Nat.le_of_ble_eq_true rfl⟩ ⟨Nat.zero_le _, Nat.zero_le _⟩ rfl rfl (Nat.le_of_ble_eq_true rfl) dX12_groups_88 (fun r88 μ_19 hs h => ?_)
        refine z_goto (tgt := 95) dX12_groups_91 (by decide) ?_
        refine z_sub (lv' := [(0, vr Γ 113), (2, vi a2), (3, vi v3_1), (4, vi v4), (6, vi r74)]) [1, 2, 3, 4, 0] rfl ?_
        exact B_M_groups_95 hR_68 hs h
    · refine z_sub (lv' := [(3, vi v3_1)]) [2] rfl ?_
      exact hX_68_155 v3_1 μ_7 hs h
theorem i_M_groups {l : Launch} {Γ : Gam} {g : Nat} {a1 : Int} {a2 : Int} {μ : Mem} {k : Int → Mem → Prop} (hs : StatR μ.2.2) (h : f_M_groups a1 a2 μ k) : CT l Γ yX12_groups cX12_groups 8 (some .int) 4 94 0 0 [vr Γ 113, vi a1, vi a2] g 175 μ (pI k) := by
  refine SW.ct (by decide) (Nat.le_of_ble_eq_true rfl) ?_
  refine z_sub (lv' := [(0, vr Γ 113), (1, vi a1), (2, vi a2)]) [0, 1, 2] rfl ?_
  show SW l Γ yX12_groups.cls cX12_groups Y_M_groups (pI k) g 175 0 0 μ 0 [(0, vr Γ 113), (1, vi a1), (2, vi a2)] []
  unfold f_M_groups at h
  refine z_rload_n dX12_groups_0 rfl 0 rfl ?_
  refine z_iconst dX12_groups_1 ?_
  refine z_putI (q := 15545) ff_12_81 (Or.inl rfl) rfl dX12_groups_2 kt_113 (Nat.le_of_ble_eq_true rfl) fl_X12_576 rfl ?_
  refine z_mm (fun μ_1 eμ_1 => ?_)
  replace h := h μ_1 eμ_1
  replace hs : StatR μ_1.2.2 := by rw [eμ_1]; exact hs
  refine z_iconst dX12_groups_5 ?_
  refine z_istore_n (lv' := [(3, vi 0), (0, vr Γ 113), (1, vi a1), (2, vi a2)]) dX12_groups_6 rfl (Nat.le_of_ble_eq_true rfl) rfl ?_
  obtain ⟨m7, h⟩ := h
  refine z_sub (lv' := [(0, vr Γ 113), (1, vi a1), (2, vi a2), (3, vi 0)]) [1, 2, 3, 0] rfl ?_
  refine L_M_groups_7 (fun μ_6 hs h => ?_) m7 0 μ_1 hs h
  refine z_iconst dX12_groups_60 ?_
  refine z_istore_n (lv' := [(3, vi (-1)), (0, vr Γ 113), (2, vi a2)]) dX12_groups_61 rfl (Nat.le_of_ble_eq_true rfl) rfl ?_
  refine z_iconst dX12_groups_62 ?_
  refine z_istore (lv' := [(4, vi 0), (3, vi (-1)), (0, vr Γ 113), (2, vi a2)]) dX12_groups_63 (Nat.le_of_ble_eq_true rfl) rfl ?_
  refine z_iconst dX12_groups_65 ?_
  refine z_istore (lv' := [(5, vi 1), (4, vi 0), (3, vi (-1)), (0, vr Γ 113), (2, vi a2)]) dX12_groups_66 (Nat.le_of_ble_eq_true rfl) rfl ?_
  obtain ⟨m68, h⟩ := h
  refine z_sub (lv' := [(0, vr Γ 113), (2, vi a2), (3, vi (-1)), (4, vi 0), (5, vi (b2i true))]) [3, 4, 2, 1, 0] rfl ?_
  refine L_M_groups_68 (fun v3_3 μ_20 hs h => ?_) m68 (-1) 0 true μ_6 hs h
  refine z_iload_n dX12_groups_155 rfl 0 rfl ?_
  exact z_iret rfl dX12_groups_156 rfl rfl rfl ⟨_, rfl, hs, h⟩
abbrev Y_M_group : Yt := (3, (some .int), yX12_group.name, { frames := 5, cells := 0, slots := 0, locals := 121 }, 175, 0, 0)
def f_M_group (a1 : Int) (a2 : Int) (μ : Mem) (k : Int → Mem → Prop) : Prop := ∀ μ_1 : Mem, μ_1 = sI μ 15464 0 0 → f_M_areOpen a1 1 8 μ_1 (fun r10 μ_2 => if r10 = true then (if (v_M_within a2 1 8) = true then (f_M_groups a1 a2 μ_2 (fun r29 μ_3 => k r29 μ_3)) else (k (-1) μ_2)) else (k (-1) μ_2))
theorem i_M_group {l : Launch} {Γ : Gam} {g : Nat} {a1 : Int} {a2 : Int} {μ : Mem} {k : Int → Mem → Prop} (hs : StatR μ.2.2) (h : f_M_group a1 a2 μ k) : CT l Γ yX12_group cX12_group 3 (some .int) 5 121 0 0 [vr Γ 113, vi a1, vi a2] g 175 μ (pI k) := by
  refine SW.ct (by decide) (Nat.le_of_ble_eq_true rfl) ?_
  refine z_sub (lv' := [(0, vr Γ 113), (1, vi a1), (2, vi a2)]) [0, 1, 2] rfl ?_
  show SW l Γ yX12_group.cls cX12_group Y_M_group (pI k) g 175 0 0 μ 0 [(0, vr Γ 113), (1, vi a1), (2, vi a2)] []
  unfold f_M_group at h
  refine z_rload_n dX12_group_0 rfl 0 rfl ?_
  refine z_iconst dX12_group_1 ?_
  refine z_putI (q := 15464) ff_12_0 (Or.inl rfl) rfl dX12_group_2 kt_113 (Nat.le_of_ble_eq_true rfl) fl_X12_1 rfl ?_
  refine z_mm (fun μ_1 eμ_1 => ?_)
  replace h := h μ_1 eμ_1
  replace hs : StatR μ_1.2.2 := by rw [eμ_1]; exact hs
  refine z_rload_n dX12_group_5 rfl 0 rfl ?_
  refine z_iload_n dX12_group_6 rfl 1 rfl ?_
  refine z_iconst dX12_group_7 ?_
  refine z_bipush dX12_group_8 (by decide) ?_
  refine z_VB (i_M_areOpen  hs h) vk_X12_areOpen kt_113 (Nat.le_of_ble_eq_true rfl) rfl ml_X12_570 ⟨Nat.le_of_ble_eq_true rfl, Nat.le_of_ble_eq_true rfl⟩ ⟨Nat.zero_le _, Nat.zero_le _⟩ rfl rfl (Nat.le_of_ble_eq_true rfl) dX12_group_10 (fun r10 μ_2 hs h => ?_)
  refine z_ifeq_b (tgt := 35) dX12_group_13 (by decide) h (fun h => ?_) (fun h => ?_)
  · refine z_iload_n dX12_group_16 rfl 2 rfl ?_
    refine z_iconst dX12_group_17 ?_
    refine z_bipush dX12_group_18 (by decide) ?_
    refine z_SE (i_M_within ) sk_X12_within ml_X12_215 ⟨Nat.le_of_ble_eq_true rfl, Nat.le_of_ble_eq_true rfl⟩ ⟨Nat.zero_le _, Nat.zero_le _⟩ rfl rfl (Nat.le_of_ble_eq_true rfl) dX12_group_20 ?_
    refine z_ifeq_b (tgt := 35) dX12_group_23 (by decide) h (fun h => ?_) (fun h => ?_)
    · refine z_rload_n dX12_group_26 rfl 0 rfl ?_
      refine z_iload_n dX12_group_27 rfl 1 rfl ?_
      refine z_iload_n dX12_group_28 rfl 2 rfl ?_
      refine z_VI (i_M_groups  hs h) vk_X12_groups kt_113 (Nat.le_of_ble_eq_true rfl) rfl ml_X12_588 ⟨Nat.le_of_ble_eq_true rfl, Nat.le_of_ble_eq_true rfl⟩ ⟨Nat.zero_le _, Nat.zero_le _⟩ rfl rfl (Nat.le_of_ble_eq_true rfl) dX12_group_29 (fun r29 μ_3 hs h => ?_)
      refine z_goto (tgt := 36) dX12_group_32 (by decide) ?_
      exact z_iret rfl dX12_group_36 rfl rfl rfl ⟨_, rfl, hs, h⟩
    · refine z_iconst dX12_group_35 ?_
      exact z_iret rfl dX12_group_36 rfl rfl rfl ⟨_, rfl, hs, h⟩
  · refine z_iconst dX12_group_35 ?_
    exact z_iret rfl dX12_group_36 rfl rfl rfl ⟨_, rfl, hs, h⟩
abbrev Y_M_grouped : Yt := (5, (some .int), yX12_grouped.name, { frames := 5, cells := 0, slots := 0, locals := 121 }, 175, 0, 0)
def l_M_grouped_57 (a3 : Int) (μ_3 : Mem) (X_57_74 : Int → Prop) : Nat → Int → Prop
  | 0, _ => False
  | fu57 + 1, v4 => 0 ≤ w v4 ∧ w v4 < ((8 : Nat) : Int) ∧ if w (rI μ_3 163 (w v4)) = w a3 then (X_57_74 v4) else ((l_M_grouped_57 a3 μ_3 X_57_74 fu57) (v4 + 1))
def f_M_grouped (a1 : Int) (a2 : Int) (a3 : Int) (μ : Mem) (k : Int → Mem → Prop) : Prop := ∀ μ_1 : Mem, μ_1 = sI μ 15464 0 0 → f_M_areOpen a1 1 8 μ_1 (fun r10 μ_2 => if r10 = true then (if (v_M_within a2 1 8) = true then (if (v_M_isMotion a3 μ_2) = true then (if w (w_iand (w_ishr a1 a3) 1) = 0 then (k (-1) μ_2) else (f_M_groups a1 a2 μ_2 (fun r45 μ_3 => if w r45 = w (-1) then (k (-1) μ_3) else (∃ m57 : Nat, l_M_grouped_57 a3 μ_3 (fun (v4_1 : Int) => 0 ≤ w v4_1 ∧ w v4_1 < ((8 : Nat) : Int) ∧ k (rI μ_3 165 (w v4_1)) μ_3) m57 0)))) else (k (-1) μ_2)) else (k (-1) μ_2)) else (k (-1) μ_2))
theorem L_M_grouped_57 {l : Launch} {Γ : Gam} {g : Nat} {a3 : Int} {μ_3 : Mem} {X_57_74 : Int → Prop} {k : Int → Mem → Prop} (hs : StatR μ_3.2.2) (hX_57_74 : ∀ (u4 : Int), X_57_74 u4 → SW l Γ yX12_grouped.cls cX12_grouped Y_M_grouped (pI k) g 175 0 0 μ_3 74 [(0, vr Γ 113), (4, vi u4)] []) (n9 : Nat) : ∀ (v4 : Int), l_M_grouped_57 a3 μ_3 X_57_74 n9 v4 → SW l Γ yX12_grouped.cls cX12_grouped Y_M_grouped (pI k) g 175 0 0 μ_3 57 [(0, vr Γ 113), (3, vi a3), (4, vi v4)] [] := by
  induction n9 with
  | zero =>
    intro v4 h
    exact h.elim
  | succ n9 hR_57 =>
    intro v4 h
    rw [l_M_grouped_57] at h
    refine z_rload_n dX12_grouped_57 rfl 0 rfl ?_
    refine z_getR (q := 15542) ff_12_78 dX12_grouped_58 kt_113 (Nat.le_of_ble_eq_true rfl) fl_X12_176 rfl (hs.1 _ _ sr_15542) ?_
    refine z_iload dX12_grouped_61 2 rfl ?_
    obtain ⟨h0, h1, h⟩ := h
    refine z_iald dX12_grouped_63 kt_163 (Nat.le_of_ble_eq_true rfl) h0 h1 ?_
    refine z_iload_n dX12_grouped_64 rfl 1 rfl ?_
    refine z_icmp_eq (tgt := 74) dX12_grouped_65 (by decide) h (fun h => ?_) (fun h => ?_)
    · refine z_sub (lv' := [(0, vr Γ 113), (4, vi v4)]) [0, 2] rfl ?_
      exact hX_57_74 v4 h
    · refine z_iinc (j := 2) (lv' := [(4, vi (v4 + 1)), (0, vr Γ 113), (3, vi a3)]) dX12_grouped_68 rfl (Nat.le_of_ble_eq_true rfl) rfl ?_
      refine z_goto (tgt := 57) dX12_grouped_71 (by decide) ?_
      refine z_sub (lv' := [(0, vr Γ 113), (3, vi a3), (4, vi (v4 + 1))]) [1, 2, 0] rfl ?_
      exact hR_57 (v4 + 1) h
theorem i_M_grouped {l : Launch} {Γ : Gam} {g : Nat} {a1 : Int} {a2 : Int} {a3 : Int} {μ : Mem} {k : Int → Mem → Prop} (hs : StatR μ.2.2) (h : f_M_grouped a1 a2 a3 μ k) : CT l Γ yX12_grouped cX12_grouped 5 (some .int) 5 121 0 0 [vr Γ 113, vi a1, vi a2, vi a3] g 175 μ (pI k) := by
  refine SW.ct (by decide) (Nat.le_of_ble_eq_true rfl) ?_
  refine z_sub (lv' := [(0, vr Γ 113), (1, vi a1), (2, vi a2), (3, vi a3)]) [0, 1, 2, 3] rfl ?_
  show SW l Γ yX12_grouped.cls cX12_grouped Y_M_grouped (pI k) g 175 0 0 μ 0 [(0, vr Γ 113), (1, vi a1), (2, vi a2), (3, vi a3)] []
  unfold f_M_grouped at h
  refine z_rload_n dX12_grouped_0 rfl 0 rfl ?_
  refine z_iconst dX12_grouped_1 ?_
  refine z_putI (q := 15464) ff_12_0 (Or.inl rfl) rfl dX12_grouped_2 kt_113 (Nat.le_of_ble_eq_true rfl) fl_X12_1 rfl ?_
  refine z_mm (fun μ_1 eμ_1 => ?_)
  replace h := h μ_1 eμ_1
  replace hs : StatR μ_1.2.2 := by rw [eμ_1]; exact hs
  refine z_rload_n dX12_grouped_5 rfl 0 rfl ?_
  refine z_iload_n dX12_grouped_6 rfl 1 rfl ?_
  refine z_iconst dX12_grouped_7 ?_
  refine z_bipush dX12_grouped_8 (by decide) ?_
  refine z_VB (i_M_areOpen  hs h) vk_X12_areOpen kt_113 (Nat.le_of_ble_eq_true rfl) rfl ml_X12_570 ⟨Nat.le_of_ble_eq_true rfl, Nat.le_of_ble_eq_true rfl⟩ ⟨Nat.zero_le _, Nat.zero_le _⟩ rfl rfl (Nat.le_of_ble_eq_true rfl) dX12_grouped_10 (fun r10 μ_2 hs h => ?_)
  refine z_ifeq_b (tgt := 52) dX12_grouped_13 (by decide) h (fun h => ?_) (fun h => ?_)
  · refine z_iload_n dX12_grouped_16 rfl 2 rfl ?_
    refine z_iconst dX12_grouped_17 ?_
    refine z_bipush dX12_grouped_18 (by decide) ?_
    refine z_SE (i_M_within ) sk_X12_within ml_X12_215 ⟨Nat.le_of_ble_eq_true rfl, Nat.le_of_ble_eq_true rfl⟩ ⟨Nat.zero_le _, Nat.zero_le _⟩ rfl rfl (Nat.le_of_ble_eq_true rfl) dX12_grouped_20 ?_
    refine z_ifeq_b (tgt := 52) dX12_grouped_23 (by decide) h (fun h => ?_) (fun h => ?_)
    · refine z_rload_n dX12_grouped_26 rfl 0 rfl ?_
      refine z_iload_n dX12_grouped_27 rfl 3 rfl ?_
      refine z_VE (i_M_isMotion ) vk_X12_isMotion kt_113 (Nat.le_of_ble_eq_true rfl) rfl ml_X12_234 ⟨Nat.le_of_ble_eq_true rfl, Nat.le_of_ble_eq_true rfl⟩ ⟨Nat.zero_le _, Nat.zero_le _⟩ rfl rfl (Nat.le_of_ble_eq_true rfl) dX12_grouped_28 ?_
      refine z_ifeq_b (tgt := 52) dX12_grouped_31 (by decide) h (fun h => ?_) (fun h => ?_)
      · refine z_iload_n dX12_grouped_34 rfl 1 rfl ?_
        refine z_iload_n dX12_grouped_35 rfl 3 rfl ?_
        refine z_ishr dX12_grouped_36 ?_
        refine z_iconst dX12_grouped_37 ?_
        refine z_iand dX12_grouped_38 ?_
        refine z_if_eq (tgt := 52) dX12_grouped_39 (by decide) h (fun h => ?_) (fun h => ?_)
        · refine z_iconst dX12_grouped_52 ?_
          exact z_iret rfl dX12_grouped_53 rfl rfl rfl ⟨_, rfl, hs, h⟩
        · refine z_rload_n dX12_grouped_42 rfl 0 rfl ?_
          refine z_iload_n dX12_grouped_43 rfl 1 rfl ?_
          refine z_iload_n dX12_grouped_44 rfl 2 rfl ?_
          refine z_VI (i_M_groups  hs h) vk_X12_groups kt_113 (Nat.le_of_ble_eq_true rfl) rfl ml_X12_588 ⟨Nat.le_of_ble_eq_true rfl, Nat.le_of_ble_eq_true rfl⟩ ⟨Nat.zero_le _, Nat.zero_le _⟩ rfl rfl (Nat.le_of_ble_eq_true rfl) dX12_grouped_45 (fun r45 μ_3 hs h => ?_)
          refine z_iconst dX12_grouped_48 ?_
          refine z_icmp_ne (tgt := 54) dX12_grouped_49 (by decide) h (fun h => ?_) (fun h => ?_)
          · refine z_iconst dX12_grouped_52 ?_
            exact z_iret rfl dX12_grouped_53 rfl rfl rfl ⟨_, rfl, hs, h⟩
          · refine z_iconst dX12_grouped_54 ?_
            refine z_istore (lv' := [(4, vi 0), (0, vr Γ 113), (1, vi a1), (2, vi a2), (3, vi a3)]) dX12_grouped_55 (Nat.le_of_ble_eq_true rfl) rfl ?_
            obtain ⟨m57, h⟩ := h
            refine z_sub (lv' := [(0, vr Γ 113), (3, vi a3), (4, vi 0)]) [1, 4, 0] rfl ?_
            refine L_M_grouped_57 hs (fun v4_1 h => ?_) m57 0 h
            refine z_rload_n dX12_grouped_74 rfl 0 rfl ?_
            refine z_getR (q := 15544) ff_12_80 dX12_grouped_75 kt_113 (Nat.le_of_ble_eq_true rfl) fl_X12_182 rfl (hs.1 _ _ sr_15544) ?_
            refine z_iload dX12_grouped_78 1 rfl ?_
            obtain ⟨h0, h1, h⟩ := h
            refine z_iald dX12_grouped_80 kt_165 (Nat.le_of_ble_eq_true rfl) h0 h1 ?_
            exact z_iret rfl dX12_grouped_81 rfl rfl rfl ⟨_, rfl, hs, h⟩
      · refine z_iconst dX12_grouped_52 ?_
        exact z_iret rfl dX12_grouped_53 rfl rfl rfl ⟨_, rfl, hs, h⟩
    · refine z_iconst dX12_grouped_52 ?_
      exact z_iret rfl dX12_grouped_53 rfl rfl rfl ⟨_, rfl, hs, h⟩
  · refine z_iconst dX12_grouped_52 ?_
    exact z_iret rfl dX12_grouped_53 rfl rfl rfl ⟨_, rfl, hs, h⟩
abbrev Y_M_wouldPass : Yt := (5, (some .boolean), yX12_wouldPass.name, { frames := 5, cells := 0, slots := 0, locals := 120 }, 175, 0, 0)
def f_M_wouldPass (a1 : Int) (a2 : Int) (a3 : Int) (a4 n4 : Nat) (μ : Mem) (k : Bool → Mem → Prop) : Prop := f_M_findCount a1 (rI μ 15465 0) a2 a3 false μ (fun μ_1 => f_M_passes a1 (rI μ_1 15465 0) a4 n4 μ_1 (fun r20 μ_2 => k r20 μ_2))
theorem i_M_wouldPass {l : Launch} {Γ : Gam} {g : Nat} {a1 : Int} {a2 : Int} {a3 : Int} {a4 n4 : Nat} {μ : Mem} {k : Bool → Mem → Prop} (ka4 : KT a4 = (1, n4)) (la4 : a4 < 175) (hs : StatR μ.2.2) (h : f_M_wouldPass a1 a2 a3 a4 n4 μ k) : CT l Γ yX12_wouldPass cX12_wouldPass 5 (some .boolean) 5 120 0 0 [vr Γ 113, vi a1, vi a2, vi a3, vr Γ a4] g 175 μ (pB k) := by
  refine SW.ct (by decide) (Nat.le_of_ble_eq_true rfl) ?_
  refine z_sub (lv' := [(0, vr Γ 113), (1, vi a1), (2, vi a2), (3, vi a3), (4, vr Γ a4)]) [0, 1, 2, 3, 4] rfl ?_
  show SW l Γ yX12_wouldPass.cls cX12_wouldPass Y_M_wouldPass (pB k) g 175 0 0 μ 0 [(0, vr Γ 113), (1, vi a1), (2, vi a2), (3, vi a3), (4, vr Γ a4)] []
  unfold f_M_wouldPass at h
  refine z_rload_n dX12_wouldPass_0 rfl 0 rfl ?_
  refine z_iload_n dX12_wouldPass_1 rfl 1 rfl ?_
  refine z_rload_n dX12_wouldPass_2 rfl 0 rfl ?_
  refine z_getI (q := 15465) ff_12_1 dX12_wouldPass_3 kt_113 (Nat.le_of_ble_eq_true rfl) fl_X12_212 rfl ?_
  refine z_iload_n dX12_wouldPass_6 rfl 2 rfl ?_
  refine z_iload_n dX12_wouldPass_7 rfl 3 rfl ?_
  refine z_iconst dX12_wouldPass_8 ?_
  refine z_VU (i_M_findCount  hs h) vk_X12_findCount kt_113 (Nat.le_of_ble_eq_true rfl) rfl ml_X12_479 ⟨Nat.le_of_ble_eq_true rfl, Nat.le_of_ble_eq_true rfl⟩ ⟨Nat.zero_le _, Nat.zero_le _⟩ rfl rfl (Nat.le_of_ble_eq_true rfl) dX12_wouldPass_9 (fun μ_1 hs h => ?_)
  refine z_rload_n dX12_wouldPass_12 rfl 0 rfl ?_
  refine z_iload_n dX12_wouldPass_13 rfl 1 rfl ?_
  refine z_rload_n dX12_wouldPass_14 rfl 0 rfl ?_
  refine z_getI (q := 15465) ff_12_1 dX12_wouldPass_15 kt_113 (Nat.le_of_ble_eq_true rfl) fl_X12_212 rfl ?_
  refine z_rload dX12_wouldPass_18 4 rfl ?_
  refine z_VB (i_M_passes ka4 la4 hs h) vk_X12_passes kt_113 (Nat.le_of_ble_eq_true rfl) rfl ml_X12_541 ⟨Nat.le_of_ble_eq_true rfl, Nat.le_of_ble_eq_true rfl⟩ ⟨Nat.zero_le _, Nat.zero_le _⟩ rfl rfl (Nat.le_of_ble_eq_true rfl) dX12_wouldPass_20 (fun r20 μ_2 hs h => ?_)
  exact z_zret (b := r20) rfl dX12_wouldPass_23 rfl rfl rfl ⟨_, rfl, hs, h⟩
abbrev Y_M_would : Yt := (3, (some .int), yX12_would.name, { frames := 6, cells := 0, slots := 0, locals := 144 }, 175, 0, 0)
def f_M_would (a1 : Int) (a2 : Int) (μ : Mem) (k : Int → Mem → Prop) : Prop := ∀ μ_1 : Mem, μ_1 = sI μ 15464 0 0 → if (v_M_isMatter a1 μ_1) = true then (f_M_howOf a1 μ_1 (fun r15 μ_2 => if w r15 = 0 then (if (v_M_within a2 0 3) = true then (f_M_wouldPass a1 a2 (-1) 129 61 μ_2 (fun r40 μ_3 => ∀ x51 : Int, x51 = (if r40 = true then 1 else 0) → k x51 μ_3)) else (k (-1) μ_2)) else (k (-1) μ_2))) else (k (-1) μ_1)
theorem i_M_would {l : Launch} {Γ : Gam} {g : Nat} {a1 : Int} {a2 : Int} {μ : Mem} {k : Int → Mem → Prop} (hs : StatR μ.2.2) (h : f_M_would a1 a2 μ k) : CT l Γ yX12_would cX12_would 3 (some .int) 6 144 0 0 [vr Γ 113, vi a1, vi a2] g 175 μ (pI k) := by
  refine SW.ct (by decide) (Nat.le_of_ble_eq_true rfl) ?_
  refine z_sub (lv' := [(0, vr Γ 113), (1, vi a1), (2, vi a2)]) [0, 1, 2] rfl ?_
  show SW l Γ yX12_would.cls cX12_would Y_M_would (pI k) g 175 0 0 μ 0 [(0, vr Γ 113), (1, vi a1), (2, vi a2)] []
  unfold f_M_would at h
  refine z_rload_n dX12_would_0 rfl 0 rfl ?_
  refine z_iconst dX12_would_1 ?_
  refine z_putI (q := 15464) ff_12_0 (Or.inl rfl) rfl dX12_would_2 kt_113 (Nat.le_of_ble_eq_true rfl) fl_X12_1 rfl ?_
  refine z_mm (fun μ_1 eμ_1 => ?_)
  replace h := h μ_1 eμ_1
  replace hs : StatR μ_1.2.2 := by rw [eμ_1]; exact hs
  refine z_rload_n dX12_would_5 rfl 0 rfl ?_
  refine z_iload_n dX12_would_6 rfl 1 rfl ?_
  refine z_VE (i_M_isMatter ) vk_X12_isMatter kt_113 (Nat.le_of_ble_eq_true rfl) rfl ml_X12_243 ⟨Nat.le_of_ble_eq_true rfl, Nat.le_of_ble_eq_true rfl⟩ ⟨Nat.zero_le _, Nat.zero_le _⟩ rfl rfl (Nat.le_of_ble_eq_true rfl) dX12_would_7 ?_
  refine z_ifeq_b (tgt := 30) dX12_would_10 (by decide) h (fun h => ?_) (fun h => ?_)
  · refine z_rload_n dX12_would_13 rfl 0 rfl ?_
    refine z_iload_n dX12_would_14 rfl 1 rfl ?_
    refine z_VI (i_M_howOf  hs h) vk_X12_howOf kt_113 (Nat.le_of_ble_eq_true rfl) rfl ml_X12_246 ⟨Nat.le_of_ble_eq_true rfl, Nat.le_of_ble_eq_true rfl⟩ ⟨Nat.zero_le _, Nat.zero_le _⟩ rfl rfl (Nat.le_of_ble_eq_true rfl) dX12_would_15 (fun r15 μ_2 hs h => ?_)
    refine z_if_ne (tgt := 30) dX12_would_18 (by decide) h (fun h => ?_) (fun h => ?_)
    · refine z_iload_n dX12_would_21 rfl 2 rfl ?_
      refine z_iconst dX12_would_22 ?_
      refine z_iconst dX12_would_23 ?_
      refine z_SE (i_M_within ) sk_X12_within ml_X12_215 ⟨Nat.le_of_ble_eq_true rfl, Nat.le_of_ble_eq_true rfl⟩ ⟨Nat.zero_le _, Nat.zero_le _⟩ rfl rfl (Nat.le_of_ble_eq_true rfl) dX12_would_24 ?_
      refine z_ifne_b (tgt := 32) dX12_would_27 (by decide) h (fun h => ?_) (fun h => ?_)
      · refine z_rload_n dX12_would_32 rfl 0 rfl ?_
        refine z_iload_n dX12_would_33 rfl 1 rfl ?_
        refine z_iload_n dX12_would_34 rfl 2 rfl ?_
        refine z_iconst dX12_would_35 ?_
        refine z_rload_n dX12_would_36 rfl 0 rfl ?_
        refine z_getR (q := 15488) ff_12_24 dX12_would_37 kt_113 (Nat.le_of_ble_eq_true rfl) fl_X12_66 rfl (hs.1 _ _ sr_15488) ?_
        refine z_VB (i_M_wouldPass kt_129 (Nat.le_of_ble_eq_true rfl) hs h) vk_X12_wouldPass kt_113 (Nat.le_of_ble_eq_true rfl) rfl ml_X12_591 ⟨Nat.le_of_ble_eq_true rfl, Nat.le_of_ble_eq_true rfl⟩ ⟨Nat.zero_le _, Nat.zero_le _⟩ rfl rfl (Nat.le_of_ble_eq_true rfl) dX12_would_40 (fun r40 μ_3 hs h => ?_)
        refine z_phi 51 [] (fun V9 hv J9 => ?_) h (fun x51 h => ?_)
        · refine z_ifeq_b (tgt := 50) dX12_would_43 (by decide) (eq_ite hv) (fun hv => ?_) (fun hv => ?_)
          · refine z_iconst dX12_would_46 ?_
            refine z_goto (tgt := 51) dX12_would_47 (by decide) ?_
            exact J9 _ hv.symm
          · refine z_iconst dX12_would_50 ?_
            exact J9 _ hv.symm
        · exact z_iret rfl dX12_would_51 rfl rfl rfl ⟨_, rfl, hs, h⟩
      · refine z_iconst dX12_would_30 ?_
        exact z_iret rfl dX12_would_31 rfl rfl rfl ⟨_, rfl, hs, h⟩
    · refine z_iconst dX12_would_30 ?_
      exact z_iret rfl dX12_would_31 rfl rfl rfl ⟨_, rfl, hs, h⟩
  · refine z_iconst dX12_would_30 ?_
    exact z_iret rfl dX12_would_31 rfl rfl rfl ⟨_, rfl, hs, h⟩
abbrev Y_M_worth : Yt := (4, (some .boolean), yX12_worth.name, { frames := 1, cells := 0, slots := 0, locals := 22 }, 175, 0, 0)
def f_M_worth (a1 : Int) (a2 : Int) (a3 : Int) (μ : Mem) (k : Bool → Mem → Prop) : Prop := ∀ μ_1 : Mem, μ_1 = sI μ 15464 0 0 → if (v_M_isAffiliate a1 μ_1) = true then (if (v_M_isMotion a2 μ_1) = true then (if (v_M_within a3 (-9) 9) = true then (0 ≤ w ((24 * a1) + a2) ∧ w ((24 * a1) + a2) < ((288 : Nat) : Int) ∧ ∀ μ_2 : Mem, μ_2 = sI μ_1 166 (w ((24 * a1) + a2)) a3 → k true μ_2) else (k false μ_1)) else (k false μ_1)) else (k false μ_1)
theorem i_M_worth {l : Launch} {Γ : Gam} {g : Nat} {a1 : Int} {a2 : Int} {a3 : Int} {μ : Mem} {k : Bool → Mem → Prop} (hs : StatR μ.2.2) (h : f_M_worth a1 a2 a3 μ k) : CT l Γ yX12_worth cX12_worth 4 (some .boolean) 1 22 0 0 [vr Γ 113, vi a1, vi a2, vi a3] g 175 μ (pB k) := by
  refine SW.ct (by decide) (Nat.le_of_ble_eq_true rfl) ?_
  refine z_sub (lv' := [(0, vr Γ 113), (1, vi a1), (2, vi a2), (3, vi a3)]) [0, 1, 2, 3] rfl ?_
  show SW l Γ yX12_worth.cls cX12_worth Y_M_worth (pB k) g 175 0 0 μ 0 [(0, vr Γ 113), (1, vi a1), (2, vi a2), (3, vi a3)] []
  unfold f_M_worth at h
  refine z_rload_n dX12_worth_0 rfl 0 rfl ?_
  refine z_iconst dX12_worth_1 ?_
  refine z_putI (q := 15464) ff_12_0 (Or.inl rfl) rfl dX12_worth_2 kt_113 (Nat.le_of_ble_eq_true rfl) fl_X12_1 rfl ?_
  refine z_mm (fun μ_1 eμ_1 => ?_)
  replace h := h μ_1 eμ_1
  replace hs : StatR μ_1.2.2 := by rw [eμ_1]; exact hs
  refine z_rload_n dX12_worth_5 rfl 0 rfl ?_
  refine z_iload_n dX12_worth_6 rfl 1 rfl ?_
  refine z_VE (i_M_isAffiliate ) vk_X12_isAffiliate kt_113 (Nat.le_of_ble_eq_true rfl) rfl ml_X12_219 ⟨Nat.le_of_ble_eq_true rfl, Nat.le_of_ble_eq_true rfl⟩ ⟨Nat.zero_le _, Nat.zero_le _⟩ rfl rfl (Nat.le_of_ble_eq_true rfl) dX12_worth_7 ?_
  refine z_ifeq_b (tgt := 32) dX12_worth_10 (by decide) h (fun h => ?_) (fun h => ?_)
  · refine z_rload_n dX12_worth_13 rfl 0 rfl ?_
    refine z_iload_n dX12_worth_14 rfl 2 rfl ?_
    refine z_VE (i_M_isMotion ) vk_X12_isMotion kt_113 (Nat.le_of_ble_eq_true rfl) rfl ml_X12_234 ⟨Nat.le_of_ble_eq_true rfl, Nat.le_of_ble_eq_true rfl⟩ ⟨Nat.zero_le _, Nat.zero_le _⟩ rfl rfl (Nat.le_of_ble_eq_true rfl) dX12_worth_15 ?_
    refine z_ifeq_b (tgt := 32) dX12_worth_18 (by decide) h (fun h => ?_) (fun h => ?_)
    · refine z_iload_n dX12_worth_21 rfl 3 rfl ?_
      refine z_bipush dX12_worth_22 (by decide) ?_
      refine z_bipush dX12_worth_24 (by decide) ?_
      refine z_SE (i_M_within ) sk_X12_within ml_X12_215 ⟨Nat.le_of_ble_eq_true rfl, Nat.le_of_ble_eq_true rfl⟩ ⟨Nat.zero_le _, Nat.zero_le _⟩ rfl rfl (Nat.le_of_ble_eq_true rfl) dX12_worth_26 ?_
      refine z_ifne_b (tgt := 34) dX12_worth_29 (by decide) h (fun h => ?_) (fun h => ?_)
      · refine z_rload_n dX12_worth_34 rfl 0 rfl ?_
        refine z_getR (q := 15546) ff_12_82 dX12_worth_35 kt_113 (Nat.le_of_ble_eq_true rfl) fl_X12_185 rfl (hs.1 _ _ sr_15546) ?_
        refine z_bipush dX12_worth_38 (by decide) ?_
        refine z_iload_n dX12_worth_40 rfl 1 rfl ?_
        refine z_imul dX12_worth_41 ?_
        refine z_iload_n dX12_worth_42 rfl 2 rfl ?_
        refine z_iadd dX12_worth_43 ?_
        refine z_iload_n dX12_worth_44 rfl 3 rfl ?_
        obtain ⟨h0, h1, h⟩ := h
        refine z_iast dX12_worth_45 kt_166 (Nat.le_of_ble_eq_true rfl) h0 h1 ?_
        refine z_mm (fun μ_2 eμ_2 => ?_)
        replace h := h μ_2 eμ_2
        replace hs : StatR μ_2.2.2 := by rw [eμ_2]; exact hs
        refine z_iconst dX12_worth_46 ?_
        exact z_zret (b := true) rfl dX12_worth_47 rfl rfl rfl ⟨_, rfl, hs, h⟩
      · refine z_iconst dX12_worth_32 ?_
        exact z_zret (b := false) rfl dX12_worth_33 rfl rfl rfl ⟨_, rfl, hs, h⟩
    · refine z_iconst dX12_worth_32 ?_
      exact z_zret (b := false) rfl dX12_worth_33 rfl rfl rfl ⟨_, rfl, hs, h⟩
  · refine z_iconst dX12_worth_32 ?_
    exact z_zret (b := false) rfl dX12_worth_33 rfl rfl rfl ⟨_, rfl, hs, h⟩
abbrev Y_M_listsMotions : Yt := (3, none, yX12_listsMotions.name, { frames := 0, cells := 0, slots := 0, locals := 0 }, 175, 0, 0)
def l_M_listsMotions_7 (a1 : Int) (X_7_50 : Mem → Prop) : Nat → Int → Mem → Prop
  | 0, _, _ => False
  | fu7 + 1, v2, μ_2 => if w v2 < w 24 then (if w (w_iand (w_ishr a1 v2) 1) = 0 then ((l_M_listsMotions_7 a1 X_7_50 fu7) (v2 + 1) μ_2) else (0 ≤ w (rI μ_2 15545 0) ∧ w (rI μ_2 15545 0) < ((8 : Nat) : Int) ∧ ∀ μ_3 : Mem, μ_3 = sI μ_2 163 (w (rI μ_2 15545 0)) v2 → ∀ μ_4 : Mem, μ_4 = sI μ_3 15545 0 ((rI μ_3 15545 0) + 1) → (l_M_listsMotions_7 a1 X_7_50 fu7) (v2 + 1) μ_4)) else (X_7_50 μ_2)
def f_M_listsMotions (a1 : Int) (μ : Mem) (k : Mem → Prop) : Prop := ∀ μ_1 : Mem, μ_1 = sI μ 15545 0 0 → ∃ m7 : Nat, l_M_listsMotions_7 a1 (fun (μ_5 : Mem) => k μ_5) m7 0 μ_1
theorem L_M_listsMotions_7 {l : Launch} {Γ : Gam} {g : Nat} {a1 : Int} {X_7_50 : Mem → Prop} {k : Mem → Prop} (hX_7_50 : ∀ (ν : Mem), StatR ν.2.2 → X_7_50 ν → SW l Γ yX12_listsMotions.cls cX12_listsMotions Y_M_listsMotions (pV k) g 175 0 0 ν 50 [] []) (n9 : Nat) : ∀ (v2 : Int) (μ_2 : Mem), StatR μ_2.2.2 → l_M_listsMotions_7 a1 X_7_50 n9 v2 μ_2 → SW l Γ yX12_listsMotions.cls cX12_listsMotions Y_M_listsMotions (pV k) g 175 0 0 μ_2 7 [(0, vr Γ 113), (1, vi a1), (2, vi v2)] [] := by
  induction n9 with
  | zero =>
    intro v2 μ_2 hs h
    exact h.elim
  | succ n9 hR_7 =>
    intro v2 μ_2 hs h
    rw [l_M_listsMotions_7] at h
    refine z_iload_n dX12_listsMotions_7 rfl 2 rfl ?_
    refine z_bipush dX12_listsMotions_8 (by decide) ?_
    refine z_icmp_ge (tgt := 50) dX12_listsMotions_10 (by decide) h (fun h => ?_) (fun h => ?_)
    · refine z_iload_n dX12_listsMotions_13 rfl 1 rfl ?_
      refine z_iload_n dX12_listsMotions_14 rfl 2 rfl ?_
      refine z_ishr dX12_listsMotions_15 ?_
      refine z_iconst dX12_listsMotions_16 ?_
      refine z_iand dX12_listsMotions_17 ?_
      refine z_if_ne (tgt := 24) dX12_listsMotions_18 (by decide) h (fun h => ?_) (fun h => ?_)
      · refine z_goto (tgt := 44) dX12_listsMotions_21 (by decide) ?_
        refine z_iinc (j := 2) (lv' := [(2, vi (v2 + 1)), (0, vr Γ 113), (1, vi a1)]) dX12_listsMotions_44 rfl (Nat.le_of_ble_eq_true rfl) rfl ?_
        refine z_goto (tgt := 7) dX12_listsMotions_47 (by decide) ?_
        refine z_sub (lv' := [(0, vr Γ 113), (1, vi a1), (2, vi (v2 + 1))]) [1, 2, 0] rfl ?_
        exact hR_7 (v2 + 1) μ_2 hs h
      · refine z_rload_n dX12_listsMotions_24 rfl 0 rfl ?_
        refine z_getR (q := 15542) ff_12_78 dX12_listsMotions_25 kt_113 (Nat.le_of_ble_eq_true rfl) fl_X12_176 rfl (hs.1 _ _ sr_15542) ?_
        refine z_rload_n dX12_listsMotions_28 rfl 0 rfl ?_
        refine z_getI (q := 15545) ff_12_81 dX12_listsMotions_29 kt_113 (Nat.le_of_ble_eq_true rfl) fl_X12_576 rfl ?_
        refine z_iload_n dX12_listsMotions_32 rfl 2 rfl ?_
        obtain ⟨h0, h1, h⟩ := h
        refine z_iast dX12_listsMotions_33 kt_163 (Nat.le_of_ble_eq_true rfl) h0 h1 ?_
        refine z_mm (fun μ_3 eμ_3 => ?_)
        replace h := h μ_3 eμ_3
        replace hs : StatR μ_3.2.2 := by rw [eμ_3]; exact hs
        refine z_rload_n dX12_listsMotions_34 rfl 0 rfl ?_
        refine z_dup dX12_listsMotions_35 rfl ?_
        refine z_getI (q := 15545) ff_12_81 dX12_listsMotions_36 kt_113 (Nat.le_of_ble_eq_true rfl) fl_X12_576 rfl ?_
        refine z_iconst dX12_listsMotions_39 ?_
        refine z_iadd dX12_listsMotions_40 ?_
        refine z_putI (q := 15545) ff_12_81 (Or.inl rfl) rfl dX12_listsMotions_41 kt_113 (Nat.le_of_ble_eq_true rfl) fl_X12_576 rfl ?_
        refine z_mm (fun μ_4 eμ_4 => ?_)
        replace h := h μ_4 eμ_4
        replace hs : StatR μ_4.2.2 := by rw [eμ_4]; exact hs
        refine z_iinc (j := 2) (lv' := [(2, vi (v2 + 1)), (0, vr Γ 113), (1, vi a1)]) dX12_listsMotions_44 rfl (Nat.le_of_ble_eq_true rfl) rfl ?_
        refine z_goto (tgt := 7) dX12_listsMotions_47 (by decide) ?_
        refine z_sub (lv' := [(0, vr Γ 113), (1, vi a1), (2, vi (v2 + 1))]) [1, 2, 0] rfl ?_
        exact hR_7 (v2 + 1) μ_4 hs h
    · refine z_sub (lv' := []) [] rfl ?_
      exact hX_7_50 μ_2 hs h
theorem i_M_listsMotions {l : Launch} {Γ : Gam} {g : Nat} {a1 : Int} {μ : Mem} {k : Mem → Prop} (hs : StatR μ.2.2) (h : f_M_listsMotions a1 μ k) : CT l Γ yX12_listsMotions cX12_listsMotions 3 none 0 0 0 0 [vr Γ 113, vi a1] g 175 μ (pV k) := by
  refine SW.ct (by decide) (Nat.le_of_ble_eq_true rfl) ?_
  refine z_sub (lv' := [(0, vr Γ 113), (1, vi a1)]) [0, 1] rfl ?_
  show SW l Γ yX12_listsMotions.cls cX12_listsMotions Y_M_listsMotions (pV k) g 175 0 0 μ 0 [(0, vr Γ 113), (1, vi a1)] []
  unfold f_M_listsMotions at h
  refine z_rload_n dX12_listsMotions_0 rfl 0 rfl ?_
  refine z_iconst dX12_listsMotions_1 ?_
  refine z_putI (q := 15545) ff_12_81 (Or.inl rfl) rfl dX12_listsMotions_2 kt_113 (Nat.le_of_ble_eq_true rfl) fl_X12_576 rfl ?_
  refine z_mm (fun μ_1 eμ_1 => ?_)
  replace h := h μ_1 eμ_1
  replace hs : StatR μ_1.2.2 := by rw [eμ_1]; exact hs
  refine z_iconst dX12_listsMotions_5 ?_
  refine z_istore_n (lv' := [(2, vi 0), (0, vr Γ 113), (1, vi a1)]) dX12_listsMotions_6 rfl (Nat.le_of_ble_eq_true rfl) rfl ?_
  obtain ⟨m7, h⟩ := h
  refine z_sub (lv' := [(0, vr Γ 113), (1, vi a1), (2, vi 0)]) [1, 2, 0] rfl ?_
  refine L_M_listsMotions_7 (fun μ_5 hs h => ?_) m7 0 μ_1 hs h
  exact z_vret rfl dX12_listsMotions_50 rfl rfl rfl ⟨rfl, hs, h⟩
abbrev Y_M_worthOf : Yt := (9, (some .int), yX12_worthOf.name, { frames := 6, cells := 0, slots := 0, locals := 144 }, 175, 0, 0)
def l_M_worthOf_138 (a1 : Int) (v4 : Int) (v5 : Int) (v2_1 : Int) (v6 : Int) (v7 : Int) (X_138_171 : Int → Mem → Prop) : Nat → Int → Int → Mem → Prop
  | 0, _, _, _ => False
  | fu138 + 1, v3_2, v8, μ_6 => if w v8 < w (rI μ_6 15472 0) then (f_M_isContrary v8 v7 μ_6 (fun r152 μ_7 => if r152 = true then (∀ v3_3 : Int, v3_3 = w_ior v3_2 (w_ishl 1 v8) → (l_M_worthOf_138 a1 v4 v5 v2_1 v6 v7 X_138_171 fu138) v3_3 (v8 + 1) μ_7) else ((l_M_worthOf_138 a1 v4 v5 v2_1 v6 v7 X_138_171 fu138) v3_2 (v8 + 1) μ_7))) else (X_138_171 v3_2 μ_6)
def l_M_worthOf_88 (a1 : Int) (v4 : Int) (v5 : Int) (v2_1 : Int) (X_88_177 : Int → Mem → Prop) : Nat → Int → Int → Mem → Prop
  | 0, _, _, _ => False
  | fu88 + 1, v3_1, v6, μ_4 => 0 ≤ w v5 ∧ w v5 < ((24 : Nat) : Int) ∧ if w v6 < w (rI μ_4 125 (w v5)) then (0 ≤ w ((12 * v5) + v6) ∧ w ((12 * v5) + v6) < ((288 : Nat) : Int) ∧ ∀ v7 : Int, v7 = rI μ_4 126 (w ((12 * v5) + v6)) → ∀ x134 : Int, x134 = (if 0 < w v7 then 1 else (-1)) → 0 ≤ w (v_M_size v7) ∧ w (v_M_size v7) < ((61 : Nat) : Int) ∧ ∀ μ_5 : Mem, μ_5 = sI μ_4 169 (w (v_M_size v7)) x134 → ∃ m138 : Nat, l_M_worthOf_138 a1 v4 v5 v2_1 v6 v7 (fun (v3_4 : Int) (μ_8 : Mem) => (l_M_worthOf_88 a1 v4 v5 v2_1 X_88_177 fu88) v3_4 (v6 + 1) μ_8) m138 v3_1 0 μ_5) else (X_88_177 v3_1 μ_4)
def l_M_worthOf_19 (a1 : Int) (X_19_183 : Int → Mem → Prop) : Nat → Int → Int → Int → Mem → Prop
  | 0, _, _, _, _ => False
  | fu19 + 1, v2, v3, v4, μ_2 => if w v4 < w (rI μ_2 15545 0) then (0 ≤ w v4 ∧ w v4 < ((6 : Nat) : Int) ∧ 0 ≤ w (rI μ_2 167 (w v4)) ∧ w (rI μ_2 167 (w v4)) < ((8 : Nat) : Int) ∧ ∀ v5 : Int, v5 = rI μ_2 163 (w (rI μ_2 167 (w v4))) → if w (w_iand (w_ishr v3 v5) 1) = w 1 then ((l_M_worthOf_19 a1 X_19_183 fu19) v2 v3 (v4 + 1) μ_2) else (f_M_wouldPass v5 0 (-1) 169 61 μ_2 (fun r61 μ_3 => if r61 = true then (0 ≤ w ((24 * a1) + v5) ∧ w ((24 * a1) + v5) < ((288 : Nat) : Int) ∧ ∀ v2_1 : Int, v2_1 = v2 + (rI μ_3 166 (w ((24 * a1) + v5))) → ∃ m88 : Nat, l_M_worthOf_88 a1 v4 v5 v2_1 (fun (v3_5 : Int) (μ_9 : Mem) => (l_M_worthOf_19 a1 X_19_183 fu19) v2_1 v3_5 (v4 + 1) μ_9) m88 v3 0 μ_3) else ((l_M_worthOf_19 a1 X_19_183 fu19) v2 v3 (v4 + 1) μ_3)))) else (X_19_183 v2 μ_2)
def f_M_worthOf (a1 : Int) (μ : Mem) (k : Int → Mem → Prop) : Prop := f_M_copies 129 61 169 61 μ (fun μ_1 => ∃ m19 : Nat, l_M_worthOf_19 a1 (fun (v2_2 : Int) (μ_10 : Mem) => k v2_2 μ_10) m19 0 0 0 μ_1)
theorem L_M_worthOf_138 {l : Launch} {Γ : Gam} {g : Nat} {a1 : Int} {v4 : Int} {v5 : Int} {v2_1 : Int} {v6 : Int} {v7 : Int} {X_138_171 : Int → Mem → Prop} {k : Int → Mem → Prop} (hX_138_171 : ∀ (u3 : Int) (ν : Mem), StatR ν.2.2 → X_138_171 u3 ν → SW l Γ yX12_worthOf.cls cX12_worthOf Y_M_worthOf (pI k) g 175 0 0 ν 171 [(0, vr Γ 113), (1, vi a1), (2, vi v2_1), (3, vi u3), (4, vi v4), (5, vi v5), (6, vi v6)] []) (n9 : Nat) : ∀ (v3_2 : Int) (v8 : Int) (μ_6 : Mem), StatR μ_6.2.2 → l_M_worthOf_138 a1 v4 v5 v2_1 v6 v7 X_138_171 n9 v3_2 v8 μ_6 → SW l Γ yX12_worthOf.cls cX12_worthOf Y_M_worthOf (pI k) g 175 0 0 μ_6 138 [(0, vr Γ 113), (1, vi a1), (2, vi v2_1), (3, vi v3_2), (4, vi v4), (5, vi v5), (6, vi v6), (7, vi v7), (8, vi v8)] [] := by
  induction n9 with
  | zero =>
    intro v3_2 v8 μ_6 hs h
    exact h.elim
  | succ n9 hR_138 =>
    intro v3_2 v8 μ_6 hs h
    rw [l_M_worthOf_138] at h
    refine z_iload dX12_worthOf_138 8 rfl ?_
    refine z_rload_n dX12_worthOf_140 rfl 0 rfl ?_
    refine z_getI (q := 15472) ff_12_8 dX12_worthOf_141 kt_113 (Nat.le_of_ble_eq_true rfl) fl_X12_231 rfl ?_
    refine z_icmp_ge (tgt := 171) dX12_worthOf_144 (by decide) h (fun h => ?_) (fun h => ?_)
    · refine z_rload_n dX12_worthOf_147 rfl 0 rfl ?_
      refine z_iload dX12_worthOf_148 8 rfl ?_
      refine z_iload dX12_worthOf_150 7 rfl ?_
      refine z_VB (i_M_isContrary  hs h) vk_X12_isContrary kt_113 (Nat.le_of_ble_eq_true rfl) rfl ml_X12_537 ⟨Nat.le_of_ble_eq_true rfl, Nat.le_of_ble_eq_true rfl⟩ ⟨Nat.zero_le _, Nat.zero_le _⟩ rfl rfl (Nat.le_of_ble_eq_true rfl) dX12_worthOf_152 (fun r152 μ_7 hs h => ?_)
      refine z_ifeq_b (tgt := 165) dX12_worthOf_155 (by decide) h (fun h => ?_) (fun h => ?_)
      · refine z_iload_n dX12_worthOf_158 rfl 3 rfl ?_
        refine z_iconst dX12_worthOf_159 ?_
        refine z_iload dX12_worthOf_160 8 rfl ?_
        refine z_ishl dX12_worthOf_162 ?_
        refine z_ior dX12_worthOf_163 ?_
        refine z_nm (fun v3_3 ev3_3 => ?_)
        replace h := h v3_3 ev3_3
        refine z_istore_n (lv' := [(3, vi v3_3), (0, vr Γ 113), (1, vi a1), (2, vi v2_1), (4, vi v4), (5, vi v5), (6, vi v6), (7, vi v7), (8, vi v8)]) dX12_worthOf_164 rfl (Nat.le_of_ble_eq_true rfl) rfl ?_
        refine z_iinc (j := 8) (lv' := [(8, vi (v8 + 1)), (3, vi v3_3), (0, vr Γ 113), (1, vi a1), (2, vi v2_1), (4, vi v4), (5, vi v5), (6, vi v6), (7, vi v7)]) dX12_worthOf_165 rfl (Nat.le_of_ble_eq_true rfl) rfl ?_
        refine z_goto (tgt := 138) dX12_worthOf_168 (by decide) ?_
        refine z_sub (lv' := [(0, vr Γ 113), (1, vi a1), (2, vi v2_1), (3, vi v3_3), (4, vi v4), (5, vi v5), (6, vi v6), (7, vi v7), (8, vi (v8 + 1))]) [2, 3, 4, 1, 5, 6, 7, 8, 0] rfl ?_
        exact hR_138 v3_3 (v8 + 1) μ_7 hs h
      · refine z_iinc (j := 8) (lv' := [(8, vi (v8 + 1)), (0, vr Γ 113), (1, vi a1), (2, vi v2_1), (3, vi v3_2), (4, vi v4), (5, vi v5), (6, vi v6), (7, vi v7)]) dX12_worthOf_165 rfl (Nat.le_of_ble_eq_true rfl) rfl ?_
        refine z_goto (tgt := 138) dX12_worthOf_168 (by decide) ?_
        refine z_sub (lv' := [(0, vr Γ 113), (1, vi a1), (2, vi v2_1), (3, vi v3_2), (4, vi v4), (5, vi v5), (6, vi v6), (7, vi v7), (8, vi (v8 + 1))]) [1, 2, 3, 4, 5, 6, 7, 8, 0] rfl ?_
        exact hR_138 v3_2 (v8 + 1) μ_7 hs h
    · refine z_sub (lv' := [(0, vr Γ 113), (1, vi a1), (2, vi v2_1), (3, vi v3_2), (4, vi v4), (5, vi v5), (6, vi v6)]) [0, 1, 2, 3, 4, 5, 6] rfl ?_
      exact hX_138_171 v3_2 μ_6 hs h
theorem L_M_worthOf_88 {l : Launch} {Γ : Gam} {g : Nat} {a1 : Int} {v4 : Int} {v5 : Int} {v2_1 : Int} {X_88_177 : Int → Mem → Prop} {k : Int → Mem → Prop} (hX_88_177 : ∀ (u3 : Int) (ν : Mem), StatR ν.2.2 → X_88_177 u3 ν → SW l Γ yX12_worthOf.cls cX12_worthOf Y_M_worthOf (pI k) g 175 0 0 ν 177 [(0, vr Γ 113), (1, vi a1), (2, vi v2_1), (3, vi u3), (4, vi v4)] []) (n9 : Nat) : ∀ (v3_1 : Int) (v6 : Int) (μ_4 : Mem), StatR μ_4.2.2 → l_M_worthOf_88 a1 v4 v5 v2_1 X_88_177 n9 v3_1 v6 μ_4 → SW l Γ yX12_worthOf.cls cX12_worthOf Y_M_worthOf (pI k) g 175 0 0 μ_4 88 [(0, vr Γ 113), (1, vi a1), (2, vi v2_1), (3, vi v3_1), (4, vi v4), (5, vi v5), (6, vi v6)] [] := by
  induction n9 with
  | zero =>
    intro v3_1 v6 μ_4 hs h
    exact h.elim
  | succ n9 hR_88 =>
    intro v3_1 v6 μ_4 hs h
    rw [l_M_worthOf_88] at h
    refine z_iload dX12_worthOf_88 6 rfl ?_
    refine z_rload_n dX12_worthOf_90 rfl 0 rfl ?_
    refine z_getR (q := 15484) ff_12_20 dX12_worthOf_91 kt_113 (Nat.le_of_ble_eq_true rfl) fl_X12_53 rfl (hs.1 _ _ sr_15484) ?_
    refine z_iload dX12_worthOf_94 5 rfl ?_
    obtain ⟨h0, h1, h⟩ := h
    refine z_iald dX12_worthOf_96 kt_125 (Nat.le_of_ble_eq_true rfl) h0 h1 ?_
    refine z_icmp_ge (tgt := 177) dX12_worthOf_97 (by decide) h (fun h => ?_) (fun h => ?_)
    · refine z_rload_n dX12_worthOf_100 rfl 0 rfl ?_
      refine z_getR (q := 15485) ff_12_21 dX12_worthOf_101 kt_113 (Nat.le_of_ble_eq_true rfl) fl_X12_56 rfl (hs.1 _ _ sr_15485) ?_
      refine z_bipush dX12_worthOf_104 (by decide) ?_
      refine z_iload dX12_worthOf_106 5 rfl ?_
      refine z_imul dX12_worthOf_108 ?_
      refine z_iload dX12_worthOf_109 6 rfl ?_
      refine z_iadd dX12_worthOf_111 ?_
      obtain ⟨h0, h1, h⟩ := h
      refine z_iald dX12_worthOf_112 kt_126 (Nat.le_of_ble_eq_true rfl) h0 h1 ?_
      refine z_nm (fun v7 ev7 => ?_)
      replace h := h v7 ev7
      refine z_istore (lv' := [(7, vi v7), (0, vr Γ 113), (1, vi a1), (2, vi v2_1), (3, vi v3_1), (4, vi v4), (5, vi v5), (6, vi v6)]) dX12_worthOf_113 (Nat.le_of_ble_eq_true rfl) rfl ?_
      refine z_rload_n dX12_worthOf_115 rfl 1 rfl ?_
      refine z_getR (q := 15549) ff_12_85 dX12_worthOf_116 kt_113 (Nat.le_of_ble_eq_true rfl) fl_X12_194 rfl (hs.1 _ _ sr_15549) ?_
      refine z_iload dX12_worthOf_119 0 rfl ?_
      refine z_SE (i_M_size ) sk_X12_size ml_X12_489 ⟨Nat.le_of_ble_eq_true rfl, Nat.le_of_ble_eq_true rfl⟩ ⟨Nat.zero_le _, Nat.zero_le _⟩ rfl rfl (Nat.le_of_ble_eq_true rfl) dX12_worthOf_121 ?_
      refine z_iload dX12_worthOf_124 0 rfl ?_
      refine z_phi 134 [vi (v_M_size v7), vr Γ 169] (fun V9 hv J9 => ?_) h (fun x134 h => ?_)
      · refine z_if_le (tgt := 133) dX12_worthOf_126 (by decide) (eq_ite hv) (fun hv => ?_) (fun hv => ?_)
        · refine z_iconst dX12_worthOf_129 ?_
          refine z_goto (tgt := 134) dX12_worthOf_130 (by decide) ?_
          exact J9 _ hv.symm
        · refine z_iconst dX12_worthOf_133 ?_
          exact J9 _ hv.symm
      · obtain ⟨h0, h1, h⟩ := h
        refine z_iast dX12_worthOf_134 kt_169 (Nat.le_of_ble_eq_true rfl) h0 h1 ?_
        refine z_mm (fun μ_5 eμ_5 => ?_)
        replace h := h μ_5 eμ_5
        replace hs : StatR μ_5.2.2 := by rw [eμ_5]; exact hs
        refine z_iconst dX12_worthOf_135 ?_
        refine z_istore (lv' := [(8, vi 0), (7, vi v7), (0, vr Γ 113), (1, vi a1), (2, vi v2_1), (3, vi v3_1), (4, vi v4), (5, vi v5), (6, vi v6)]) dX12_worthOf_136 (Nat.le_of_ble_eq_true rfl) rfl ?_
        obtain ⟨m138, h⟩ := h
        refine z_sub (lv' := [(0, vr Γ 113), (1, vi a1), (2, vi v2_1), (3, vi v3_1), (4, vi v4), (5, vi v5), (6, vi v6), (7, vi v7), (8, vi 0)]) [2, 3, 4, 5, 6, 7, 8, 1, 0] rfl ?_
        refine L_M_worthOf_138 (fun v3_4 μ_8 hs h => ?_) m138 v3_1 0 μ_5 hs h
        refine z_iinc (j := 6) (lv' := [(6, vi (v6 + 1)), (0, vr Γ 113), (1, vi a1), (2, vi v2_1), (3, vi v3_4), (4, vi v4), (5, vi v5)]) dX12_worthOf_171 rfl (Nat.le_of_ble_eq_true rfl) rfl ?_
        refine z_goto (tgt := 88) dX12_worthOf_174 (by decide) ?_
        refine z_sub (lv' := [(0, vr Γ 113), (1, vi a1), (2, vi v2_1), (3, vi v3_4), (4, vi v4), (5, vi v5), (6, vi (v6 + 1))]) [1, 2, 3, 4, 5, 6, 0] rfl ?_
        exact hR_88 v3_4 (v6 + 1) μ_8 hs h
    · refine z_sub (lv' := [(0, vr Γ 113), (1, vi a1), (2, vi v2_1), (3, vi v3_1), (4, vi v4)]) [0, 1, 2, 3, 4] rfl ?_
      exact hX_88_177 v3_1 μ_4 hs h
theorem L_M_worthOf_19 {l : Launch} {Γ : Gam} {g : Nat} {a1 : Int} {X_19_183 : Int → Mem → Prop} {k : Int → Mem → Prop} (hX_19_183 : ∀ (u2 : Int) (ν : Mem), StatR ν.2.2 → X_19_183 u2 ν → SW l Γ yX12_worthOf.cls cX12_worthOf Y_M_worthOf (pI k) g 175 0 0 ν 183 [(2, vi u2)] []) (n9 : Nat) : ∀ (v2 : Int) (v3 : Int) (v4 : Int) (μ_2 : Mem), StatR μ_2.2.2 → l_M_worthOf_19 a1 X_19_183 n9 v2 v3 v4 μ_2 → SW l Γ yX12_worthOf.cls cX12_worthOf Y_M_worthOf (pI k) g 175 0 0 μ_2 19 [(0, vr Γ 113), (1, vi a1), (2, vi v2), (3, vi v3), (4, vi v4)] [] := by
  induction n9 with
  | zero =>
    intro v2 v3 v4 μ_2 hs h
    exact h.elim
  | succ n9 hR_19 =>
    intro v2 v3 v4 μ_2 hs h
    rw [l_M_worthOf_19] at h
    refine z_iload dX12_worthOf_19 4 rfl ?_
    refine z_rload_n dX12_worthOf_21 rfl 0 rfl ?_
    refine z_getI (q := 15545) ff_12_81 dX12_worthOf_22 kt_113 (Nat.le_of_ble_eq_true rfl) fl_X12_576 rfl ?_
    refine z_icmp_ge (tgt := 183) dX12_worthOf_25 (by decide) h (fun h => ?_) (fun h => ?_)
    · refine z_rload_n dX12_worthOf_28 rfl 0 rfl ?_
      refine z_getR (q := 15542) ff_12_78 dX12_worthOf_29 kt_113 (Nat.le_of_ble_eq_true rfl) fl_X12_176 rfl (hs.1 _ _ sr_15542) ?_
      refine z_rload_n dX12_worthOf_32 rfl 0 rfl ?_
      refine z_getR (q := 15547) ff_12_83 dX12_worthOf_33 kt_113 (Nat.le_of_ble_eq_true rfl) fl_X12_188 rfl (hs.1 _ _ sr_15547) ?_
      refine z_iload dX12_worthOf_36 4 rfl ?_
      obtain ⟨h0, h1, h⟩ := h
      refine z_iald dX12_worthOf_38 kt_167 (Nat.le_of_ble_eq_true rfl) h0 h1 ?_
      obtain ⟨h0, h1, h⟩ := h
      refine z_iald dX12_worthOf_39 kt_163 (Nat.le_of_ble_eq_true rfl) h0 h1 ?_
      refine z_nm (fun v5 ev5 => ?_)
      replace h := h v5 ev5
      refine z_istore (lv' := [(5, vi v5), (0, vr Γ 113), (1, vi a1), (2, vi v2), (3, vi v3), (4, vi v4)]) dX12_worthOf_40 (Nat.le_of_ble_eq_true rfl) rfl ?_
      refine z_iload_n dX12_worthOf_42 rfl 4 rfl ?_
      refine z_iload dX12_worthOf_43 0 rfl ?_
      refine z_ishr dX12_worthOf_45 ?_
      refine z_iconst dX12_worthOf_46 ?_
      refine z_iand dX12_worthOf_47 ?_
      refine z_iconst dX12_worthOf_48 ?_
      refine z_icmp_eq (tgt := 177) dX12_worthOf_49 (by decide) h (fun h => ?_) (fun h => ?_)
      · refine z_iinc (j := 5) (lv' := [(4, vi (v4 + 1)), (5, vi v5), (0, vr Γ 113), (1, vi a1), (2, vi v2), (3, vi v3)]) dX12_worthOf_177 rfl (Nat.le_of_ble_eq_true rfl) rfl ?_
        refine z_goto (tgt := 19) dX12_worthOf_180 (by decide) ?_
        refine z_sub (lv' := [(0, vr Γ 113), (1, vi a1), (2, vi v2), (3, vi v3), (4, vi (v4 + 1))]) [2, 3, 4, 5, 0] rfl ?_
        exact hR_19 v2 v3 (v4 + 1) μ_2 hs h
      · refine z_rload_n dX12_worthOf_52 rfl 1 rfl ?_
        refine z_iload dX12_worthOf_53 0 rfl ?_
        refine z_iconst dX12_worthOf_55 ?_
        refine z_iconst dX12_worthOf_56 ?_
        refine z_rload_n dX12_worthOf_57 rfl 1 rfl ?_
        refine z_getR (q := 15549) ff_12_85 dX12_worthOf_58 kt_113 (Nat.le_of_ble_eq_true rfl) fl_X12_194 rfl (hs.1 _ _ sr_15549) ?_
        refine z_VB (i_M_wouldPass kt_169 (Nat.le_of_ble_eq_true rfl) hs h) vk_X12_wouldPass kt_113 (Nat.le_of_ble_eq_true rfl) rfl ml_X12_591 ⟨Nat.le_of_ble_eq_true rfl, Nat.le_of_ble_eq_true rfl⟩ ⟨Nat.zero_le _, Nat.zero_le _⟩ rfl rfl (Nat.le_of_ble_eq_true rfl) dX12_worthOf_61 (fun r61 μ_3 hs h => ?_)
        refine z_ifne_b (tgt := 70) dX12_worthOf_64 (by decide) h (fun h => ?_) (fun h => ?_)
        · refine z_iload_n dX12_worthOf_70 rfl 3 rfl ?_
          refine z_rload_n dX12_worthOf_71 rfl 1 rfl ?_
          refine z_getR (q := 15546) ff_12_82 dX12_worthOf_72 kt_113 (Nat.le_of_ble_eq_true rfl) fl_X12_185 rfl (hs.1 _ _ sr_15546) ?_
          refine z_bipush dX12_worthOf_75 (by decide) ?_
          refine z_iload_n dX12_worthOf_77 rfl 2 rfl ?_
          refine z_imul dX12_worthOf_78 ?_
          refine z_iload dX12_worthOf_79 0 rfl ?_
          refine z_iadd dX12_worthOf_81 ?_
          obtain ⟨h0, h1, h⟩ := h
          refine z_iald dX12_worthOf_82 kt_166 (Nat.le_of_ble_eq_true rfl) h0 h1 ?_
          refine z_iadd dX12_worthOf_83 ?_
          refine z_nm (fun v2_1 ev2_1 => ?_)
          replace h := h v2_1 ev2_1
          refine z_istore_n (lv' := [(2, vi v2_1), (5, vi v5), (0, vr Γ 113), (1, vi a1), (3, vi v3), (4, vi v4)]) dX12_worthOf_84 rfl (Nat.le_of_ble_eq_true rfl) rfl ?_
          refine z_iconst dX12_worthOf_85 ?_
          refine z_istore (lv' := [(6, vi 0), (2, vi v2_1), (5, vi v5), (0, vr Γ 113), (1, vi a1), (3, vi v3), (4, vi v4)]) dX12_worthOf_86 (Nat.le_of_ble_eq_true rfl) rfl ?_
          obtain ⟨m88, h⟩ := h
          refine z_sub (lv' := [(0, vr Γ 113), (1, vi a1), (2, vi v2_1), (3, vi v3), (4, vi v4), (5, vi v5), (6, vi 0)]) [3, 4, 1, 5, 6, 2, 0] rfl ?_
          refine L_M_worthOf_88 (fun v3_5 μ_9 hs h => ?_) m88 v3 0 μ_3 hs h
          refine z_iinc (j := 4) (lv' := [(4, vi (v4 + 1)), (0, vr Γ 113), (1, vi a1), (2, vi v2_1), (3, vi v3_5)]) dX12_worthOf_177 rfl (Nat.le_of_ble_eq_true rfl) rfl ?_
          refine z_goto (tgt := 19) dX12_worthOf_180 (by decide) ?_
          refine z_sub (lv' := [(0, vr Γ 113), (1, vi a1), (2, vi v2_1), (3, vi v3_5), (4, vi (v4 + 1))]) [1, 2, 3, 4, 0] rfl ?_
          exact hR_19 v2_1 v3_5 (v4 + 1) μ_9 hs h
        · refine z_goto (tgt := 177) dX12_worthOf_67 (by decide) ?_
          refine z_iinc (j := 5) (lv' := [(4, vi (v4 + 1)), (5, vi v5), (0, vr Γ 113), (1, vi a1), (2, vi v2), (3, vi v3)]) dX12_worthOf_177 rfl (Nat.le_of_ble_eq_true rfl) rfl ?_
          refine z_goto (tgt := 19) dX12_worthOf_180 (by decide) ?_
          refine z_sub (lv' := [(0, vr Γ 113), (1, vi a1), (2, vi v2), (3, vi v3), (4, vi (v4 + 1))]) [2, 3, 4, 5, 0] rfl ?_
          exact hR_19 v2 v3 (v4 + 1) μ_3 hs h
    · refine z_sub (lv' := [(2, vi v2)]) [2] rfl ?_
      exact hX_19_183 v2 μ_2 hs h
theorem i_M_worthOf {l : Launch} {Γ : Gam} {g : Nat} {a1 : Int} {μ : Mem} {k : Int → Mem → Prop} (hs : StatR μ.2.2) (h : f_M_worthOf a1 μ k) : CT l Γ yX12_worthOf cX12_worthOf 9 (some .int) 6 144 0 0 [vr Γ 113, vi a1] g 175 μ (pI k) := by
  refine SW.ct (by decide) (Nat.le_of_ble_eq_true rfl) ?_
  refine z_sub (lv' := [(0, vr Γ 113), (1, vi a1)]) [0, 1] rfl ?_
  show SW l Γ yX12_worthOf.cls cX12_worthOf Y_M_worthOf (pI k) g 175 0 0 μ 0 [(0, vr Γ 113), (1, vi a1)] []
  unfold f_M_worthOf at h
  refine z_rload_n dX12_worthOf_0 rfl 0 rfl ?_
  refine z_rload_n dX12_worthOf_1 rfl 0 rfl ?_
  refine z_getR (q := 15488) ff_12_24 dX12_worthOf_2 kt_113 (Nat.le_of_ble_eq_true rfl) fl_X12_66 rfl (hs.1 _ _ sr_15488) ?_
  refine z_rload_n dX12_worthOf_5 rfl 0 rfl ?_
  refine z_getR (q := 15549) ff_12_85 dX12_worthOf_6 kt_113 (Nat.le_of_ble_eq_true rfl) fl_X12_194 rfl (hs.1 _ _ sr_15549) ?_
  refine z_VU (i_M_copies kt_129 (Nat.le_of_ble_eq_true rfl) kt_169 (Nat.le_of_ble_eq_true rfl) hs h) vk_X12_copies kt_113 (Nat.le_of_ble_eq_true rfl) rfl ml_X12_227 ⟨Nat.le_of_ble_eq_true rfl, Nat.le_of_ble_eq_true rfl⟩ ⟨Nat.zero_le _, Nat.zero_le _⟩ rfl rfl (Nat.le_of_ble_eq_true rfl) dX12_worthOf_9 (fun μ_1 hs h => ?_)
  refine z_iconst dX12_worthOf_12 ?_
  refine z_istore_n (lv' := [(2, vi 0), (0, vr Γ 113), (1, vi a1)]) dX12_worthOf_13 rfl (Nat.le_of_ble_eq_true rfl) rfl ?_
  refine z_iconst dX12_worthOf_14 ?_
  refine z_istore_n (lv' := [(3, vi 0), (2, vi 0), (0, vr Γ 113), (1, vi a1)]) dX12_worthOf_15 rfl (Nat.le_of_ble_eq_true rfl) rfl ?_
  refine z_iconst dX12_worthOf_16 ?_
  refine z_istore (lv' := [(4, vi 0), (3, vi 0), (2, vi 0), (0, vr Γ 113), (1, vi a1)]) dX12_worthOf_17 (Nat.le_of_ble_eq_true rfl) rfl ?_
  obtain ⟨m19, h⟩ := h
  refine z_sub (lv' := [(0, vr Γ 113), (1, vi a1), (2, vi 0), (3, vi 0), (4, vi 0)]) [3, 4, 2, 1, 0] rfl ?_
  refine L_M_worthOf_19 (fun v2_2 μ_10 hs h => ?_) m19 0 0 0 μ_1 hs h
  refine z_iload_n dX12_worthOf_183 rfl 0 rfl ?_
  exact z_iret rfl dX12_worthOf_184 rfl rfl rfl ⟨_, rfl, hs, h⟩
abbrev Y_M_inOrder : Yt := (8, (some .int), yX12_inOrder.name, { frames := 7, cells := 0, slots := 0, locals := 172 }, 175, 0, 0)
def l_M_inOrder_47 (a3 : Int) (X_47_90 : Mem → Prop) (X_47_120 : Int → Mem → Prop) : Nat → Int → Int → Int → Mem → Prop
  | 0, _, _, _, _ => False
  | fu47 + 1, v4, v5, v6_1, μ_4 => if w v6_1 < 0 then (X_47_120 v4 μ_4) else (∀ v7 : Int, v7 = w_irem v4 10 → ∀ v4_1 : Int, v4_1 = w_idiv v4 10 → if (v_M_within v7 1 (rI μ_4 15545 0)) = true then (if w (w_iand (w_ishr v5 v7) 1) = w 1 then (X_47_90 μ_4) else (∀ v5_1 : Int, v5_1 = w_ior v5 (w_ishl 1 v7) → 0 ≤ w v6_1 ∧ w v6_1 < ((6 : Nat) : Int) ∧ ∀ μ_5 : Mem, μ_5 = sI μ_4 167 (w v6_1) (v7 - 1) → (l_M_inOrder_47 a3 X_47_90 X_47_120 fu47) v4_1 v5_1 (v6_1 + (-1)) μ_5)) else (X_47_90 μ_4))
def f_M_inOrder (a1 : Int) (a2 : Int) (a3 : Int) (μ : Mem) (k : Int → Mem → Prop) : Prop := ∀ μ_1 : Mem, μ_1 = sI μ 15464 0 0 → f_M_areOpen a1 1 6 μ_1 (fun r10 μ_2 => if r10 = true then (if (v_M_isAffiliate a3 μ_2) = true then (f_M_listsMotions a1 μ_2 (fun μ_3 => ∀ v6 : Int, v6 = (rI μ_3 15545 0) - 1 → ∃ m47 : Nat, l_M_inOrder_47 a3 (fun (μ_6 : Mem) => k (-1000) μ_6) (fun (v4_2 : Int) (μ_7 : Mem) => if w v4_2 = 0 then (f_M_worthOf a3 μ_7 (fun r133 μ_8 => k r133 μ_8)) else (k (-1000) μ_7)) m47 a2 0 v6 μ_3)) else (k (-1000) μ_2)) else (k (-1000) μ_2))
theorem L_M_inOrder_47 {l : Launch} {Γ : Gam} {g : Nat} {a3 : Int} {X_47_90 : Mem → Prop} {X_47_120 : Int → Mem → Prop} {k : Int → Mem → Prop} (hX_47_90 : ∀ (ν : Mem), StatR ν.2.2 → X_47_90 ν → SW l Γ yX12_inOrder.cls cX12_inOrder Y_M_inOrder (pI k) g 175 0 0 ν 90 [] []) (hX_47_120 : ∀ (u4 : Int) (ν : Mem), StatR ν.2.2 → X_47_120 u4 ν → SW l Γ yX12_inOrder.cls cX12_inOrder Y_M_inOrder (pI k) g 175 0 0 ν 120 [(0, vr Γ 113), (3, vi a3), (4, vi u4)] []) (n9 : Nat) : ∀ (v4 : Int) (v5 : Int) (v6_1 : Int) (μ_4 : Mem), StatR μ_4.2.2 → l_M_inOrder_47 a3 X_47_90 X_47_120 n9 v4 v5 v6_1 μ_4 → SW l Γ yX12_inOrder.cls cX12_inOrder Y_M_inOrder (pI k) g 175 0 0 μ_4 47 [(0, vr Γ 113), (3, vi a3), (4, vi v4), (5, vi v5), (6, vi v6_1)] [] := by
  induction n9 with
  | zero =>
    intro v4 v5 v6_1 μ_4 hs h
    exact h.elim
  | succ n9 hR_47 =>
    intro v4 v5 v6_1 μ_4 hs h
    rw [l_M_inOrder_47] at h
    refine z_iload dX12_inOrder_47 4 rfl ?_
    refine z_if_lt (tgt := 120) dX12_inOrder_49 (by decide) h (fun h => ?_) (fun h => ?_)
    · refine z_sub (lv' := [(0, vr Γ 113), (3, vi a3), (4, vi v4)]) [0, 1, 2] rfl ?_
      exact hX_47_120 v4 μ_4 hs h
    · refine z_iload dX12_inOrder_52 2 rfl ?_
      refine z_bipush dX12_inOrder_54 (by decide) ?_
      refine z_irem dX12_inOrder_56 (by decide) ?_
      refine z_nm (fun v7 ev7 => ?_)
      replace h := h v7 ev7
      refine z_istore (lv' := [(7, vi v7), (0, vr Γ 113), (3, vi a3), (4, vi v4), (5, vi v5), (6, vi v6_1)]) dX12_inOrder_57 (Nat.le_of_ble_eq_true rfl) rfl ?_
      refine z_iload dX12_inOrder_59 3 rfl ?_
      refine z_bipush dX12_inOrder_61 (by decide) ?_
      refine z_idiv dX12_inOrder_63 (by decide) ?_
      refine z_nm (fun v4_1 ev4_1 => ?_)
      replace h := h v4_1 ev4_1
      refine z_istore (lv' := [(4, vi v4_1), (7, vi v7), (0, vr Γ 113), (3, vi a3), (5, vi v5), (6, vi v6_1)]) dX12_inOrder_64 (Nat.le_of_ble_eq_true rfl) rfl ?_
      refine z_iload dX12_inOrder_66 1 rfl ?_
      refine z_iconst dX12_inOrder_68 ?_
      refine z_rload_n dX12_inOrder_69 rfl 2 rfl ?_
      refine z_getI (q := 15545) ff_12_81 dX12_inOrder_70 kt_113 (Nat.le_of_ble_eq_true rfl) fl_X12_576 rfl ?_
      refine z_SE (i_M_within ) sk_X12_within ml_X12_215 ⟨Nat.le_of_ble_eq_true rfl, Nat.le_of_ble_eq_true rfl⟩ ⟨Nat.zero_le _, Nat.zero_le _⟩ rfl rfl (Nat.le_of_ble_eq_true rfl) dX12_inOrder_73 ?_
      refine z_ifeq_b (tgt := 90) dX12_inOrder_76 (by decide) h (fun h => ?_) (fun h => ?_)
      · refine z_iload dX12_inOrder_79 4 rfl ?_
        refine z_iload dX12_inOrder_81 1 rfl ?_
        refine z_ishr dX12_inOrder_83 ?_
        refine z_iconst dX12_inOrder_84 ?_
        refine z_iand dX12_inOrder_85 ?_
        refine z_iconst dX12_inOrder_86 ?_
        refine z_icmp_ne (tgt := 94) dX12_inOrder_87 (by decide) h (fun h => ?_) (fun h => ?_)
        · refine z_sub (lv' := []) [] rfl ?_
          exact hX_47_90 μ_4 hs h
        · refine z_iload dX12_inOrder_94 4 rfl ?_
          refine z_iconst dX12_inOrder_96 ?_
          refine z_iload dX12_inOrder_97 1 rfl ?_
          refine z_ishl dX12_inOrder_99 ?_
          refine z_ior dX12_inOrder_100 ?_
          refine z_nm (fun v5_1 ev5_1 => ?_)
          replace h := h v5_1 ev5_1
          refine z_istore (lv' := [(5, vi v5_1), (4, vi v4_1), (7, vi v7), (0, vr Γ 113), (3, vi a3), (6, vi v6_1)]) dX12_inOrder_101 (Nat.le_of_ble_eq_true rfl) rfl ?_
          refine z_rload_n dX12_inOrder_103 rfl 3 rfl ?_
          refine z_getR (q := 15547) ff_12_83 dX12_inOrder_104 kt_113 (Nat.le_of_ble_eq_true rfl) fl_X12_188 rfl (hs.1 _ _ sr_15547) ?_
          refine z_iload dX12_inOrder_107 5 rfl ?_
          refine z_iload dX12_inOrder_109 2 rfl ?_
          refine z_iconst dX12_inOrder_111 ?_
          refine z_isub dX12_inOrder_112 ?_
          obtain ⟨h0, h1, h⟩ := h
          refine z_iast dX12_inOrder_113 kt_167 (Nat.le_of_ble_eq_true rfl) h0 h1 ?_
          refine z_mm (fun μ_5 eμ_5 => ?_)
          replace h := h μ_5 eμ_5
          replace hs : StatR μ_5.2.2 := by rw [eμ_5]; exact hs
          refine z_iinc (j := 5) (lv' := [(6, vi (v6_1 + (-1))), (5, vi v5_1), (4, vi v4_1), (7, vi v7), (0, vr Γ 113), (3, vi a3)]) dX12_inOrder_114 rfl (Nat.le_of_ble_eq_true rfl) rfl ?_
          refine z_goto (tgt := 47) dX12_inOrder_117 (by decide) ?_
          refine z_sub (lv' := [(0, vr Γ 113), (3, vi a3), (4, vi v4_1), (5, vi v5_1), (6, vi (v6_1 + (-1)))]) [4, 5, 2, 1, 0] rfl ?_
          exact hR_47 v4_1 v5_1 (v6_1 + (-1)) μ_5 hs h
      · refine z_sub (lv' := []) [] rfl ?_
        exact hX_47_90 μ_4 hs h
theorem i_M_inOrder {l : Launch} {Γ : Gam} {g : Nat} {a1 : Int} {a2 : Int} {a3 : Int} {μ : Mem} {k : Int → Mem → Prop} (hs : StatR μ.2.2) (h : f_M_inOrder a1 a2 a3 μ k) : CT l Γ yX12_inOrder cX12_inOrder 8 (some .int) 7 172 0 0 [vr Γ 113, vi a1, vi a2, vi a3] g 175 μ (pI k) := by
  refine SW.ct (by decide) (Nat.le_of_ble_eq_true rfl) ?_
  refine z_sub (lv' := [(0, vr Γ 113), (1, vi a1), (2, vi a2), (3, vi a3)]) [0, 1, 2, 3] rfl ?_
  show SW l Γ yX12_inOrder.cls cX12_inOrder Y_M_inOrder (pI k) g 175 0 0 μ 0 [(0, vr Γ 113), (1, vi a1), (2, vi a2), (3, vi a3)] []
  unfold f_M_inOrder at h
  refine z_rload_n dX12_inOrder_0 rfl 0 rfl ?_
  refine z_iconst dX12_inOrder_1 ?_
  refine z_putI (q := 15464) ff_12_0 (Or.inl rfl) rfl dX12_inOrder_2 kt_113 (Nat.le_of_ble_eq_true rfl) fl_X12_1 rfl ?_
  refine z_mm (fun μ_1 eμ_1 => ?_)
  replace h := h μ_1 eμ_1
  replace hs : StatR μ_1.2.2 := by rw [eμ_1]; exact hs
  refine z_rload_n dX12_inOrder_5 rfl 0 rfl ?_
  refine z_iload_n dX12_inOrder_6 rfl 1 rfl ?_
  refine z_iconst dX12_inOrder_7 ?_
  refine z_bipush dX12_inOrder_8 (by decide) ?_
  refine z_VB (i_M_areOpen  hs h) vk_X12_areOpen kt_113 (Nat.le_of_ble_eq_true rfl) rfl ml_X12_570 ⟨Nat.le_of_ble_eq_true rfl, Nat.le_of_ble_eq_true rfl⟩ ⟨Nat.zero_le _, Nat.zero_le _⟩ rfl rfl (Nat.le_of_ble_eq_true rfl) dX12_inOrder_10 (fun r10 μ_2 hs h => ?_)
  refine z_ifeq_b (tgt := 24) dX12_inOrder_13 (by decide) h (fun h => ?_) (fun h => ?_)
  · refine z_rload_n dX12_inOrder_16 rfl 0 rfl ?_
    refine z_iload_n dX12_inOrder_17 rfl 3 rfl ?_
    refine z_VE (i_M_isAffiliate ) vk_X12_isAffiliate kt_113 (Nat.le_of_ble_eq_true rfl) rfl ml_X12_219 ⟨Nat.le_of_ble_eq_true rfl, Nat.le_of_ble_eq_true rfl⟩ ⟨Nat.zero_le _, Nat.zero_le _⟩ rfl rfl (Nat.le_of_ble_eq_true rfl) dX12_inOrder_18 ?_
    refine z_ifne_b (tgt := 28) dX12_inOrder_21 (by decide) h (fun h => ?_) (fun h => ?_)
    · refine z_rload_n dX12_inOrder_28 rfl 0 rfl ?_
      refine z_iload_n dX12_inOrder_29 rfl 1 rfl ?_
      refine z_VU (i_M_listsMotions  hs h) vk_X12_listsMotions kt_113 (Nat.le_of_ble_eq_true rfl) rfl ml_X12_595 ⟨Nat.le_of_ble_eq_true rfl, Nat.le_of_ble_eq_true rfl⟩ ⟨Nat.zero_le _, Nat.zero_le _⟩ rfl rfl (Nat.le_of_ble_eq_true rfl) dX12_inOrder_30 (fun μ_3 hs h => ?_)
      refine z_iload_n dX12_inOrder_33 rfl 2 rfl ?_
      refine z_istore (lv' := [(4, vi a2), (0, vr Γ 113), (1, vi a1), (2, vi a2), (3, vi a3)]) dX12_inOrder_34 (Nat.le_of_ble_eq_true rfl) rfl ?_
      refine z_iconst dX12_inOrder_36 ?_
      refine z_istore (lv' := [(5, vi 0), (4, vi a2), (0, vr Γ 113), (1, vi a1), (2, vi a2), (3, vi a3)]) dX12_inOrder_37 (Nat.le_of_ble_eq_true rfl) rfl ?_
      refine z_rload_n dX12_inOrder_39 rfl 2 rfl ?_
      refine z_getI (q := 15545) ff_12_81 dX12_inOrder_40 kt_113 (Nat.le_of_ble_eq_true rfl) fl_X12_576 rfl ?_
      refine z_iconst dX12_inOrder_43 ?_
      refine z_isub dX12_inOrder_44 ?_
      refine z_nm (fun v6 ev6 => ?_)
      replace h := h v6 ev6
      refine z_istore (lv' := [(6, vi v6), (5, vi 0), (4, vi a2), (0, vr Γ 113), (1, vi a1), (2, vi a2), (3, vi a3)]) dX12_inOrder_45 (Nat.le_of_ble_eq_true rfl) rfl ?_
      obtain ⟨m47, h⟩ := h
      refine z_sub (lv' := [(0, vr Γ 113), (3, vi a3), (4, vi a2), (5, vi 0), (6, vi v6)]) [3, 6, 2, 1, 0] rfl ?_
      refine L_M_inOrder_47 (fun μ_6 hs h => ?_) (fun v4_2 μ_7 hs h => ?_) m47 a2 0 v6 μ_3 hs h
      · refine z_sipush dX12_inOrder_90 (by decide) ?_
        exact z_iret rfl dX12_inOrder_93 rfl rfl rfl ⟨_, rfl, hs, h⟩
      · refine z_iload dX12_inOrder_120 2 rfl ?_
        refine z_if_eq (tgt := 131) dX12_inOrder_122 (by decide) h (fun h => ?_) (fun h => ?_)
        · refine z_rload_n dX12_inOrder_131 rfl 0 rfl ?_
          refine z_iload_n dX12_inOrder_132 rfl 1 rfl ?_
          refine z_VI (i_M_worthOf  hs h) vk_X12_worthOf kt_113 (Nat.le_of_ble_eq_true rfl) rfl ml_X12_598 ⟨Nat.le_of_ble_eq_true rfl, Nat.le_of_ble_eq_true rfl⟩ ⟨Nat.zero_le _, Nat.zero_le _⟩ rfl rfl (Nat.le_of_ble_eq_true rfl) dX12_inOrder_133 (fun r133 μ_8 hs h => ?_)
          exact z_iret rfl dX12_inOrder_136 rfl rfl rfl ⟨_, rfl, hs, h⟩
        · refine z_sipush dX12_inOrder_125 (by decide) ?_
          refine z_goto (tgt := 136) dX12_inOrder_128 (by decide) ?_
          exact z_iret rfl dX12_inOrder_136 rfl rfl rfl ⟨_, rfl, hs, h⟩
    · refine z_sipush dX12_inOrder_24 (by decide) ?_
      exact z_iret rfl dX12_inOrder_27 rfl rfl rfl ⟨_, rfl, hs, h⟩
  · refine z_sipush dX12_inOrder_24 (by decide) ?_
    exact z_iret rfl dX12_inOrder_27 rfl rfl rfl ⟨_, rfl, hs, h⟩
abbrev Y_M_swaps : Yt := (4, none, yX12_swaps.name, { frames := 0, cells := 0, slots := 0, locals := 0 }, 175, 0, 0)
def f_M_swaps (a1 : Int) (a2 : Int) (μ : Mem) (k : Mem → Prop) : Prop := 0 ≤ w a1 ∧ w a1 < ((6 : Nat) : Int) ∧ ∀ v3 : Int, v3 = rI μ 167 (w a1) → 0 ≤ w a2 ∧ w a2 < ((6 : Nat) : Int) ∧ 0 ≤ w a1 ∧ w a1 < ((6 : Nat) : Int) ∧ ∀ μ_1 : Mem, μ_1 = sI μ 167 (w a1) (rI μ 167 (w a2)) → 0 ≤ w a2 ∧ w a2 < ((6 : Nat) : Int) ∧ ∀ μ_2 : Mem, μ_2 = sI μ_1 167 (w a2) v3 → k μ_2
theorem i_M_swaps {l : Launch} {Γ : Gam} {g : Nat} {a1 : Int} {a2 : Int} {μ : Mem} {k : Mem → Prop} (hs : StatR μ.2.2) (h : f_M_swaps a1 a2 μ k) : CT l Γ yX12_swaps cX12_swaps 4 none 0 0 0 0 [vr Γ 113, vi a1, vi a2] g 175 μ (pV k) := by
  refine SW.ct (by decide) (Nat.le_of_ble_eq_true rfl) ?_
  refine z_sub (lv' := [(0, vr Γ 113), (1, vi a1), (2, vi a2)]) [0, 1, 2] rfl ?_
  show SW l Γ yX12_swaps.cls cX12_swaps Y_M_swaps (pV k) g 175 0 0 μ 0 [(0, vr Γ 113), (1, vi a1), (2, vi a2)] []
  unfold f_M_swaps at h
  refine z_rload_n dX12_swaps_0 rfl 0 rfl ?_
  refine z_getR (q := 15547) ff_12_83 dX12_swaps_1 kt_113 (Nat.le_of_ble_eq_true rfl) fl_X12_188 rfl (hs.1 _ _ sr_15547) ?_
  refine z_iload_n dX12_swaps_4 rfl 1 rfl ?_
  obtain ⟨h0, h1, h⟩ := h
  refine z_iald dX12_swaps_5 kt_167 (Nat.le_of_ble_eq_true rfl) h0 h1 ?_
  refine z_nm (fun v3 ev3 => ?_)
  replace h := h v3 ev3
  refine z_istore_n (lv' := [(3, vi v3), (0, vr Γ 113), (1, vi a1), (2, vi a2)]) dX12_swaps_6 rfl (Nat.le_of_ble_eq_true rfl) rfl ?_
  refine z_rload_n dX12_swaps_7 rfl 1 rfl ?_
  refine z_getR (q := 15547) ff_12_83 dX12_swaps_8 kt_113 (Nat.le_of_ble_eq_true rfl) fl_X12_188 rfl (hs.1 _ _ sr_15547) ?_
  refine z_iload_n dX12_swaps_11 rfl 2 rfl ?_
  refine z_rload_n dX12_swaps_12 rfl 1 rfl ?_
  refine z_getR (q := 15547) ff_12_83 dX12_swaps_13 kt_113 (Nat.le_of_ble_eq_true rfl) fl_X12_188 rfl (hs.1 _ _ sr_15547) ?_
  refine z_iload_n dX12_swaps_16 rfl 3 rfl ?_
  obtain ⟨h0, h1, h⟩ := h
  refine z_iald dX12_swaps_17 kt_167 (Nat.le_of_ble_eq_true rfl) h0 h1 ?_
  obtain ⟨h0, h1, h⟩ := h
  refine z_iast dX12_swaps_18 kt_167 (Nat.le_of_ble_eq_true rfl) h0 h1 ?_
  refine z_mm (fun μ_1 eμ_1 => ?_)
  replace h := h μ_1 eμ_1
  replace hs : StatR μ_1.2.2 := by rw [eμ_1]; exact hs
  refine z_rload_n dX12_swaps_19 rfl 1 rfl ?_
  refine z_getR (q := 15547) ff_12_83 dX12_swaps_20 kt_113 (Nat.le_of_ble_eq_true rfl) fl_X12_188 rfl (hs.1 _ _ sr_15547) ?_
  refine z_iload_n dX12_swaps_23 rfl 3 rfl ?_
  refine z_iload_n dX12_swaps_24 rfl 0 rfl ?_
  obtain ⟨h0, h1, h⟩ := h
  refine z_iast dX12_swaps_25 kt_167 (Nat.le_of_ble_eq_true rfl) h0 h1 ?_
  refine z_mm (fun μ_2 eμ_2 => ?_)
  replace h := h μ_2 eμ_2
  replace hs : StatR μ_2.2.2 := by rw [eμ_2]; exact hs
  exact z_vret rfl dX12_swaps_26 rfl rfl rfl ⟨rfl, hs, h⟩
abbrev Y_M_goesOn : Yt := (5, (some .boolean), yX12_goesOn.name, { frames := 1, cells := 0, slots := 0, locals := 23 }, 175, 0, 0)
def l_M_goesOn_7 (μ : Mem) (X_7_34 : Int → Prop) : Nat → Int → Prop
  | 0, _ => False
  | fu7 + 1, v1_1 => if w v1_1 < 0 then (X_7_34 v1_1) else (0 ≤ w v1_1 ∧ w v1_1 < ((6 : Nat) : Int) ∧ 0 ≤ w (v1_1 + 1) ∧ w (v1_1 + 1) < ((6 : Nat) : Int) ∧ if w (rI μ 167 (w (v1_1 + 1))) < w (rI μ 167 (w v1_1)) then ((l_M_goesOn_7 μ X_7_34 fu7) (v1_1 + (-1))) else (X_7_34 v1_1))
def l_M_goesOn_47 (μ : Mem) (v1_2 : Int) (X_47_68 : Int → Prop) : Nat → Int → Prop
  | 0, _ => False
  | fu47 + 1, v2_1 => 0 ≤ w v2_1 ∧ w v2_1 < ((6 : Nat) : Int) ∧ 0 ≤ w v1_2 ∧ w v1_2 < ((6 : Nat) : Int) ∧ if w (rI μ 167 (w v2_1)) < w (rI μ 167 (w v1_2)) then ((l_M_goesOn_47 μ v1_2 X_47_68 fu47) (v2_1 + (-1))) else (X_47_68 v2_1)
def l_M_goesOn_86 (X_86_108 : Mem → Prop) : Nat → Int → Int → Mem → Prop
  | 0, _, _, _ => False
  | fu86 + 1, v3, v4_1, μ_2 => if w v3 < w v4_1 then (f_M_swaps v3 v4_1 μ_2 (fun μ_3 => (l_M_goesOn_86 X_86_108 fu86) (v3 + 1) (v4_1 + (-1)) μ_3)) else (X_86_108 μ_2)
def f_M_goesOn  (μ : Mem) (k : Bool → Mem → Prop) : Prop := ∀ v1 : Int, v1 = (rI μ 15545 0) - 2 → ∃ m7 : Nat, l_M_goesOn_7 μ (fun (v1_2 : Int) => if w v1_2 < 0 then (k false μ) else (∀ v2 : Int, v2 = (rI μ 15545 0) - 1 → ∃ m47 : Nat, l_M_goesOn_47 μ v1_2 (fun (v2_2 : Int) => f_M_swaps v1_2 v2_2 μ (fun μ_1 => ∀ v4 : Int, v4 = (rI μ_1 15545 0) - 1 → ∃ m86 : Nat, l_M_goesOn_86 (fun (μ_4 : Mem) => k true μ_4) m86 (v1_2 + 1) v4 μ_1)) m47 v2)) m7 v1
theorem L_M_goesOn_7 {l : Launch} {Γ : Gam} {g : Nat} {μ : Mem} {X_7_34 : Int → Prop} {k : Bool → Mem → Prop} (hs : StatR μ.2.2) (hX_7_34 : ∀ (u1 : Int), X_7_34 u1 → SW l Γ yX12_goesOn.cls cX12_goesOn Y_M_goesOn (pB k) g 175 0 0 μ 34 [(0, vr Γ 113), (1, vi u1)] []) (n9 : Nat) : ∀ (v1_1 : Int), l_M_goesOn_7 μ X_7_34 n9 v1_1 → SW l Γ yX12_goesOn.cls cX12_goesOn Y_M_goesOn (pB k) g 175 0 0 μ 7 [(0, vr Γ 113), (1, vi v1_1)] [] := by
  induction n9 with
  | zero =>
    intro v1_1 h
    exact h.elim
  | succ n9 hR_7 =>
    intro v1_1 h
    rw [l_M_goesOn_7] at h
    refine z_iload_n dX12_goesOn_7 rfl 1 rfl ?_
    refine z_if_lt (tgt := 34) dX12_goesOn_8 (by decide) h (fun h => ?_) (fun h => ?_)
    · refine z_sub (lv' := [(0, vr Γ 113), (1, vi v1_1)]) [0, 1] rfl ?_
      exact hX_7_34 v1_1 h
    · refine z_rload_n dX12_goesOn_11 rfl 0 rfl ?_
      refine z_getR (q := 15547) ff_12_83 dX12_goesOn_12 kt_113 (Nat.le_of_ble_eq_true rfl) fl_X12_188 rfl (hs.1 _ _ sr_15547) ?_
      refine z_iload_n dX12_goesOn_15 rfl 1 rfl ?_
      obtain ⟨h0, h1, h⟩ := h
      refine z_iald dX12_goesOn_16 kt_167 (Nat.le_of_ble_eq_true rfl) h0 h1 ?_
      refine z_rload_n dX12_goesOn_17 rfl 0 rfl ?_
      refine z_getR (q := 15547) ff_12_83 dX12_goesOn_18 kt_113 (Nat.le_of_ble_eq_true rfl) fl_X12_188 rfl (hs.1 _ _ sr_15547) ?_
      refine z_iload_n dX12_goesOn_21 rfl 1 rfl ?_
      refine z_iconst dX12_goesOn_22 ?_
      refine z_iadd dX12_goesOn_23 ?_
      obtain ⟨h0, h1, h⟩ := h
      refine z_iald dX12_goesOn_24 kt_167 (Nat.le_of_ble_eq_true rfl) h0 h1 ?_
      refine z_icmp_le (tgt := 34) dX12_goesOn_25 (by decide) h (fun h => ?_) (fun h => ?_)
      · refine z_iinc (j := 1) (lv' := [(1, vi (v1_1 + (-1))), (0, vr Γ 113)]) dX12_goesOn_28 rfl (Nat.le_of_ble_eq_true rfl) rfl ?_
        refine z_goto (tgt := 7) dX12_goesOn_31 (by decide) ?_
        refine z_sub (lv' := [(0, vr Γ 113), (1, vi (v1_1 + (-1)))]) [1, 0] rfl ?_
        exact hR_7 (v1_1 + (-1)) h
      · refine z_sub (lv' := [(0, vr Γ 113), (1, vi v1_1)]) [0, 1] rfl ?_
        exact hX_7_34 v1_1 h
theorem L_M_goesOn_47 {l : Launch} {Γ : Gam} {g : Nat} {μ : Mem} {v1_2 : Int} {X_47_68 : Int → Prop} {k : Bool → Mem → Prop} (hs : StatR μ.2.2) (hX_47_68 : ∀ (u2 : Int), X_47_68 u2 → SW l Γ yX12_goesOn.cls cX12_goesOn Y_M_goesOn (pB k) g 175 0 0 μ 68 [(0, vr Γ 113), (1, vi v1_2), (2, vi u2)] []) (n9 : Nat) : ∀ (v2_1 : Int), l_M_goesOn_47 μ v1_2 X_47_68 n9 v2_1 → SW l Γ yX12_goesOn.cls cX12_goesOn Y_M_goesOn (pB k) g 175 0 0 μ 47 [(0, vr Γ 113), (1, vi v1_2), (2, vi v2_1)] [] := by
  induction n9 with
  | zero =>
    intro v2_1 h
    exact h.elim
  | succ n9 hR_47 =>
    intro v2_1 h
    rw [l_M_goesOn_47] at h
    refine z_rload_n dX12_goesOn_47 rfl 0 rfl ?_
    refine z_getR (q := 15547) ff_12_83 dX12_goesOn_48 kt_113 (Nat.le_of_ble_eq_true rfl) fl_X12_188 rfl (hs.1 _ _ sr_15547) ?_
    refine z_iload_n dX12_goesOn_51 rfl 2 rfl ?_
    obtain ⟨h0, h1, h⟩ := h
    refine z_iald dX12_goesOn_52 kt_167 (Nat.le_of_ble_eq_true rfl) h0 h1 ?_
    refine z_rload_n dX12_goesOn_53 rfl 0 rfl ?_
    refine z_getR (q := 15547) ff_12_83 dX12_goesOn_54 kt_113 (Nat.le_of_ble_eq_true rfl) fl_X12_188 rfl (hs.1 _ _ sr_15547) ?_
    refine z_iload_n dX12_goesOn_57 rfl 1 rfl ?_
    obtain ⟨h0, h1, h⟩ := h
    refine z_iald dX12_goesOn_58 kt_167 (Nat.le_of_ble_eq_true rfl) h0 h1 ?_
    refine z_icmp_ge (tgt := 68) dX12_goesOn_59 (by decide) h (fun h => ?_) (fun h => ?_)
    · refine z_iinc (j := 2) (lv' := [(2, vi (v2_1 + (-1))), (0, vr Γ 113), (1, vi v1_2)]) dX12_goesOn_62 rfl (Nat.le_of_ble_eq_true rfl) rfl ?_
      refine z_goto (tgt := 47) dX12_goesOn_65 (by decide) ?_
      refine z_sub (lv' := [(0, vr Γ 113), (1, vi v1_2), (2, vi (v2_1 + (-1)))]) [1, 2, 0] rfl ?_
      exact hR_47 (v2_1 + (-1)) h
    · refine z_sub (lv' := [(0, vr Γ 113), (1, vi v1_2), (2, vi v2_1)]) [0, 1, 2] rfl ?_
      exact hX_47_68 v2_1 h
theorem L_M_goesOn_86 {l : Launch} {Γ : Gam} {g : Nat} {X_86_108 : Mem → Prop} {k : Bool → Mem → Prop} (hX_86_108 : ∀ (ν : Mem), StatR ν.2.2 → X_86_108 ν → SW l Γ yX12_goesOn.cls cX12_goesOn Y_M_goesOn (pB k) g 175 0 0 ν 108 [] []) (n9 : Nat) : ∀ (v3 : Int) (v4_1 : Int) (μ_2 : Mem), StatR μ_2.2.2 → l_M_goesOn_86 X_86_108 n9 v3 v4_1 μ_2 → SW l Γ yX12_goesOn.cls cX12_goesOn Y_M_goesOn (pB k) g 175 0 0 μ_2 86 [(0, vr Γ 113), (3, vi v3), (4, vi v4_1)] [] := by
  induction n9 with
  | zero =>
    intro v3 v4_1 μ_2 hs h
    exact h.elim
  | succ n9 hR_86 =>
    intro v3 v4_1 μ_2 hs h
    rw [l_M_goesOn_86] at h
    refine z_iload_n dX12_goesOn_86 rfl 1 rfl ?_
    refine z_iload dX12_goesOn_87 2 rfl ?_
    refine z_icmp_ge (tgt := 108) dX12_goesOn_89 (by decide) h (fun h => ?_) (fun h => ?_)
    · refine z_rload_n dX12_goesOn_92 rfl 0 rfl ?_
      refine z_iload_n dX12_goesOn_93 rfl 1 rfl ?_
      refine z_iload dX12_goesOn_94 2 rfl ?_
      refine z_VU (i_M_swaps  hs h) vk_X12_swaps kt_113 (Nat.le_of_ble_eq_true rfl) rfl ml_X12_601 ⟨Nat.le_of_ble_eq_true rfl, Nat.le_of_ble_eq_true rfl⟩ ⟨Nat.zero_le _, Nat.zero_le _⟩ rfl rfl (Nat.le_of_ble_eq_true rfl) dX12_goesOn_96 (fun μ_3 hs h => ?_)
      refine z_iinc (j := 1) (lv' := [(3, vi (v3 + 1)), (0, vr Γ 113), (4, vi v4_1)]) dX12_goesOn_99 rfl (Nat.le_of_ble_eq_true rfl) rfl ?_
      refine z_iinc (j := 2) (lv' := [(4, vi (v4_1 + (-1))), (3, vi (v3 + 1)), (0, vr Γ 113)]) dX12_goesOn_102 rfl (Nat.le_of_ble_eq_true rfl) rfl ?_
      refine z_goto (tgt := 86) dX12_goesOn_105 (by decide) ?_
      refine z_sub (lv' := [(0, vr Γ 113), (3, vi (v3 + 1)), (4, vi (v4_1 + (-1)))]) [2, 1, 0] rfl ?_
      exact hR_86 (v3 + 1) (v4_1 + (-1)) μ_3 hs h
    · refine z_sub (lv' := []) [] rfl ?_
      exact hX_86_108 μ_2 hs h
theorem i_M_goesOn {l : Launch} {Γ : Gam} {g : Nat} {μ : Mem} {k : Bool → Mem → Prop} (hs : StatR μ.2.2) (h : f_M_goesOn  μ k) : CT l Γ yX12_goesOn cX12_goesOn 5 (some .boolean) 1 23 0 0 [vr Γ 113] g 175 μ (pB k) := by
  refine SW.ct (by decide) (Nat.le_of_ble_eq_true rfl) ?_
  refine z_sub (lv' := [(0, vr Γ 113)]) [0] rfl ?_
  show SW l Γ yX12_goesOn.cls cX12_goesOn Y_M_goesOn (pB k) g 175 0 0 μ 0 [(0, vr Γ 113)] []
  unfold f_M_goesOn at h
  refine z_rload_n dX12_goesOn_0 rfl 0 rfl ?_
  refine z_getI (q := 15545) ff_12_81 dX12_goesOn_1 kt_113 (Nat.le_of_ble_eq_true rfl) fl_X12_576 rfl ?_
  refine z_iconst dX12_goesOn_4 ?_
  refine z_isub dX12_goesOn_5 ?_
  refine z_nm (fun v1 ev1 => ?_)
  replace h := h v1 ev1
  refine z_istore_n (lv' := [(1, vi v1), (0, vr Γ 113)]) dX12_goesOn_6 rfl (Nat.le_of_ble_eq_true rfl) rfl ?_
  obtain ⟨m7, h⟩ := h
  refine z_sub (lv' := [(0, vr Γ 113), (1, vi v1)]) [1, 0] rfl ?_
  refine L_M_goesOn_7 hs (fun v1_2 h => ?_) m7 v1 h
  refine z_iload_n dX12_goesOn_34 rfl 1 rfl ?_
  refine z_if_ge (tgt := 40) dX12_goesOn_35 (by decide) h (fun h => ?_) (fun h => ?_)
  · refine z_iconst dX12_goesOn_38 ?_
    exact z_zret (b := false) rfl dX12_goesOn_39 rfl rfl rfl ⟨_, rfl, hs, h⟩
  · refine z_rload_n dX12_goesOn_40 rfl 0 rfl ?_
    refine z_getI (q := 15545) ff_12_81 dX12_goesOn_41 kt_113 (Nat.le_of_ble_eq_true rfl) fl_X12_576 rfl ?_
    refine z_iconst dX12_goesOn_44 ?_
    refine z_isub dX12_goesOn_45 ?_
    refine z_nm (fun v2 ev2 => ?_)
    replace h := h v2 ev2
    refine z_istore_n (lv' := [(2, vi v2), (0, vr Γ 113), (1, vi v1_2)]) dX12_goesOn_46 rfl (Nat.le_of_ble_eq_true rfl) rfl ?_
    obtain ⟨m47, h⟩ := h
    refine z_sub (lv' := [(0, vr Γ 113), (1, vi v1_2), (2, vi v2)]) [1, 2, 0] rfl ?_
    refine L_M_goesOn_47 hs (fun v2_2 h => ?_) m47 v2 h
    refine z_rload_n dX12_goesOn_68 rfl 0 rfl ?_
    refine z_iload_n dX12_goesOn_69 rfl 1 rfl ?_
    refine z_iload_n dX12_goesOn_70 rfl 2 rfl ?_
    refine z_VU (i_M_swaps  hs h) vk_X12_swaps kt_113 (Nat.le_of_ble_eq_true rfl) rfl ml_X12_601 ⟨Nat.le_of_ble_eq_true rfl, Nat.le_of_ble_eq_true rfl⟩ ⟨Nat.zero_le _, Nat.zero_le _⟩ rfl rfl (Nat.le_of_ble_eq_true rfl) dX12_goesOn_71 (fun μ_1 hs h => ?_)
    refine z_iload_n dX12_goesOn_74 rfl 1 rfl ?_
    refine z_iconst dX12_goesOn_75 ?_
    refine z_iadd dX12_goesOn_76 ?_
    refine z_istore_n (lv' := [(3, vi (v1_2 + 1)), (0, vr Γ 113), (1, vi v1_2), (2, vi v2_2)]) dX12_goesOn_77 rfl (Nat.le_of_ble_eq_true rfl) rfl ?_
    refine z_rload_n dX12_goesOn_78 rfl 1 rfl ?_
    refine z_getI (q := 15545) ff_12_81 dX12_goesOn_79 kt_113 (Nat.le_of_ble_eq_true rfl) fl_X12_576 rfl ?_
    refine z_iconst dX12_goesOn_82 ?_
    refine z_isub dX12_goesOn_83 ?_
    refine z_nm (fun v4 ev4 => ?_)
    replace h := h v4 ev4
    refine z_istore (lv' := [(4, vi v4), (3, vi (v1_2 + 1)), (0, vr Γ 113), (1, vi v1_2), (2, vi v2_2)]) dX12_goesOn_84 (Nat.le_of_ble_eq_true rfl) rfl ?_
    obtain ⟨m86, h⟩ := h
    refine z_sub (lv' := [(0, vr Γ 113), (3, vi (v1_2 + 1)), (4, vi v4)]) [2, 1, 0] rfl ?_
    refine L_M_goesOn_86 (fun μ_4 hs h => ?_) m86 (v1_2 + 1) v4 μ_1 hs h
    refine z_iconst dX12_goesOn_108 ?_
    exact z_zret (b := true) rfl dX12_goesOn_109 rfl rfl rfl ⟨_, rfl, hs, h⟩
