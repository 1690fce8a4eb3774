abbrev Y_OrdR_piece (d : Nat) : Yt := (4, (some .boolean), yX5_piece.name, { frames := 10 * (d + 1) + 10, cells := 0, slots := 0, locals := 60 * (d + 1) + 300 }, 174, 0, 0)
def l_OrdR_piece_4 (a1 : Int) (X_4_46 : Int → Mem → Prop) : Nat → Int → Int → Mem → Prop
  | 0, _, _, _ => False
  | fu4 + 1, v2, v3, μ_1 => if w v3 < w 300 then (f_Tape_isWord 10 μ_1 (fun r17 μ_2 => if r17 = true then (f_Tape_next  μ_2 (fun μ_3 => ∀ x39 : Bool, x39 = (if w v2 = 0 then true else false) → (l_OrdR_piece_4 a1 X_4_46 fu4) (b2i x39) (v3 + 1) μ_3)) else (X_4_46 v2 μ_2))) else (X_4_46 v2 μ_1)
def f_OrdR_piece (rec : Nat → Int → Mem → (Bool → Mem → Prop) → Prop) (a1 : Int) (μ : Mem) (k : Bool → Mem → Prop) : Prop := ∃ m4 : Nat, l_OrdR_piece_4 a1 (fun (v2_1 : Int) (μ_4 : Mem) => if (v_Tape_isSign 91 μ_4) = true then (rec 3 a1 μ_4 (fun r60 μ_5 => if w v2_1 = 0 then (k r60 μ_5) else (∃ r77 : Nat, rR μ_5 9065 0 = some r77 ∧ isRu r77 = true ∧ f_Rules_addStep r77 11 0 μ_5 (fun μ_6 => k r60 μ_6)))) else (rec 4 a1 μ_4 (fun r68 μ_7 => if w v2_1 = 0 then (k r68 μ_7) else (∃ r77_1 : Nat, rR μ_7 9065 0 = some r77_1 ∧ isRu r77_1 = true ∧ f_Rules_addStep r77_1 11 0 μ_7 (fun μ_8 => k r68 μ_8))))) m4 0 0 μ
theorem L_OrdR_piece_4 {l : Launch} {Γ : Gam} {g : Nat} {a1 : Int} {X_4_46 : Int → Mem → Prop} {k : Bool → Mem → Prop} {d : Nat} (hX_4_46 : ∀ (u2 : Int) (ν : Mem), StatR ν.2.2 → X_4_46 u2 ν → SW l Γ yX5_piece.cls cX5_piece (Y_OrdR_piece d) (pB k) g 174 0 0 ν 46 [(0, vr Γ 63), (1, vi a1), (2, vi u2)] []) (n9 : Nat) : ∀ (v2 : Int) (v3 : Int) (μ_1 : Mem), StatR μ_1.2.2 → l_OrdR_piece_4 a1 X_4_46 n9 v2 v3 μ_1 → SW l Γ yX5_piece.cls cX5_piece (Y_OrdR_piece d) (pB k) g 174 0 0 μ_1 4 [(0, vr Γ 63), (1, vi a1), (2, vi v2), (3, vi v3)] [] := by
  induction n9 with
  | zero =>
    intro v2 v3 μ_1 hs h
    exact h.elim
  | succ n9 hR_4 =>
    intro v2 v3 μ_1 hs h
    rw [l_OrdR_piece_4] at h
    refine z_iload_n dX5_piece_4 rfl 3 rfl ?_
    refine z_sipush dX5_piece_5 (by decide) ?_
    refine z_icmp_ge (tgt := 46) dX5_piece_8 (by decide) h (fun h => ?_) (fun h => ?_)
    · refine z_rload_n dX5_piece_11 rfl 0 rfl ?_
      refine z_getR (q := 9064) ff_5_0 dX5_piece_12 kt_63 (Nat.le_of_ble_eq_true rfl) fl_X5_9 rfl (hs.1 _ _ sr_9064) ?_
      refine z_ldcS dX5_piece_15 st_X5_130 ?_
      refine z_VB (i_Tape_isWord (Nat.le_of_ble_eq_true rfl) hs h) vk_X9_isWord kt_10 (Nat.le_of_ble_eq_true rfl) rfl ml_X5_77 (rm_O (by decide)) ⟨Nat.zero_le _, Nat.zero_le _⟩ rfl rfl (Nat.le_of_ble_eq_true rfl) dX5_piece_17 (fun r17 μ_2 hs h => ?_)
      refine z_ifeq_b (tgt := 46) dX5_piece_20 (by decide) h (fun h => ?_) (fun h => ?_)
      · refine z_rload_n dX5_piece_23 rfl 0 rfl ?_
        refine z_getR (q := 9064) ff_5_0 dX5_piece_24 kt_63 (Nat.le_of_ble_eq_true rfl) fl_X5_9 rfl (hs.1 _ _ sr_9064) ?_
        refine z_VU (i_Tape_next  hs h) vk_X9_next kt_10 (Nat.le_of_ble_eq_true rfl) rfl ml_X5_44 (rm_O (by decide)) ⟨Nat.zero_le _, Nat.zero_le _⟩ rfl rfl (Nat.le_of_ble_eq_true rfl) dX5_piece_27 (fun μ_3 hs h => ?_)
        refine z_iload_n dX5_piece_30 rfl 2 rfl ?_
        refine z_phiB 39 [] (fun V9 hv J9 => ?_) h (fun x39 h => ?_)
        · refine z_if_ne (tgt := 38) dX5_piece_31 (by decide) (eq_ite hv) (fun hv => ?_) (fun hv => ?_)
          · refine z_iconst dX5_piece_34 ?_
            refine z_goto (tgt := 39) dX5_piece_35 (by decide) ?_
            exact J9 true hv.symm
          · refine z_iconst dX5_piece_38 ?_
            exact J9 false hv.symm
        · refine z_istore_n (lv' := [(2, vi (b2i x39)), (0, vr Γ 63), (1, vi a1), (3, vi v3)]) dX5_piece_39 rfl (Nat.le_of_ble_eq_true rfl) rfl ?_
          refine z_iinc (j := 3) (lv' := [(3, vi (v3 + 1)), (2, vi (b2i x39)), (0, vr Γ 63), (1, vi a1)]) dX5_piece_40 rfl (Nat.le_of_ble_eq_true rfl) rfl ?_
          refine z_goto (tgt := 4) dX5_piece_43 (by decide) ?_
          refine z_sub (lv' := [(0, vr Γ 63), (1, vi a1), (2, vi (b2i x39)), (3, vi (v3 + 1))]) [2, 3, 1, 0] rfl ?_
          exact hR_4 (b2i x39) (v3 + 1) μ_3 hs h
      · refine z_sub (lv' := [(0, vr Γ 63), (1, vi a1), (2, vi v2)]) [0, 1, 2] rfl ?_
        exact hX_4_46 v2 μ_2 hs h
    · refine z_sub (lv' := [(0, vr Γ 63), (1, vi a1), (2, vi v2)]) [0, 1, 2] rfl ?_
      exact hX_4_46 v2 μ_1 hs h
theorem i_OrdR_piece {l : Launch} {Γ : Gam} {g : Nat} {a1 : Int} {μ : Mem} {d : Nat} {rec : Nat → Int → Mem → (Bool → Mem → Prop) → Prop} {k : Bool → Mem → Prop} (H : H_O l Γ g rec d) (hs : StatR μ.2.2) (h : f_OrdR_piece rec a1 μ k) : CT l Γ yX5_piece cX5_piece 4 (some .boolean) (10 * (d + 1) + 10) (60 * (d + 1) + 300) 0 0 [vr Γ 63, vi a1] g 174 μ (pB k) := by
  refine SW.ct (by decide) (Nat.le_of_ble_eq_true rfl) ?_
  refine z_sub (lv' := [(0, vr Γ 63), (1, vi a1)]) [0, 1] rfl ?_
  show SW l Γ yX5_piece.cls cX5_piece (Y_OrdR_piece d) (pB k) g 174 0 0 μ 0 [(0, vr Γ 63), (1, vi a1)] []
  unfold f_OrdR_piece at h
  refine z_iconst dX5_piece_0 ?_
  refine z_istore_n (lv' := [(2, vi 0), (0, vr Γ 63), (1, vi a1)]) dX5_piece_1 rfl (Nat.le_of_ble_eq_true rfl) rfl ?_
  refine z_iconst dX5_piece_2 ?_
  refine z_istore_n (lv' := [(3, vi 0), (2, vi 0), (0, vr Γ 63), (1, vi a1)]) dX5_piece_3 rfl (Nat.le_of_ble_eq_true rfl) rfl ?_
  obtain ⟨m4, h⟩ := h
  refine z_sub (lv' := [(0, vr Γ 63), (1, vi a1), (2, vi 0), (3, vi 0)]) [2, 3, 1, 0] rfl ?_
  refine L_OrdR_piece_4 (fun v2_1 μ_4 hs h => ?_) m4 0 0 μ hs h
  refine z_rload_n dX5_piece_46 rfl 0 rfl ?_
  refine z_getR (q := 9064) ff_5_0 dX5_piece_47 kt_63 (Nat.le_of_ble_eq_true rfl) fl_X5_9 rfl (hs.1 _ _ sr_9064) ?_
  refine z_bipush dX5_piece_50 (by decide) ?_
  refine z_VE (i_Tape_isSign ) vk_X9_isSign kt_10 (Nat.le_of_ble_eq_true rfl) rfl ml_X5_132 (rm_O (by decide)) ⟨Nat.zero_le _, Nat.zero_le _⟩ rfl rfl (Nat.le_of_ble_eq_true rfl) dX5_piece_52 ?_
  refine z_ifeq_b (tgt := 66) dX5_piece_55 (by decide) h (fun h => ?_) (fun h => ?_)
  · refine z_rload_n dX5_piece_58 rfl 0 rfl ?_
    refine z_iload_n dX5_piece_59 rfl 1 rfl ?_
    refine z_VB ((H _ _ _ hs).2.2.2.1 h) vk_X5_square kt_63 (Nat.le_of_ble_eq_true rfl) rfl ml_X5_135 (rm_OR (by decide)) ⟨Nat.zero_le _, Nat.zero_le _⟩ rfl rfl (Nat.le_of_ble_eq_true rfl) dX5_piece_60 (fun r60 μ_5 hs h => ?_)
    refine z_goto (tgt := 71) dX5_piece_63 (by decide) ?_
    refine z_istore_n (lv' := [(3, vi (b2i r60)), (0, vr Γ 63), (1, vi a1), (2, vi v2_1)]) dX5_piece_71 rfl (Nat.le_of_ble_eq_true rfl) rfl ?_
    refine z_iload_n dX5_piece_72 rfl 3 rfl ?_
    refine z_if_eq (tgt := 86) dX5_piece_73 (by decide) h (fun h => ?_) (fun h => ?_)
    · refine z_iload_n dX5_piece_86 rfl 0 rfl ?_
      exact z_zret (b := r60) rfl dX5_piece_87 rfl rfl rfl ⟨_, rfl, hs, h⟩
    · refine z_rload_n dX5_piece_76 rfl 1 rfl ?_
      obtain ⟨r77, h9, hr_r77, h⟩ := h
      refine z_getR (q := 9065) ff_5_1 dX5_piece_77 kt_63 (Nat.le_of_ble_eq_true rfl) fl_X5_15 rfl h9 ?_
      refine z_bipush dX5_piece_80 (by decide) ?_
      refine z_iconst dX5_piece_82 ?_
      refine z_VU (i_Rules_addStep hr_r77 hs h) vk_X8_addStep (ru_k hr_r77) (ru_l hr_r77) rfl ml_X5_121 (rm_O (by decide)) ⟨Nat.zero_le _, Nat.zero_le _⟩ rfl rfl (Nat.le_of_ble_eq_true rfl) dX5_piece_83 (fun μ_6 hs h => ?_)
      refine z_iload_n dX5_piece_86 rfl 0 rfl ?_
      exact z_zret (b := r60) rfl dX5_piece_87 rfl rfl rfl ⟨_, rfl, hs, h⟩
  · refine z_rload_n dX5_piece_66 rfl 0 rfl ?_
    refine z_iload_n dX5_piece_67 rfl 1 rfl ?_
    refine z_VB ((H _ _ _ hs).2.2.2.2.1 h) vk_X5_comparison kt_63 (Nat.le_of_ble_eq_true rfl) rfl ml_X5_138 (rm_OR (by decide)) ⟨Nat.zero_le _, Nat.zero_le _⟩ rfl rfl (Nat.le_of_ble_eq_true rfl) dX5_piece_68 (fun r68 μ_7 hs h => ?_)
    refine z_istore_n (lv' := [(3, vi (b2i r68)), (0, vr Γ 63), (1, vi a1), (2, vi v2_1)]) dX5_piece_71 rfl (Nat.le_of_ble_eq_true rfl) rfl ?_
    refine z_iload_n dX5_piece_72 rfl 3 rfl ?_
    refine z_if_eq (tgt := 86) dX5_piece_73 (by decide) h (fun h => ?_) (fun h => ?_)
    · refine z_iload_n dX5_piece_86 rfl 0 rfl ?_
      exact z_zret (b := r68) rfl dX5_piece_87 rfl rfl rfl ⟨_, rfl, hs, h⟩
    · refine z_rload_n dX5_piece_76 rfl 1 rfl ?_
      obtain ⟨r77_1, h9, hr_r77_1, h⟩ := h
      refine z_getR (q := 9065) ff_5_1 dX5_piece_77 kt_63 (Nat.le_of_ble_eq_true rfl) fl_X5_15 rfl h9 ?_
      refine z_bipush dX5_piece_80 (by decide) ?_
      refine z_iconst dX5_piece_82 ?_
      refine z_VU (i_Rules_addStep hr_r77_1 hs h) vk_X8_addStep (ru_k hr_r77_1) (ru_l hr_r77_1) rfl ml_X5_121 (rm_O (by decide)) ⟨Nat.zero_le _, Nat.zero_le _⟩ rfl rfl (Nat.le_of_ble_eq_true rfl) dX5_piece_83 (fun μ_8 hs h => ?_)
      refine z_iload_n dX5_piece_86 rfl 0 rfl ?_
      exact z_zret (b := r68) rfl dX5_piece_87 rfl rfl rfl ⟨_, rfl, hs, h⟩
abbrev Y_OrdR_square (d : Nat) : Yt := (2, (some .boolean), yX5_square.name, { frames := 10 * (d + 1) + 10, cells := 0, slots := 0, locals := 60 * (d + 1) + 300 }, 174, 0, 0)
def f_OrdR_square (rec : Nat → Int → Mem → (Bool → Mem → Prop) → Prop) (a1 : Int) (μ : Mem) (k : Bool → Mem → Prop) : Prop := if w a1 < w 4 then (f_Tape_next  μ (fun μ_1 => rec 0 (a1 + 1) μ_1 (fun r25 μ_2 => if r25 = true then (f_Tape_skipSign 93 μ_2 (fun r37 μ_3 => ∀ x48 : Bool, x48 = (if r37 = true then true else false) → k x48 μ_3)) else (k false μ_2)))) else (f_Tape_fail 4 μ (fun r10 μ_4 => k r10 μ_4))
theorem i_OrdR_square {l : Launch} {Γ : Gam} {g : Nat} {a1 : Int} {μ : Mem} {d : Nat} {rec : Nat → Int → Mem → (Bool → Mem → Prop) → Prop} {k : Bool → Mem → Prop} (H : H_O l Γ g rec d) (hs : StatR μ.2.2) (h : f_OrdR_square rec a1 μ k) : CT l Γ yX5_square cX5_square 2 (some .boolean) (10 * (d + 1) + 10) (60 * (d + 1) + 300) 0 0 [vr Γ 63, vi a1] g 174 μ (pB k) := by
  refine SW.ct (by decide) (Nat.le_of_ble_eq_true rfl) ?_
  refine z_sub (lv' := [(0, vr Γ 63), (1, vi a1)]) [0, 1] rfl ?_
  show SW l Γ yX5_square.cls cX5_square (Y_OrdR_square d) (pB k) g 174 0 0 μ 0 [(0, vr Γ 63), (1, vi a1)] []
  unfold f_OrdR_square at h
  refine z_iload_n dX5_square_0 rfl 1 rfl ?_
  refine z_iconst dX5_square_1 ?_
  refine z_icmp_lt (tgt := 14) dX5_square_2 (by decide) h (fun h => ?_) (fun h => ?_)
  · refine z_rload_n dX5_square_14 rfl 0 rfl ?_
    refine z_getR (q := 9064) ff_5_0 dX5_square_15 kt_63 (Nat.le_of_ble_eq_true rfl) fl_X5_9 rfl (hs.1 _ _ sr_9064) ?_
    refine z_VU (i_Tape_next  hs h) vk_X9_next kt_10 (Nat.le_of_ble_eq_true rfl) rfl ml_X5_44 (rm_O (by decide)) ⟨Nat.zero_le _, Nat.zero_le _⟩ rfl rfl (Nat.le_of_ble_eq_true rfl) dX5_square_18 (fun μ_1 hs h => ?_)
    refine z_rload_n dX5_square_21 rfl 0 rfl ?_
    refine z_iload_n dX5_square_22 rfl 1 rfl ?_
    refine z_iconst dX5_square_23 ?_
    refine z_iadd dX5_square_24 ?_
    refine z_VB ((H _ _ _ hs).1 h) vk_X5_either kt_63 (Nat.le_of_ble_eq_true rfl) rfl ml_X5_107 (rm_OR (by decide)) ⟨Nat.zero_le _, Nat.zero_le _⟩ rfl rfl (Nat.le_of_ble_eq_true rfl) dX5_square_25 (fun r25 μ_2 hs h => ?_)
    refine z_ifeq_b (tgt := 47) dX5_square_28 (by decide) h (fun h => ?_) (fun h => ?_)
    · refine z_rload_n dX5_square_31 rfl 0 rfl ?_
      refine z_getR (q := 9064) ff_5_0 dX5_square_32 kt_63 (Nat.le_of_ble_eq_true rfl) fl_X5_9 rfl (hs.1 _ _ sr_9064) ?_
      refine z_bipush dX5_square_35 (by decide) ?_
      refine z_VB (i_Tape_skipSign  hs h) vk_X9_skipSign kt_10 (Nat.le_of_ble_eq_true rfl) rfl ml_X5_71 (rm_O (by decide)) ⟨Nat.zero_le _, Nat.zero_le _⟩ rfl rfl (Nat.le_of_ble_eq_true rfl) dX5_square_37 (fun r37 μ_3 hs h => ?_)
      refine z_phiB 48 [] (fun V9 hv J9 => ?_) h (fun x48 h => ?_)
      · refine z_ifeq_b (tgt := 47) dX5_square_40 (by decide) (eq_ite hv) (fun hv => ?_) (fun hv => ?_)
        · refine z_iconst dX5_square_43 ?_
          refine z_goto (tgt := 48) dX5_square_44 (by decide) ?_
          exact J9 true hv.symm
        · refine z_iconst dX5_square_47 ?_
          exact J9 false hv.symm
      · exact z_zret (b := x48) rfl dX5_square_48 rfl rfl rfl ⟨_, rfl, hs, h⟩
    · refine z_iconst dX5_square_47 ?_
      exact z_zret (b := false) rfl dX5_square_48 rfl rfl rfl ⟨_, rfl, hs, h⟩
  · refine z_rload_n dX5_square_5 rfl 0 rfl ?_
    refine z_getR (q := 9064) ff_5_0 dX5_square_6 kt_63 (Nat.le_of_ble_eq_true rfl) fl_X5_9 rfl (hs.1 _ _ sr_9064) ?_
    refine z_iconst dX5_square_9 ?_
    refine z_VB (i_Tape_fail  hs h) vk_X9_fail kt_10 (Nat.le_of_ble_eq_true rfl) rfl ml_X5_41 (rm_O (by decide)) ⟨Nat.zero_le _, Nat.zero_le _⟩ rfl rfl (Nat.le_of_ble_eq_true rfl) dX5_square_10 (fun r10 μ_4 hs h => ?_)
    exact z_zret (b := r10) rfl dX5_square_13 rfl rfl rfl ⟨_, rfl, hs, h⟩
abbrev Y_OrdR_comparison (d : Nat) : Yt := (4, (some .boolean), yX5_comparison.name, { frames := 10 * (d + 1) + 10, cells := 0, slots := 0, locals := 60 * (d + 1) + 300 }, 174, 0, 0)
def f_OrdR_comparison (rec : Nat → Int → Mem → (Bool → Mem → Prop) → Prop) (a1 : Int) (μ : Mem) (k : Bool → Mem → Prop) : Prop := rec 5 a1 μ (fun r2 μ_1 => if r2 = true then (∀ x62 : Int, x62 = (if (v_Tape_isSign 60 μ_1) = true then 6 else (if (v_Tape_isSign 62 μ_1) = true then 7 else (if (v_Tape_isSign 61 μ_1) = true then 8 else (-1)))) → if w x62 = w (-1) then (f_Tape_fail 1 μ_1 (fun r73 μ_2 => k r73 μ_2)) else (f_Tape_next  μ_1 (fun μ_3 => rec 5 a1 μ_3 (fun r86 μ_4 => ∃ r91 : Nat, rR μ_4 9065 0 = some r91 ∧ isRu r91 = true ∧ f_Rules_addStep r91 x62 0 μ_4 (fun μ_5 => k r86 μ_5))))) else (k false μ_1))
theorem i_OrdR_comparison {l : Launch} {Γ : Gam} {g : Nat} {a1 : Int} {μ : Mem} {d : Nat} {rec : Nat → Int → Mem → (Bool → Mem → Prop) → Prop} {k : Bool → Mem → Prop} (H : H_O l Γ g rec d) (hs : StatR μ.2.2) (h : f_OrdR_comparison rec a1 μ k) : CT l Γ yX5_comparison cX5_comparison 4 (some .boolean) (10 * (d + 1) + 10) (60 * (d + 1) + 300) 0 0 [vr Γ 63, vi a1] g 174 μ (pB k) := by
  refine SW.ct (by decide) (Nat.le_of_ble_eq_true rfl) ?_
  refine z_sub (lv' := [(0, vr Γ 63), (1, vi a1)]) [0, 1] rfl ?_
  show SW l Γ yX5_comparison.cls cX5_comparison (Y_OrdR_comparison d) (pB k) g 174 0 0 μ 0 [(0, vr Γ 63), (1, vi a1)] []
  unfold f_OrdR_comparison at h
  refine z_rload_n dX5_comparison_0 rfl 0 rfl ?_
  refine z_iload_n dX5_comparison_1 rfl 1 rfl ?_
  refine z_VB ((H _ _ _ hs).2.2.2.2.2.1 h) vk_X5_sum kt_63 (Nat.le_of_ble_eq_true rfl) rfl ml_X5_113 (rm_OR (by decide)) ⟨Nat.zero_le _, Nat.zero_le _⟩ rfl rfl (Nat.le_of_ble_eq_true rfl) dX5_comparison_2 (fun r2 μ_1 hs h => ?_)
  refine z_ifne_b (tgt := 10) dX5_comparison_5 (by decide) h (fun h => ?_) (fun h => ?_)
  · refine z_rload_n dX5_comparison_10 rfl 0 rfl ?_
    refine z_getR (q := 9064) ff_5_0 dX5_comparison_11 kt_63 (Nat.le_of_ble_eq_true rfl) fl_X5_9 rfl (hs.1 _ _ sr_9064) ?_
    refine z_bipush dX5_comparison_14 (by decide) ?_
    refine z_VE (i_Tape_isSign ) vk_X9_isSign kt_10 (Nat.le_of_ble_eq_true rfl) rfl ml_X5_132 (rm_O (by decide)) ⟨Nat.zero_le _, Nat.zero_le _⟩ rfl rfl (Nat.le_of_ble_eq_true rfl) dX5_comparison_16 ?_
    refine z_phi 62 [] (fun V9 hv J9 => ?_) h (fun x62 h => ?_)
    · refine z_ifeq_b (tgt := 27) dX5_comparison_19 (by decide) (eq_ite hv) (fun hv => ?_) (fun hv => ?_)
      · refine z_bipush dX5_comparison_22 (by decide) ?_
        refine z_goto (tgt := 62) dX5_comparison_24 (by decide) ?_
        exact J9 _ hv.symm
      · refine z_rload_n dX5_comparison_27 rfl 0 rfl ?_
        refine z_getR (q := 9064) ff_5_0 dX5_comparison_28 kt_63 (Nat.le_of_ble_eq_true rfl) fl_X5_9 rfl (hs.1 _ _ sr_9064) ?_
        refine z_bipush dX5_comparison_31 (by decide) ?_
        refine z_VE (i_Tape_isSign ) vk_X9_isSign kt_10 (Nat.le_of_ble_eq_true rfl) rfl ml_X5_132 (rm_O (by decide)) ⟨Nat.zero_le _, Nat.zero_le _⟩ rfl rfl (Nat.le_of_ble_eq_true rfl) dX5_comparison_33 ?_
        refine z_ifeq_b (tgt := 44) dX5_comparison_36 (by decide) (eq_ite hv) (fun hv => ?_) (fun hv => ?_)
        · refine z_bipush dX5_comparison_39 (by decide) ?_
          refine z_goto (tgt := 62) dX5_comparison_41 (by decide) ?_
          exact J9 _ hv.symm
        · refine z_rload_n dX5_comparison_44 rfl 0 rfl ?_
          refine z_getR (q := 9064) ff_5_0 dX5_comparison_45 kt_63 (Nat.le_of_ble_eq_true rfl) fl_X5_9 rfl (hs.1 _ _ sr_9064) ?_
          refine z_bipush dX5_comparison_48 (by decide) ?_
          refine z_VE (i_Tape_isSign ) vk_X9_isSign kt_10 (Nat.le_of_ble_eq_true rfl) rfl ml_X5_132 (rm_O (by decide)) ⟨Nat.zero_le _, Nat.zero_le _⟩ rfl rfl (Nat.le_of_ble_eq_true rfl) dX5_comparison_50 ?_
          refine z_ifeq_b (tgt := 61) dX5_comparison_53 (by decide) (eq_ite hv) (fun hv => ?_) (fun hv => ?_)
          · refine z_bipush dX5_comparison_56 (by decide) ?_
            refine z_goto (tgt := 62) dX5_comparison_58 (by decide) ?_
            exact J9 _ hv.symm
          · refine z_iconst dX5_comparison_61 ?_
            exact J9 _ hv.symm
    · refine z_istore_n (lv' := [(2, vi x62), (0, vr Γ 63), (1, vi a1)]) dX5_comparison_62 rfl (Nat.le_of_ble_eq_true rfl) rfl ?_
      refine z_iload_n dX5_comparison_63 rfl 0 rfl ?_
      refine z_iconst dX5_comparison_64 ?_
      refine z_icmp_ne (tgt := 77) dX5_comparison_65 (by decide) h (fun h => ?_) (fun h => ?_)
      · refine z_rload_n dX5_comparison_68 rfl 1 rfl ?_
        refine z_getR (q := 9064) ff_5_0 dX5_comparison_69 kt_63 (Nat.le_of_ble_eq_true rfl) fl_X5_9 rfl (hs.1 _ _ sr_9064) ?_
        refine z_iconst dX5_comparison_72 ?_
        refine z_VB (i_Tape_fail  hs h) vk_X9_fail kt_10 (Nat.le_of_ble_eq_true rfl) rfl ml_X5_41 (rm_O (by decide)) ⟨Nat.zero_le _, Nat.zero_le _⟩ rfl rfl (Nat.le_of_ble_eq_true rfl) dX5_comparison_73 (fun r73 μ_2 hs h => ?_)
        exact z_zret (b := r73) rfl dX5_comparison_76 rfl rfl rfl ⟨_, rfl, hs, h⟩
      · refine z_rload_n dX5_comparison_77 rfl 1 rfl ?_
        refine z_getR (q := 9064) ff_5_0 dX5_comparison_78 kt_63 (Nat.le_of_ble_eq_true rfl) fl_X5_9 rfl (hs.1 _ _ sr_9064) ?_
        refine z_VU (i_Tape_next  hs h) vk_X9_next kt_10 (Nat.le_of_ble_eq_true rfl) rfl ml_X5_44 (rm_O (by decide)) ⟨Nat.zero_le _, Nat.zero_le _⟩ rfl rfl (Nat.le_of_ble_eq_true rfl) dX5_comparison_81 (fun μ_3 hs h => ?_)
        refine z_rload_n dX5_comparison_84 rfl 1 rfl ?_
        refine z_iload_n dX5_comparison_85 rfl 2 rfl ?_
        refine z_VB ((H _ _ _ hs).2.2.2.2.2.1 h) vk_X5_sum kt_63 (Nat.le_of_ble_eq_true rfl) rfl ml_X5_113 (rm_OR (by decide)) ⟨Nat.zero_le _, Nat.zero_le _⟩ rfl rfl (Nat.le_of_ble_eq_true rfl) dX5_comparison_86 (fun r86 μ_4 hs h => ?_)
        refine z_istore_n (lv' := [(3, vi (b2i r86)), (2, vi x62), (0, vr Γ 63), (1, vi a1)]) dX5_comparison_89 rfl (Nat.le_of_ble_eq_true rfl) rfl ?_
        refine z_rload_n dX5_comparison_90 rfl 2 rfl ?_
        obtain ⟨r91, h9, hr_r91, h⟩ := h
        refine z_getR (q := 9065) ff_5_1 dX5_comparison_91 kt_63 (Nat.le_of_ble_eq_true rfl) fl_X5_15 rfl h9 ?_
        refine z_iload_n dX5_comparison_94 rfl 1 rfl ?_
        refine z_iconst dX5_comparison_95 ?_
        refine z_VU (i_Rules_addStep hr_r91 hs h) vk_X8_addStep (ru_k hr_r91) (ru_l hr_r91) rfl ml_X5_121 (rm_O (by decide)) ⟨Nat.zero_le _, Nat.zero_le _⟩ rfl rfl (Nat.le_of_ble_eq_true rfl) dX5_comparison_96 (fun μ_5 hs h => ?_)
        refine z_iload_n dX5_comparison_99 rfl 0 rfl ?_
        exact z_zret (b := r86) rfl dX5_comparison_100 rfl rfl rfl ⟨_, rfl, hs, h⟩
  · refine z_iconst dX5_comparison_8 ?_
    exact z_zret (b := false) rfl dX5_comparison_9 rfl rfl rfl ⟨_, rfl, hs, h⟩
abbrev Y_OrdR_sum (d : Nat) : Yt := (5, (some .boolean), yX5_sum.name, { frames := 10 * (d + 1) + 10, cells := 0, slots := 0, locals := 60 * (d + 1) + 300 }, 174, 0, 0)
def b_OrdR_sum_43 (R_8 : Bool → Int → Mem → Prop) (rec : Nat → Int → Mem → (Bool → Mem → Prop) → Prop) (v1 : Int) (v3_1 : Int) (μ_3 : Mem) : Prop := ∀ x60 : Int, x60 = (if (v_Tape_isSign 43 μ_3) = true then 2 else 3) → f_Tape_next  μ_3 (fun μ_4 => rec 6 v1 μ_4 (fun r71 μ_5 => ∃ r76 : Nat, rR μ_5 9065 0 = some r76 ∧ isRu r76 = true ∧ f_Rules_addStep r76 x60 0 μ_5 (fun μ_6 => R_8 r71 (v3_1 + 1) μ_6)))
def l_OrdR_sum_8 (a1 : Int) (X_8_91 : Bool → Mem → Prop) (rec : Nat → Int → Mem → (Bool → Mem → Prop) → Prop) : Nat → Bool → Int → Mem → Prop
  | 0, _, _, _ => False
  | fu8 + 1, v2, v3, μ_2 => if w v3 < w 300 then (if v2 = true then (if (v_Tape_isSign 43 μ_2) = true then (b_OrdR_sum_43 (l_OrdR_sum_8 a1 X_8_91 rec fu8) rec a1 v3 μ_2) else (if (v_Tape_isSign 45 μ_2) = true then (b_OrdR_sum_43 (l_OrdR_sum_8 a1 X_8_91 rec fu8) rec a1 v3 μ_2) else (X_8_91 v2 μ_2))) else (X_8_91 v2 μ_2)) else (X_8_91 v2 μ_2)
def f_OrdR_sum (rec : Nat → Int → Mem → (Bool → Mem → Prop) → Prop) (a1 : Int) (μ : Mem) (k : Bool → Mem → Prop) : Prop := rec 6 a1 μ (fun r2 μ_1 => ∃ m8 : Nat, l_OrdR_sum_8 a1 (fun (v2_1 : Bool) (μ_7 : Mem) => k v2_1 μ_7) rec m8 r2 0 μ_1)
theorem B_OrdR_sum_43 {l : Launch} {Γ : Gam} {g : Nat} {R_8 : Bool → Int → Mem → Prop} {k : Bool → Mem → Prop} {d : Nat} {rec : Nat → Int → Mem → (Bool → Mem → Prop) → Prop} {v1 : Int} {v3_1 : Int} {μ_3 : Mem} (H : H_O l Γ g rec d) (hR_8 : ∀ (u2 : Bool) (u3 : Int) (ν : Mem), StatR ν.2.2 → R_8 u2 u3 ν → SW l Γ yX5_sum.cls cX5_sum (Y_OrdR_sum d) (pB k) g 174 0 0 ν 8 [(0, vr Γ 63), (1, vi v1), (2, vi (b2i u2)), (3, vi u3)] []) (hs : StatR μ_3.2.2) (h : b_OrdR_sum_43 R_8 rec v1 v3_1 μ_3) : SW l Γ yX5_sum.cls cX5_sum (Y_OrdR_sum d) (pB k) g 174 0 0 μ_3 43 [(0, vr Γ 63), (1, vi v1), (3, vi v3_1)] [] := by
  unfold b_OrdR_sum_43 at h
  refine z_rload_n dX5_sum_43 rfl 0 rfl ?_
  refine z_getR (q := 9064) ff_5_0 dX5_sum_44 kt_63 (Nat.le_of_ble_eq_true rfl) fl_X5_9 rfl (hs.1 _ _ sr_9064) ?_
  refine z_bipush dX5_sum_47 (by decide) ?_
  refine z_VE (i_Tape_isSign ) vk_X9_isSign kt_10 (Nat.le_of_ble_eq_true rfl) rfl ml_X5_132 (rm_O (by decide)) ⟨Nat.zero_le _, Nat.zero_le _⟩ rfl rfl (Nat.le_of_ble_eq_true rfl) dX5_sum_49 ?_
  refine z_phi 60 [] (fun V9 hv J9 => ?_) h (fun x60 h => ?_)
  · refine z_ifeq_b (tgt := 59) dX5_sum_52 (by decide) (eq_ite hv) (fun hv => ?_) (fun hv => ?_)
    · refine z_iconst dX5_sum_55 ?_
      refine z_goto (tgt := 60) dX5_sum_56 (by decide) ?_
      exact J9 _ hv.symm
    · refine z_iconst dX5_sum_59 ?_
      exact J9 _ hv.symm
  · refine z_istore (lv' := [(4, vi x60), (0, vr Γ 63), (1, vi v1), (3, vi v3_1)]) dX5_sum_60 (Nat.le_of_ble_eq_true rfl) rfl ?_
    refine z_rload_n dX5_sum_62 rfl 1 rfl ?_
    refine z_getR (q := 9064) ff_5_0 dX5_sum_63 kt_63 (Nat.le_of_ble_eq_true rfl) fl_X5_9 rfl (hs.1 _ _ sr_9064) ?_
    refine z_VU (i_Tape_next  hs h) vk_X9_next kt_10 (Nat.le_of_ble_eq_true rfl) rfl ml_X5_44 (rm_O (by decide)) ⟨Nat.zero_le _, Nat.zero_le _⟩ rfl rfl (Nat.le_of_ble_eq_true rfl) dX5_sum_66 (fun μ_4 hs h => ?_)
    refine z_rload_n dX5_sum_69 rfl 1 rfl ?_
    refine z_iload_n dX5_sum_70 rfl 2 rfl ?_
    refine z_VB ((H _ _ _ hs).2.2.2.2.2.2.1 h) vk_X5_product kt_63 (Nat.le_of_ble_eq_true rfl) rfl ml_X5_141 (rm_OR (by decide)) ⟨Nat.zero_le _, Nat.zero_le _⟩ rfl rfl (Nat.le_of_ble_eq_true rfl) dX5_sum_71 (fun r71 μ_5 hs h => ?_)
    refine z_istore_n (lv' := [(2, vi (b2i r71)), (4, vi x60), (0, vr Γ 63), (1, vi v1), (3, vi v3_1)]) dX5_sum_74 rfl (Nat.le_of_ble_eq_true rfl) rfl ?_
    refine z_rload_n dX5_sum_75 rfl 2 rfl ?_
    obtain ⟨r76, h9, hr_r76, h⟩ := h
    refine z_getR (q := 9065) ff_5_1 dX5_sum_76 kt_63 (Nat.le_of_ble_eq_true rfl) fl_X5_15 rfl h9 ?_
    refine z_iload dX5_sum_79 1 rfl ?_
    refine z_iconst dX5_sum_81 ?_
    refine z_VU (i_Rules_addStep hr_r76 hs h) vk_X8_addStep (ru_k hr_r76) (ru_l hr_r76) rfl ml_X5_121 (rm_O (by decide)) ⟨Nat.zero_le _, Nat.zero_le _⟩ rfl rfl (Nat.le_of_ble_eq_true rfl) dX5_sum_82 (fun μ_6 hs h => ?_)
    refine z_iinc (j := 4) (lv' := [(3, vi (v3_1 + 1)), (2, vi (b2i r71)), (4, vi x60), (0, vr Γ 63), (1, vi v1)]) dX5_sum_85 rfl (Nat.le_of_ble_eq_true rfl) rfl ?_
    refine z_goto (tgt := 8) dX5_sum_88 (by decide) ?_
    refine z_sub (lv' := [(0, vr Γ 63), (1, vi v1), (2, vi (b2i r71)), (3, vi (v3_1 + 1))]) [3, 4, 1, 0] rfl ?_
    exact hR_8 r71 (v3_1 + 1) μ_6 hs h
theorem L_OrdR_sum_8 {l : Launch} {Γ : Gam} {g : Nat} {a1 : Int} {X_8_91 : Bool → Mem → Prop} {k : Bool → Mem → Prop} {d : Nat} {rec : Nat → Int → Mem → (Bool → Mem → Prop) → Prop} (H : H_O l Γ g rec d) (hX_8_91 : ∀ (u2 : Bool) (ν : Mem), StatR ν.2.2 → X_8_91 u2 ν → SW l Γ yX5_sum.cls cX5_sum (Y_OrdR_sum d) (pB k) g 174 0 0 ν 91 [(2, vi (b2i u2))] []) (n9 : Nat) : ∀ (v2 : Bool) (v3 : Int) (μ_2 : Mem), StatR μ_2.2.2 → l_OrdR_sum_8 a1 X_8_91 rec n9 v2 v3 μ_2 → SW l Γ yX5_sum.cls cX5_sum (Y_OrdR_sum d) (pB k) g 174 0 0 μ_2 8 [(0, vr Γ 63), (1, vi a1), (2, vi (b2i v2)), (3, vi v3)] [] := by
  induction n9 with
  | zero =>
    intro v2 v3 μ_2 hs h
    exact h.elim
  | succ n9 hR_8 =>
    intro v2 v3 μ_2 hs h
    rw [l_OrdR_sum_8] at h
    refine z_iload_n dX5_sum_8 rfl 3 rfl ?_
    refine z_sipush dX5_sum_9 (by decide) ?_
    refine z_icmp_ge (tgt := 91) dX5_sum_12 (by decide) h (fun h => ?_) (fun h => ?_)
    · refine z_iload_n dX5_sum_15 rfl 2 rfl ?_
      refine z_ifeq_b (tgt := 91) dX5_sum_16 (by decide) h (fun h => ?_) (fun h => ?_)
      · refine z_rload_n dX5_sum_19 rfl 0 rfl ?_
        refine z_getR (q := 9064) ff_5_0 dX5_sum_20 kt_63 (Nat.le_of_ble_eq_true rfl) fl_X5_9 rfl (hs.1 _ _ sr_9064) ?_
        refine z_bipush dX5_sum_23 (by decide) ?_
        refine z_VE (i_Tape_isSign ) vk_X9_isSign kt_10 (Nat.le_of_ble_eq_true rfl) rfl ml_X5_132 (rm_O (by decide)) ⟨Nat.zero_le _, Nat.zero_le _⟩ rfl rfl (Nat.le_of_ble_eq_true rfl) dX5_sum_25 ?_
        refine z_ifne_b (tgt := 43) dX5_sum_28 (by decide) h (fun h => ?_) (fun h => ?_)
        · refine z_sub (lv' := [(0, vr Γ 63), (1, vi a1), (3, vi v3)]) [0, 1, 3] rfl ?_
          exact B_OrdR_sum_43 H hR_8 hs h
        · refine z_rload_n dX5_sum_31 rfl 0 rfl ?_
          refine z_getR (q := 9064) ff_5_0 dX5_sum_32 kt_63 (Nat.le_of_ble_eq_true rfl) fl_X5_9 rfl (hs.1 _ _ sr_9064) ?_
          refine z_bipush dX5_sum_35 (by decide) ?_
          refine z_VE (i_Tape_isSign ) vk_X9_isSign kt_10 (Nat.le_of_ble_eq_true rfl) rfl ml_X5_132 (rm_O (by decide)) ⟨Nat.zero_le _, Nat.zero_le _⟩ rfl rfl (Nat.le_of_ble_eq_true rfl) dX5_sum_37 ?_
          refine z_ifeq_b (tgt := 91) dX5_sum_40 (by decide) h (fun h => ?_) (fun h => ?_)
          · refine z_sub (lv' := [(0, vr Γ 63), (1, vi a1), (3, vi v3)]) [0, 1, 3] rfl ?_
            exact B_OrdR_sum_43 H hR_8 hs h
          · refine z_sub (lv' := [(2, vi (b2i v2))]) [2] rfl ?_
            exact hX_8_91 v2 μ_2 hs h
      · refine z_sub (lv' := [(2, vi (b2i v2))]) [2] rfl ?_
        exact hX_8_91 v2 μ_2 hs h
    · refine z_sub (lv' := [(2, vi (b2i v2))]) [2] rfl ?_
      exact hX_8_91 v2 μ_2 hs h
theorem i_OrdR_sum {l : Launch} {Γ : Gam} {g : Nat} {a1 : Int} {μ : Mem} {d : Nat} {rec : Nat → Int → Mem → (Bool → Mem → Prop) → Prop} {k : Bool → Mem → Prop} (H : H_O l Γ g rec d) (hs : StatR μ.2.2) (h : f_OrdR_sum rec a1 μ k) : CT l Γ yX5_sum cX5_sum 5 (some .boolean) (10 * (d + 1) + 10) (60 * (d + 1) + 300) 0 0 [vr Γ 63, vi a1] g 174 μ (pB k) := by
  refine SW.ct (by decide) (Nat.le_of_ble_eq_true rfl) ?_
  refine z_sub (lv' := [(0, vr Γ 63), (1, vi a1)]) [0, 1] rfl ?_
  show SW l Γ yX5_sum.cls cX5_sum (Y_OrdR_sum d) (pB k) g 174 0 0 μ 0 [(0, vr Γ 63), (1, vi a1)] []
  unfold f_OrdR_sum at h
  refine z_rload_n dX5_sum_0 rfl 0 rfl ?_
  refine z_iload_n dX5_sum_1 rfl 1 rfl ?_
  refine z_VB ((H _ _ _ hs).2.2.2.2.2.2.1 h) vk_X5_product kt_63 (Nat.le_of_ble_eq_true rfl) rfl ml_X5_141 (rm_OR (by decide)) ⟨Nat.zero_le _, Nat.zero_le _⟩ rfl rfl (Nat.le_of_ble_eq_true rfl) dX5_sum_2 (fun r2 μ_1 hs h => ?_)
  refine z_istore_n (lv' := [(2, vi (b2i r2)), (0, vr Γ 63), (1, vi a1)]) dX5_sum_5 rfl (Nat.le_of_ble_eq_true rfl) rfl ?_
  refine z_iconst dX5_sum_6 ?_
  refine z_istore_n (lv' := [(3, vi 0), (2, vi (b2i r2)), (0, vr Γ 63), (1, vi a1)]) dX5_sum_7 rfl (Nat.le_of_ble_eq_true rfl) rfl ?_
  obtain ⟨m8, h⟩ := h
  refine z_sub (lv' := [(0, vr Γ 63), (1, vi a1), (2, vi (b2i r2)), (3, vi 0)]) [2, 3, 1, 0] rfl ?_
  refine L_OrdR_sum_8 H (fun v2_1 μ_7 hs h => ?_) m8 r2 0 μ_1 hs h
  refine z_iload_n dX5_sum_91 rfl 0 rfl ?_
  exact z_zret (b := v2_1) rfl dX5_sum_92 rfl rfl rfl ⟨_, rfl, hs, h⟩
abbrev Y_OrdR_product (d : Nat) : Yt := (5, (some .boolean), yX5_product.name, { frames := 10 * (d + 1) + 10, cells := 0, slots := 0, locals := 60 * (d + 1) + 300 }, 174, 0, 0)
def b_OrdR_product_43 (R_8 : Bool → Int → Mem → Prop) (rec : Nat → Int → Mem → (Bool → Mem → Prop) → Prop) (v1 : Int) (v3_1 : Int) (μ_3 : Mem) : Prop := ∀ x60 : Int, x60 = (if (v_Tape_isSign 42 μ_3) = true then 4 else 5) → f_Tape_next  μ_3 (fun μ_4 => rec 7 v1 μ_4 (fun r71 μ_5 => ∃ r76 : Nat, rR μ_5 9065 0 = some r76 ∧ isRu r76 = true ∧ f_Rules_addStep r76 x60 0 μ_5 (fun μ_6 => R_8 r71 (v3_1 + 1) μ_6)))
def l_OrdR_product_8 (a1 : Int) (X_8_91 : Bool → Mem → Prop) (rec : Nat → Int → Mem → (Bool → Mem → Prop) → Prop) : Nat → Bool → Int → Mem → Prop
  | 0, _, _, _ => False
  | fu8 + 1, v2, v3, μ_2 => if w v3 < w 300 then (if v2 = true then (if (v_Tape_isSign 42 μ_2) = true then (b_OrdR_product_43 (l_OrdR_product_8 a1 X_8_91 rec fu8) rec a1 v3 μ_2) else (if (v_Tape_isSign 47 μ_2) = true then (b_OrdR_product_43 (l_OrdR_product_8 a1 X_8_91 rec fu8) rec a1 v3 μ_2) else (X_8_91 v2 μ_2))) else (X_8_91 v2 μ_2)) else (X_8_91 v2 μ_2)
def f_OrdR_product (rec : Nat → Int → Mem → (Bool → Mem → Prop) → Prop) (a1 : Int) (μ : Mem) (k : Bool → Mem → Prop) : Prop := rec 7 a1 μ (fun r2 μ_1 => ∃ m8 : Nat, l_OrdR_product_8 a1 (fun (v2_1 : Bool) (μ_7 : Mem) => k v2_1 μ_7) rec m8 r2 0 μ_1)
theorem B_OrdR_product_43 {l : Launch} {Γ : Gam} {g : Nat} {R_8 : Bool → Int → Mem → Prop} {k : Bool → Mem → Prop} {d : Nat} {rec : Nat → Int → Mem → (Bool → Mem → Prop) → Prop} {v1 : Int} {v3_1 : Int} {μ_3 : Mem} (H : H_O l Γ g rec d) (hR_8 : ∀ (u2 : Bool) (u3 : Int) (ν : Mem), StatR ν.2.2 → R_8 u2 u3 ν → SW l Γ yX5_product.cls cX5_product (Y_OrdR_product d) (pB k) g 174 0 0 ν 8 [(0, vr Γ 63), (1, vi v1), (2, vi (b2i u2)), (3, vi u3)] []) (hs : StatR μ_3.2.2) (h : b_OrdR_product_43 R_8 rec v1 v3_1 μ_3) : SW l Γ yX5_product.cls cX5_product (Y_OrdR_product d) (pB k) g 174 0 0 μ_3 43 [(0, vr Γ 63), (1, vi v1), (3, vi v3_1)] [] := by
  unfold b_OrdR_product_43 at h
  refine z_rload_n dX5_product_43 rfl 0 rfl ?_
  refine z_getR (q := 9064) ff_5_0 dX5_product_44 kt_63 (Nat.le_of_ble_eq_true rfl) fl_X5_9 rfl (hs.1 _ _ sr_9064) ?_
  refine z_bipush dX5_product_47 (by decide) ?_
  refine z_VE (i_Tape_isSign ) vk_X9_isSign kt_10 (Nat.le_of_ble_eq_true rfl) rfl ml_X5_132 (rm_O (by decide)) ⟨Nat.zero_le _, Nat.zero_le _⟩ rfl rfl (Nat.le_of_ble_eq_true rfl) dX5_product_49 ?_
  refine z_phi 60 [] (fun V9 hv J9 => ?_) h (fun x60 h => ?_)
  · refine z_ifeq_b (tgt := 59) dX5_product_52 (by decide) (eq_ite hv) (fun hv => ?_) (fun hv => ?_)
    · refine z_iconst dX5_product_55 ?_
      refine z_goto (tgt := 60) dX5_product_56 (by decide) ?_
      exact J9 _ hv.symm
    · refine z_iconst dX5_product_59 ?_
      exact J9 _ hv.symm
  · refine z_istore (lv' := [(4, vi x60), (0, vr Γ 63), (1, vi v1), (3, vi v3_1)]) dX5_product_60 (Nat.le_of_ble_eq_true rfl) rfl ?_
    refine z_rload_n dX5_product_62 rfl 1 rfl ?_
    refine z_getR (q := 9064) ff_5_0 dX5_product_63 kt_63 (Nat.le_of_ble_eq_true rfl) fl_X5_9 rfl (hs.1 _ _ sr_9064) ?_
    refine z_VU (i_Tape_next  hs h) vk_X9_next kt_10 (Nat.le_of_ble_eq_true rfl) rfl ml_X5_44 (rm_O (by decide)) ⟨Nat.zero_le _, Nat.zero_le _⟩ rfl rfl (Nat.le_of_ble_eq_true rfl) dX5_product_66 (fun μ_4 hs h => ?_)
    refine z_rload_n dX5_product_69 rfl 1 rfl ?_
    refine z_iload_n dX5_product_70 rfl 2 rfl ?_
    refine z_VB ((H _ _ _ hs).2.2.2.2.2.2.2 h) vk_X5_factor kt_63 (Nat.le_of_ble_eq_true rfl) rfl ml_X5_144 (rm_OR (by decide)) ⟨Nat.zero_le _, Nat.zero_le _⟩ rfl rfl (Nat.le_of_ble_eq_true rfl) dX5_product_71 (fun r71 μ_5 hs h => ?_)
    refine z_istore_n (lv' := [(2, vi (b2i r71)), (4, vi x60), (0, vr Γ 63), (1, vi v1), (3, vi v3_1)]) dX5_product_74 rfl (Nat.le_of_ble_eq_true rfl) rfl ?_
    refine z_rload_n dX5_product_75 rfl 2 rfl ?_
    obtain ⟨r76, h9, hr_r76, h⟩ := h
    refine z_getR (q := 9065) ff_5_1 dX5_product_76 kt_63 (Nat.le_of_ble_eq_true rfl) fl_X5_15 rfl h9 ?_
    refine z_iload dX5_product_79 1 rfl ?_
    refine z_iconst dX5_product_81 ?_
    refine z_VU (i_Rules_addStep hr_r76 hs h) vk_X8_addStep (ru_k hr_r76) (ru_l hr_r76) rfl ml_X5_121 (rm_O (by decide)) ⟨Nat.zero_le _, Nat.zero_le _⟩ rfl rfl (Nat.le_of_ble_eq_true rfl) dX5_product_82 (fun μ_6 hs h => ?_)
    refine z_iinc (j := 4) (lv' := [(3, vi (v3_1 + 1)), (2, vi (b2i r71)), (4, vi x60), (0, vr Γ 63), (1, vi v1)]) dX5_product_85 rfl (Nat.le_of_ble_eq_true rfl) rfl ?_
    refine z_goto (tgt := 8) dX5_product_88 (by decide) ?_
    refine z_sub (lv' := [(0, vr Γ 63), (1, vi v1), (2, vi (b2i r71)), (3, vi (v3_1 + 1))]) [3, 4, 1, 0] rfl ?_
    exact hR_8 r71 (v3_1 + 1) μ_6 hs h
theorem L_OrdR_product_8 {l : Launch} {Γ : Gam} {g : Nat} {a1 : Int} {X_8_91 : Bool → Mem → Prop} {k : Bool → Mem → Prop} {d : Nat} {rec : Nat → Int → Mem → (Bool → Mem → Prop) → Prop} (H : H_O l Γ g rec d) (hX_8_91 : ∀ (u2 : Bool) (ν : Mem), StatR ν.2.2 → X_8_91 u2 ν → SW l Γ yX5_product.cls cX5_product (Y_OrdR_product d) (pB k) g 174 0 0 ν 91 [(2, vi (b2i u2))] []) (n9 : Nat) : ∀ (v2 : Bool) (v3 : Int) (μ_2 : Mem), StatR μ_2.2.2 → l_OrdR_product_8 a1 X_8_91 rec n9 v2 v3 μ_2 → SW l Γ yX5_product.cls cX5_product (Y_OrdR_product d) (pB k) g 174 0 0 μ_2 8 [(0, vr Γ 63), (1, vi a1), (2, vi (b2i v2)), (3, vi v3)] [] := by
  induction n9 with
  | zero =>
    intro v2 v3 μ_2 hs h
    exact h.elim
  | succ n9 hR_8 =>
    intro v2 v3 μ_2 hs h
    rw [l_OrdR_product_8] at h
    refine z_iload_n dX5_product_8 rfl 3 rfl ?_
    refine z_sipush dX5_product_9 (by decide) ?_
    refine z_icmp_ge (tgt := 91) dX5_product_12 (by decide) h (fun h => ?_) (fun h => ?_)
    · refine z_iload_n dX5_product_15 rfl 2 rfl ?_
      refine z_ifeq_b (tgt := 91) dX5_product_16 (by decide) h (fun h => ?_) (fun h => ?_)
      · refine z_rload_n dX5_product_19 rfl 0 rfl ?_
        refine z_getR (q := 9064) ff_5_0 dX5_product_20 kt_63 (Nat.le_of_ble_eq_true rfl) fl_X5_9 rfl (hs.1 _ _ sr_9064) ?_
        refine z_bipush dX5_product_23 (by decide) ?_
        refine z_VE (i_Tape_isSign ) vk_X9_isSign kt_10 (Nat.le_of_ble_eq_true rfl) rfl ml_X5_132 (rm_O (by decide)) ⟨Nat.zero_le _, Nat.zero_le _⟩ rfl rfl (Nat.le_of_ble_eq_true rfl) dX5_product_25 ?_
        refine z_ifne_b (tgt := 43) dX5_product_28 (by decide) h (fun h => ?_) (fun h => ?_)
        · refine z_sub (lv' := [(0, vr Γ 63), (1, vi a1), (3, vi v3)]) [0, 1, 3] rfl ?_
          exact B_OrdR_product_43 H hR_8 hs h
        · refine z_rload_n dX5_product_31 rfl 0 rfl ?_
          refine z_getR (q := 9064) ff_5_0 dX5_product_32 kt_63 (Nat.le_of_ble_eq_true rfl) fl_X5_9 rfl (hs.1 _ _ sr_9064) ?_
          refine z_bipush dX5_product_35 (by decide) ?_
          refine z_VE (i_Tape_isSign ) vk_X9_isSign kt_10 (Nat.le_of_ble_eq_true rfl) rfl ml_X5_132 (rm_O (by decide)) ⟨Nat.zero_le _, Nat.zero_le _⟩ rfl rfl (Nat.le_of_ble_eq_true rfl) dX5_product_37 ?_
          refine z_ifeq_b (tgt := 91) dX5_product_40 (by decide) h (fun h => ?_) (fun h => ?_)
          · refine z_sub (lv' := [(0, vr Γ 63), (1, vi a1), (3, vi v3)]) [0, 1, 3] rfl ?_
            exact B_OrdR_product_43 H hR_8 hs h
          · refine z_sub (lv' := [(2, vi (b2i v2))]) [2] rfl ?_
            exact hX_8_91 v2 μ_2 hs h
      · refine z_sub (lv' := [(2, vi (b2i v2))]) [2] rfl ?_
        exact hX_8_91 v2 μ_2 hs h
    · refine z_sub (lv' := [(2, vi (b2i v2))]) [2] rfl ?_
      exact hX_8_91 v2 μ_2 hs h
theorem i_OrdR_product {l : Launch} {Γ : Gam} {g : Nat} {a1 : Int} {μ : Mem} {d : Nat} {rec : Nat → Int → Mem → (Bool → Mem → Prop) → Prop} {k : Bool → Mem → Prop} (H : H_O l Γ g rec d) (hs : StatR μ.2.2) (h : f_OrdR_product rec a1 μ k) : CT l Γ yX5_product cX5_product 5 (some .boolean) (10 * (d + 1) + 10) (60 * (d + 1) + 300) 0 0 [vr Γ 63, vi a1] g 174 μ (pB k) := by
  refine SW.ct (by decide) (Nat.le_of_ble_eq_true rfl) ?_
  refine z_sub (lv' := [(0, vr Γ 63), (1, vi a1)]) [0, 1] rfl ?_
  show SW l Γ yX5_product.cls cX5_product (Y_OrdR_product d) (pB k) g 174 0 0 μ 0 [(0, vr Γ 63), (1, vi a1)] []
  unfold f_OrdR_product at h
  refine z_rload_n dX5_product_0 rfl 0 rfl ?_
  refine z_iload_n dX5_product_1 rfl 1 rfl ?_
  refine z_VB ((H _ _ _ hs).2.2.2.2.2.2.2 h) vk_X5_factor kt_63 (Nat.le_of_ble_eq_true rfl) rfl ml_X5_144 (rm_OR (by decide)) ⟨Nat.zero_le _, Nat.zero_le _⟩ rfl rfl (Nat.le_of_ble_eq_true rfl) dX5_product_2 (fun r2 μ_1 hs h => ?_)
  refine z_istore_n (lv' := [(2, vi (b2i r2)), (0, vr Γ 63), (1, vi a1)]) dX5_product_5 rfl (Nat.le_of_ble_eq_true rfl) rfl ?_
  refine z_iconst dX5_product_6 ?_
  refine z_istore_n (lv' := [(3, vi 0), (2, vi (b2i r2)), (0, vr Γ 63), (1, vi a1)]) dX5_product_7 rfl (Nat.le_of_ble_eq_true rfl) rfl ?_
  obtain ⟨m8, h⟩ := h
  refine z_sub (lv' := [(0, vr Γ 63), (1, vi a1), (2, vi (b2i r2)), (3, vi 0)]) [2, 3, 1, 0] rfl ?_
  refine L_OrdR_product_8 H (fun v2_1 μ_7 hs h => ?_) m8 r2 0 μ_1 hs h
  refine z_iload_n dX5_product_91 rfl 0 rfl ?_
  exact z_zret (b := v2_1) rfl dX5_product_92 rfl rfl rfl ⟨_, rfl, hs, h⟩
abbrev Y_OrdR_factor (d : Nat) : Yt := (2, (some .boolean), yX5_factor.name, { frames := 10 * (d + 1) + 10, cells := 0, slots := 0, locals := 60 * (d + 1) + 300 }, 174, 0, 0)
def f_OrdR_factor (rec : Nat → Int → Mem → (Bool → Mem → Prop) → Prop) (a1 : Int) (μ : Mem) (k : Bool → Mem → Prop) : Prop := if (v_Tape_isNumber μ) = true then (∃ r11 : Nat, rR μ 9065 0 = some r11 ∧ isRu r11 = true ∧ f_Rules_addStep r11 0 (rI μ 2285 0) μ (fun μ_1 => f_Tape_next  μ_1 (fun μ_2 => k true μ_2))) else (if (v_Tape_isAnyWord μ) = true then (f_OrdR_name  μ (fun r45 μ_3 => k r45 μ_3)) else (if (v_Tape_isSign 40 μ) = true then (if w a1 < w 4 then (f_Tape_next  μ (fun μ_4 => rec 5 (a1 + 1) μ_4 (fun r95 μ_5 => if r95 = true then (f_Tape_skipSign 41 μ_5 (fun r107 μ_6 => ∀ x118 : Bool, x118 = (if r107 = true then true else false) → k x118 μ_6)) else (k false μ_5)))) else (f_Tape_fail 4 μ (fun r80 μ_7 => k r80 μ_7))) else (f_Tape_fail 1 μ (fun r66 μ_8 => k r66 μ_8))))
theorem i_OrdR_factor {l : Launch} {Γ : Gam} {g : Nat} {a1 : Int} {μ : Mem} {d : Nat} {rec : Nat → Int → Mem → (Bool → Mem → Prop) → Prop} {k : Bool → Mem → Prop} (H : H_O l Γ g rec d) (hs : StatR μ.2.2) (h : f_OrdR_factor rec a1 μ k) : CT l Γ yX5_factor cX5_factor 2 (some .boolean) (10 * (d + 1) + 10) (60 * (d + 1) + 300) 0 0 [vr Γ 63, vi a1] g 174 μ (pB k) := by
  refine SW.ct (by decide) (Nat.le_of_ble_eq_true rfl) ?_
  refine z_sub (lv' := [(0, vr Γ 63), (1, vi a1)]) [0, 1] rfl ?_
  show SW l Γ yX5_factor.cls cX5_factor (Y_OrdR_factor d) (pB k) g 174 0 0 μ 0 [(0, vr Γ 63), (1, vi a1)] []
  unfold f_OrdR_factor at h
  refine z_rload_n dX5_factor_0 rfl 0 rfl ?_
  refine z_getR (q := 9064) ff_5_0 dX5_factor_1 kt_63 (Nat.le_of_ble_eq_true rfl) fl_X5_9 rfl (hs.1 _ _ sr_9064) ?_
  refine z_VE (i_Tape_isNumber ) vk_X9_isNumber kt_10 (Nat.le_of_ble_eq_true rfl) rfl ml_X5_147 (rm_O (by decide)) ⟨Nat.zero_le _, Nat.zero_le _⟩ rfl rfl (Nat.le_of_ble_eq_true rfl) dX5_factor_4 ?_
  refine z_ifeq_b (tgt := 34) dX5_factor_7 (by decide) h (fun h => ?_) (fun h => ?_)
  · refine z_rload_n dX5_factor_10 rfl 0 rfl ?_
    obtain ⟨r11, h9, hr_r11, h⟩ := h
    refine z_getR (q := 9065) ff_5_1 dX5_factor_11 kt_63 (Nat.le_of_ble_eq_true rfl) fl_X5_15 rfl h9 ?_
    refine z_iconst dX5_factor_14 ?_
    refine z_rload_n dX5_factor_15 rfl 0 rfl ?_
    refine z_getR (q := 9064) ff_5_0 dX5_factor_16 kt_63 (Nat.le_of_ble_eq_true rfl) fl_X5_9 rfl (hs.1 _ _ sr_9064) ?_
    refine z_getI (q := 2285) ff_9_5 dX5_factor_19 kt_10 (Nat.le_of_ble_eq_true rfl) fl_X5_150 rfl ?_
    refine z_VU (i_Rules_addStep hr_r11 hs h) vk_X8_addStep (ru_k hr_r11) (ru_l hr_r11) rfl ml_X5_121 (rm_O (by decide)) ⟨Nat.zero_le _, Nat.zero_le _⟩ rfl rfl (Nat.le_of_ble_eq_true rfl) dX5_factor_22 (fun μ_1 hs h => ?_)
    refine z_rload_n dX5_factor_25 rfl 0 rfl ?_
    refine z_getR (q := 9064) ff_5_0 dX5_factor_26 kt_63 (Nat.le_of_ble_eq_true rfl) fl_X5_9 rfl (hs.1 _ _ sr_9064) ?_
    refine z_VU (i_Tape_next  hs h) vk_X9_next kt_10 (Nat.le_of_ble_eq_true rfl) rfl ml_X5_44 (rm_O (by decide)) ⟨Nat.zero_le _, Nat.zero_le _⟩ rfl rfl (Nat.le_of_ble_eq_true rfl) dX5_factor_29 (fun μ_2 hs h => ?_)
    refine z_iconst dX5_factor_32 ?_
    exact z_zret (b := true) rfl dX5_factor_33 rfl rfl rfl ⟨_, rfl, hs, h⟩
  · refine z_rload_n dX5_factor_34 rfl 0 rfl ?_
    refine z_getR (q := 9064) ff_5_0 dX5_factor_35 kt_63 (Nat.le_of_ble_eq_true rfl) fl_X5_9 rfl (hs.1 _ _ sr_9064) ?_
    refine z_VE (i_Tape_isAnyWord ) vk_X9_isAnyWord kt_10 (Nat.le_of_ble_eq_true rfl) rfl ml_X5_153 (rm_O (by decide)) ⟨Nat.zero_le _, Nat.zero_le _⟩ rfl rfl (Nat.le_of_ble_eq_true rfl) dX5_factor_38 ?_
    refine z_ifeq_b (tgt := 49) dX5_factor_41 (by decide) h (fun h => ?_) (fun h => ?_)
    · refine z_rload_n dX5_factor_44 rfl 0 rfl ?_
      refine z_VB (i_OrdR_name  hs h) vk_X5_name kt_63 (Nat.le_of_ble_eq_true rfl) rfl ml_X5_156 (rm_O (by decide)) ⟨Nat.zero_le _, Nat.zero_le _⟩ rfl rfl (Nat.le_of_ble_eq_true rfl) dX5_factor_45 (fun r45 μ_3 hs h => ?_)
      exact z_zret (b := r45) rfl dX5_factor_48 rfl rfl rfl ⟨_, rfl, hs, h⟩
    · refine z_rload_n dX5_factor_49 rfl 0 rfl ?_
      refine z_getR (q := 9064) ff_5_0 dX5_factor_50 kt_63 (Nat.le_of_ble_eq_true rfl) fl_X5_9 rfl (hs.1 _ _ sr_9064) ?_
      refine z_bipush dX5_factor_53 (by decide) ?_
      refine z_VE (i_Tape_isSign ) vk_X9_isSign kt_10 (Nat.le_of_ble_eq_true rfl) rfl ml_X5_132 (rm_O (by decide)) ⟨Nat.zero_le _, Nat.zero_le _⟩ rfl rfl (Nat.le_of_ble_eq_true rfl) dX5_factor_55 ?_
      refine z_ifne_b (tgt := 70) dX5_factor_58 (by decide) h (fun h => ?_) (fun h => ?_)
      · refine z_iload_n dX5_factor_70 rfl 1 rfl ?_
        refine z_iconst dX5_factor_71 ?_
        refine z_icmp_lt (tgt := 84) dX5_factor_72 (by decide) h (fun h => ?_) (fun h => ?_)
        · refine z_rload_n dX5_factor_84 rfl 0 rfl ?_
          refine z_getR (q := 9064) ff_5_0 dX5_factor_85 kt_63 (Nat.le_of_ble_eq_true rfl) fl_X5_9 rfl (hs.1 _ _ sr_9064) ?_
          refine z_VU (i_Tape_next  hs h) vk_X9_next kt_10 (Nat.le_of_ble_eq_true rfl) rfl ml_X5_44 (rm_O (by decide)) ⟨Nat.zero_le _, Nat.zero_le _⟩ rfl rfl (Nat.le_of_ble_eq_true rfl) dX5_factor_88 (fun μ_4 hs h => ?_)
          refine z_rload_n dX5_factor_91 rfl 0 rfl ?_
          refine z_iload_n dX5_factor_92 rfl 1 rfl ?_
          refine z_iconst dX5_factor_93 ?_
          refine z_iadd dX5_factor_94 ?_
          refine z_VB ((H _ _ _ hs).2.2.2.2.2.1 h) vk_X5_sum kt_63 (Nat.le_of_ble_eq_true rfl) rfl ml_X5_113 (rm_OR (by decide)) ⟨Nat.zero_le _, Nat.zero_le _⟩ rfl rfl (Nat.le_of_ble_eq_true rfl) dX5_factor_95 (fun r95 μ_5 hs h => ?_)
          refine z_ifeq_b (tgt := 117) dX5_factor_98 (by decide) h (fun h => ?_) (fun h => ?_)
          · refine z_rload_n dX5_factor_101 rfl 0 rfl ?_
            refine z_getR (q := 9064) ff_5_0 dX5_factor_102 kt_63 (Nat.le_of_ble_eq_true rfl) fl_X5_9 rfl (hs.1 _ _ sr_9064) ?_
            refine z_bipush dX5_factor_105 (by decide) ?_
            refine z_VB (i_Tape_skipSign  hs h) vk_X9_skipSign kt_10 (Nat.le_of_ble_eq_true rfl) rfl ml_X5_71 (rm_O (by decide)) ⟨Nat.zero_le _, Nat.zero_le _⟩ rfl rfl (Nat.le_of_ble_eq_true rfl) dX5_factor_107 (fun r107 μ_6 hs h => ?_)
            refine z_phiB 118 [] (fun V9 hv J9 => ?_) h (fun x118 h => ?_)
            · refine z_ifeq_b (tgt := 117) dX5_factor_110 (by decide) (eq_ite hv) (fun hv => ?_) (fun hv => ?_)
              · refine z_iconst dX5_factor_113 ?_
                refine z_goto (tgt := 118) dX5_factor_114 (by decide) ?_
                exact J9 true hv.symm
              · refine z_iconst dX5_factor_117 ?_
                exact J9 false hv.symm
            · exact z_zret (b := x118) rfl dX5_factor_118 rfl rfl rfl ⟨_, rfl, hs, h⟩
          · refine z_iconst dX5_factor_117 ?_
            exact z_zret (b := false) rfl dX5_factor_118 rfl rfl rfl ⟨_, rfl, hs, h⟩
        · refine z_rload_n dX5_factor_75 rfl 0 rfl ?_
          refine z_getR (q := 9064) ff_5_0 dX5_factor_76 kt_63 (Nat.le_of_ble_eq_true rfl) fl_X5_9 rfl (hs.1 _ _ sr_9064) ?_
          refine z_iconst dX5_factor_79 ?_
          refine z_VB (i_Tape_fail  hs h) vk_X9_fail kt_10 (Nat.le_of_ble_eq_true rfl) rfl ml_X5_41 (rm_O (by decide)) ⟨Nat.zero_le _, Nat.zero_le _⟩ rfl rfl (Nat.le_of_ble_eq_true rfl) dX5_factor_80 (fun r80 μ_7 hs h => ?_)
          exact z_zret (b := r80) rfl dX5_factor_83 rfl rfl rfl ⟨_, rfl, hs, h⟩
      · refine z_rload_n dX5_factor_61 rfl 0 rfl ?_
        refine z_getR (q := 9064) ff_5_0 dX5_factor_62 kt_63 (Nat.le_of_ble_eq_true rfl) fl_X5_9 rfl (hs.1 _ _ sr_9064) ?_
        refine z_iconst dX5_factor_65 ?_
        refine z_VB (i_Tape_fail  hs h) vk_X9_fail kt_10 (Nat.le_of_ble_eq_true rfl) rfl ml_X5_41 (rm_O (by decide)) ⟨Nat.zero_le _, Nat.zero_le _⟩ rfl rfl (Nat.le_of_ble_eq_true rfl) dX5_factor_66 (fun r66 μ_8 hs h => ?_)
        exact z_zret (b := r66) rfl dX5_factor_69 rfl rfl rfl ⟨_, rfl, hs, h⟩
def R_O : Nat → Nat → Int → Mem → (Bool → Mem → Prop) → Prop
  | 0 => fun _ _ _ _ => False
  | d + 1 => fun t x μ k => match t with
    | 0 => f_OrdR_either (R_O d) x μ k
    | 1 => f_OrdR_both (R_O d) x μ k
    | 2 => f_OrdR_piece (R_O d) x μ k
    | 3 => f_OrdR_square (R_O d) x μ k
    | 4 => f_OrdR_comparison (R_O d) x μ k
    | 5 => f_OrdR_sum (R_O d) x μ k
    | 6 => f_OrdR_product (R_O d) x μ k
    | _ => f_OrdR_factor (R_O d) x μ k
theorem ok_O {l : Launch} {Γ : Gam} {g : Nat} : ∀ d : Nat, H_O l Γ g (R_O d) d
  | 0 => fun _ _ _ _ => ⟨fun h => h.elim, fun h => h.elim, fun h => h.elim, fun h => h.elim, fun h => h.elim, fun h => h.elim, fun h => h.elim, fun h => h.elim⟩
  | d + 1 => fun x μ k hs => ⟨fun h => i_OrdR_either (ok_O d) hs h, fun h => i_OrdR_both (ok_O d) hs h, fun h => i_OrdR_piece (ok_O d) hs h, fun h => i_OrdR_square (ok_O d) hs h, fun h => i_OrdR_comparison (ok_O d) hs h, fun h => i_OrdR_sum (ok_O d) hs h, fun h => i_OrdR_product (ok_O d) hs h, fun h => i_OrdR_factor (ok_O d) hs h⟩
abbrev Y_Rules_beginPart : Yt := (2, none, yX8_beginPart.name, { frames := 1, cells := 0, slots := 0, locals := 22 }, 174, 0, 0)
def f_Rules_beginPart (r0 : Nat) (a1 : Int) (μ : Mem) (k : Mem → Prop) : Prop := ∀ μ_1 : Mem, μ_1 = set' μ (r0 + 2) 5 a1 (rI μ (gid r0 3) 0) → k μ_1
theorem i_Rules_beginPart {l : Launch} {Γ : Gam} {g : Nat} {r0 : Nat} {a1 : Int} {μ : Mem} {k : Mem → Prop} (hr_r0 : isRu r0 = true) (hs : StatR μ.2.2) (h : f_Rules_beginPart r0 a1 μ k) : CT l Γ yX8_beginPart cX8_beginPart 2 none 1 22 0 0 [vr Γ r0, vi a1] g 174 μ (pV k) := by
  refine SW.ct (by decide) (Nat.le_of_ble_eq_true rfl) ?_
  refine z_sub (lv' := [(0, vr Γ r0), (1, vi a1)]) [0, 1] rfl ?_
  show SW l Γ yX8_beginPart.cls cX8_beginPart Y_Rules_beginPart (pV k) g 174 0 0 μ 0 [(0, vr Γ r0), (1, vi a1)] []
  unfold f_Rules_beginPart at h
  refine z_rload_n dX8_beginPart_0 rfl 0 rfl ?_
  refine z_getR ff_8_1 dX8_beginPart_1 (ru_k hr_r0) (ru_l hr_r0) fl_X8_15 rfl (ru_s2 hs hr_r0) ?_
  refine z_iload_n dX8_beginPart_4 rfl 1 rfl ?_
  refine z_rload_n dX8_beginPart_5 rfl 0 rfl ?_
  refine z_getI (q := (gid r0 3)) ff_8_3 dX8_beginPart_6 (ru_k hr_r0) (ru_l hr_r0) fl_X8_28 rfl ?_
  refine z_NM (i_X11_set (ru_k2 hr_r0) (ru_l2 hr_r0)) ok_X11_set nw_X8_39 ⟨Nat.le_of_ble_eq_true rfl, Nat.le_of_ble_eq_true rfl⟩ ⟨Nat.zero_le _, Nat.zero_le _⟩ rfl rfl (Nat.le_of_ble_eq_true rfl) dX8_beginPart_9 ?_
  refine z_mm (fun μ_1 eμ_1 => ?_)
  replace h := h μ_1 eμ_1
  replace hs : StatR μ_1.2.2 := by rw [eμ_1]; exact (StatR.set hs)
  exact z_vret rfl dX8_beginPart_12 rfl rfl rfl ⟨rfl, hs, h⟩
abbrev Y_Rules_endPart : Yt := (2, none, yX8_endPart.name, { frames := 1, cells := 0, slots := 0, locals := 22 }, 174, 0, 0)
def f_Rules_endPart (r0 : Nat) (a1 : Int) (μ : Mem) (k : Mem → Prop) : Prop := ∀ μ_1 : Mem, μ_1 = set' μ (r0 + 3) 5 a1 (rI μ (gid r0 3) 0) → k μ_1
theorem i_Rules_endPart {l : Launch} {Γ : Gam} {g : Nat} {r0 : Nat} {a1 : Int} {μ : Mem} {k : Mem → Prop} (hr_r0 : isRu r0 = true) (hs : StatR μ.2.2) (h : f_Rules_endPart r0 a1 μ k) : CT l Γ yX8_endPart cX8_endPart 2 none 1 22 0 0 [vr Γ r0, vi a1] g 174 μ (pV k) := by
  refine SW.ct (by decide) (Nat.le_of_ble_eq_true rfl) ?_
  refine z_sub (lv' := [(0, vr Γ r0), (1, vi a1)]) [0, 1] rfl ?_
  show SW l Γ yX8_endPart.cls cX8_endPart Y_Rules_endPart (pV k) g 174 0 0 μ 0 [(0, vr Γ r0), (1, vi a1)] []
  unfold f_Rules_endPart at h
  refine z_rload_n dX8_endPart_0 rfl 0 rfl ?_
  refine z_getR ff_8_2 dX8_endPart_1 (ru_k hr_r0) (ru_l hr_r0) fl_X8_18 rfl (ru_s3 hs hr_r0) ?_
  refine z_iload_n dX8_endPart_4 rfl 1 rfl ?_
  refine z_rload_n dX8_endPart_5 rfl 0 rfl ?_
  refine z_getI (q := (gid r0 3)) ff_8_3 dX8_endPart_6 (ru_k hr_r0) (ru_l hr_r0) fl_X8_28 rfl ?_
  refine z_NM (i_X11_set (ru_k3 hr_r0) (ru_l3 hr_r0)) ok_X11_set nw_X8_39 ⟨Nat.le_of_ble_eq_true rfl, Nat.le_of_ble_eq_true rfl⟩ ⟨Nat.zero_le _, Nat.zero_le _⟩ rfl rfl (Nat.le_of_ble_eq_true rfl) dX8_endPart_9 ?_
  refine z_mm (fun μ_1 eμ_1 => ?_)
  replace h := h μ_1 eμ_1
  replace hs : StatR μ_1.2.2 := by rw [eμ_1]; exact (StatR.set hs)
  exact z_vret rfl dX8_endPart_12 rfl rfl rfl ⟨rfl, hs, h⟩
abbrev Y_OrdR_readCards : Yt := (2, (some .boolean), yX5_readCards.name, { frames := 611, cells := 0, slots := 0, locals := 3924 }, 174, 0, 0)
def f_OrdR_readCards  (μ : Mem) (k : Bool → Mem → Prop) : Prop := ∀ μ_1 : Mem, μ_1 = sI μ 9066 0 3 → ∃ r6 : Nat, rR μ_1 9065 0 = some r6 ∧ isRu r6 = true ∧ f_Rules_beginPart r6 (rI μ_1 9066 0) μ_1 (fun μ_2 => R_O 60 5 0 μ_2 (fun r18 μ_3 => ∃ r23 : Nat, rR μ_3 9065 0 = some r23 ∧ isRu r23 = true ∧ f_Rules_endPart r23 (rI μ_3 9066 0) μ_3 (fun μ_4 => k r18 μ_4)))
theorem i_OrdR_readCards {l : Launch} {Γ : Gam} {g : Nat} {μ : Mem} {k : Bool → Mem → Prop} (hs : StatR μ.2.2) (h : f_OrdR_readCards  μ k) : CT l Γ yX5_readCards cX5_readCards 2 (some .boolean) 611 3924 0 0 [vr Γ 63] g 174 μ (pB k) := by
  refine SW.ct (by decide) (Nat.le_of_ble_eq_true rfl) ?_
  refine z_sub (lv' := [(0, vr Γ 63)]) [0] rfl ?_
  show SW l Γ yX5_readCards.cls cX5_readCards Y_OrdR_readCards (pB k) g 174 0 0 μ 0 [(0, vr Γ 63)] []
  unfold f_OrdR_readCards at h
  refine z_rload_n dX5_readCards_0 rfl 0 rfl ?_
  refine z_iconst dX5_readCards_1 ?_
  refine z_putI (q := 9066) ff_5_2 (Or.inl rfl) rfl dX5_readCards_2 kt_63 (Nat.le_of_ble_eq_true rfl) fl_X5_95 rfl ?_
  refine z_mm (fun μ_1 eμ_1 => ?_)
  replace h := h μ_1 eμ_1
  replace hs : StatR μ_1.2.2 := by rw [eμ_1]; exact hs
  refine z_rload_n dX5_readCards_5 rfl 0 rfl ?_
  obtain ⟨r6, h9, hr_r6, h⟩ := h
  refine z_getR (q := 9065) ff_5_1 dX5_readCards_6 kt_63 (Nat.le_of_ble_eq_true rfl) fl_X5_15 rfl h9 ?_
  refine z_rload_n dX5_readCards_9 rfl 0 rfl ?_
  refine z_getI (q := 9066) ff_5_2 dX5_readCards_10 kt_63 (Nat.le_of_ble_eq_true rfl) fl_X5_95 rfl ?_
  refine z_VU (i_Rules_beginPart hr_r6 hs h) vk_X8_beginPart (ru_k hr_r6) (ru_l hr_r6) rfl ml_X5_98 ⟨Nat.le_of_ble_eq_true rfl, Nat.le_of_ble_eq_true rfl⟩ ⟨Nat.zero_le _, Nat.zero_le _⟩ rfl rfl (Nat.le_of_ble_eq_true rfl) dX5_readCards_13 (fun μ_2 hs h => ?_)
  refine z_rload_n dX5_readCards_16 rfl 0 rfl ?_
  refine z_iconst dX5_readCards_17 ?_
  refine z_VB ((ok_O 60 _ _ _ hs).2.2.2.2.2.1 h) vk_X5_sum kt_63 (Nat.le_of_ble_eq_true rfl) rfl ml_X5_113 ⟨Nat.le_of_ble_eq_true rfl, Nat.le_of_ble_eq_true rfl⟩ ⟨Nat.zero_le _, Nat.zero_le _⟩ rfl rfl (Nat.le_of_ble_eq_true rfl) dX5_readCards_18 (fun r18 μ_3 hs h => ?_)
  refine z_istore_n (lv' := [(1, vi (b2i r18)), (0, vr Γ 63)]) dX5_readCards_21 rfl (Nat.le_of_ble_eq_true rfl) rfl ?_
  refine z_rload_n dX5_readCards_22 rfl 1 rfl ?_
  obtain ⟨r23, h9, hr_r23, h⟩ := h
  refine z_getR (q := 9065) ff_5_1 dX5_readCards_23 kt_63 (Nat.le_of_ble_eq_true rfl) fl_X5_15 rfl h9 ?_
  refine z_rload_n dX5_readCards_26 rfl 1 rfl ?_
  refine z_getI (q := 9066) ff_5_2 dX5_readCards_27 kt_63 (Nat.le_of_ble_eq_true rfl) fl_X5_95 rfl ?_
  refine z_VU (i_Rules_endPart hr_r23 hs h) vk_X8_endPart (ru_k hr_r23) (ru_l hr_r23) rfl ml_X5_110 ⟨Nat.le_of_ble_eq_true rfl, Nat.le_of_ble_eq_true rfl⟩ ⟨Nat.zero_le _, Nat.zero_le _⟩ rfl rfl (Nat.le_of_ble_eq_true rfl) dX5_readCards_30 (fun μ_4 hs h => ?_)
  refine z_iload_n dX5_readCards_33 rfl 0 rfl ?_
  exact z_zret (b := r18) rfl dX5_readCards_34 rfl rfl rfl ⟨_, rfl, hs, h⟩
abbrev Y_Tape_skipWord : Yt := (2, (some .boolean), yX9_skipWord.name, { frames := 6, cells := 0, slots := 0, locals := 144 }, 174, 0, 0)
def f_Tape_skipWord (a1 : Nat) (μ : Mem) (k : Bool → Mem → Prop) : Prop := f_Tape_isWord a1 μ (fun r2 μ_1 => if r2 = true then (f_Tape_next  μ_1 (fun μ_2 => k true μ_2)) else (f_Tape_fail 1 μ_1 (fun r10 μ_3 => k r10 μ_3)))
theorem i_Tape_skipWord {l : Launch} {Γ : Gam} {g : Nat} {a1 : Nat} {μ : Mem} {k : Bool → Mem → Prop} (hq_a1 : a1 < 30) (hs : StatR μ.2.2) (h : f_Tape_skipWord a1 μ k) : CT l Γ yX9_skipWord cX9_skipWord 2 (some .boolean) 6 144 0 0 [vr Γ 10, .ref (Γ.2.2.2.2.1 a1)] g 174 μ (pB k) := by
  refine SW.ct (by decide) (Nat.le_of_ble_eq_true rfl) ?_
  refine z_sub (lv' := [(0, vr Γ 10), (1, .ref (Γ.2.2.2.2.1 a1))]) [0, 1] rfl ?_
  show SW l Γ yX9_skipWord.cls cX9_skipWord Y_Tape_skipWord (pB k) g 174 0 0 μ 0 [(0, vr Γ 10), (1, .ref (Γ.2.2.2.2.1 a1))] []
  unfold f_Tape_skipWord at h
  refine z_rload_n dX9_skipWord_0 rfl 0 rfl ?_
  refine z_aload_n dX9_skipWord_1 rfl 1 rfl ?_
  refine z_VB (i_Tape_isWord hq_a1 hs h) vk_X9_isWord kt_10 (Nat.le_of_ble_eq_true rfl) rfl ml_X9_75 ⟨Nat.le_of_ble_eq_true rfl, Nat.le_of_ble_eq_true rfl⟩ ⟨Nat.zero_le _, Nat.zero_le _⟩ rfl rfl (Nat.le_of_ble_eq_true rfl) dX9_skipWord_2 (fun r2 μ_1 hs h => ?_)
  refine z_ifne_b (tgt := 14) dX9_skipWord_5 (by decide) h (fun h => ?_) (fun h => ?_)
  · refine z_rload_n dX9_skipWord_14 rfl 0 rfl ?_
    refine z_VU (i_Tape_next  hs h) vk_X9_next kt_10 (Nat.le_of_ble_eq_true rfl) rfl ml_X9_32 ⟨Nat.le_of_ble_eq_true rfl, Nat.le_of_ble_eq_true rfl⟩ ⟨Nat.zero_le _, Nat.zero_le _⟩ rfl rfl (Nat.le_of_ble_eq_true rfl) dX9_skipWord_15 (fun μ_2 hs h => ?_)
    refine z_iconst dX9_skipWord_18 ?_
    exact z_zret (b := true) rfl dX9_skipWord_19 rfl rfl rfl ⟨_, rfl, hs, h⟩
  · refine z_rload_n dX9_skipWord_8 rfl 0 rfl ?_
    refine z_iconst dX9_skipWord_9 ?_
    refine z_VB (i_Tape_fail  hs h) vk_X9_fail kt_10 (Nat.le_of_ble_eq_true rfl) rfl ml_X9_72 ⟨Nat.le_of_ble_eq_true rfl, Nat.le_of_ble_eq_true rfl⟩ ⟨Nat.zero_le _, Nat.zero_le _⟩ rfl rfl (Nat.le_of_ble_eq_true rfl) dX9_skipWord_10 (fun r10 μ_3 hs h => ?_)
    exact z_zret (b := r10) rfl dX9_skipWord_13 rfl rfl rfl ⟨_, rfl, hs, h⟩
abbrev Y_OrdR_readCondition : Yt := (3, (some .boolean), yX5_readCondition.name, { frames := 611, cells := 0, slots := 0, locals := 3923 }, 174, 0, 0)
def b_OrdR_readCondition_26 (k : Bool → Mem → Prop) (v1 : Int) (μ_2 : Mem) : Prop := ∀ μ_3 : Mem, μ_3 = sI μ_2 9066 0 v1 → ∃ r32 : Nat, rR μ_3 9065 0 = some r32 ∧ isRu r32 = true ∧ f_Rules_beginPart r32 (rI μ_3 9066 0) μ_3 (fun μ_4 => f_Tape_skipWord 9 μ_4 (fun r48 μ_5 => if r48 = true then (R_O 60 0 0 μ_5 (fun r56 μ_6 => ∀ x67 : Bool, x67 = (if r56 = true then true else false) → ∃ r69 : Nat, rR μ_6 9065 0 = some r69 ∧ isRu r69 = true ∧ f_Rules_endPart r69 (rI μ_6 9066 0) μ_6 (fun μ_7 => k x67 μ_7))) else (∃ r69_1 : Nat, rR μ_5 9065 0 = some r69_1 ∧ isRu r69_1 = true ∧ f_Rules_endPart r69_1 (rI μ_5 9066 0) μ_5 (fun μ_8 => k false μ_8))))
def f_OrdR_readCondition (a1 : Int) (μ : Mem) (k : Bool → Mem → Prop) : Prop := if w a1 = w (-1) then (f_Tape_fail 1 μ (fun r10 μ_1 => k r10 μ_1)) else (if w a1 = w 4 then (b_OrdR_readCondition_26 k a1 μ) else (f_Tape_next  μ (fun μ_9 => b_OrdR_readCondition_26 k a1 μ_9)))
theorem B_OrdR_readCondition_26 {l : Launch} {Γ : Gam} {g : Nat} {k : Bool → Mem → Prop} {v1 : Int} {μ_2 : Mem} (hs : StatR μ_2.2.2) (h : b_OrdR_readCondition_26 k v1 μ_2) : SW l Γ yX5_readCondition.cls cX5_readCondition Y_OrdR_readCondition (pB k) g 174 0 0 μ_2 26 [(0, vr Γ 63), (1, vi v1)] [] := by
  unfold b_OrdR_readCondition_26 at h
  refine z_rload_n dX5_readCondition_26 rfl 0 rfl ?_
  refine z_iload_n dX5_readCondition_27 rfl 1 rfl ?_
  refine z_putI (q := 9066) ff_5_2 (Or.inl rfl) rfl dX5_readCondition_28 kt_63 (Nat.le_of_ble_eq_true rfl) fl_X5_95 rfl ?_
  refine z_mm (fun μ_3 eμ_3 => ?_)
  replace h := h μ_3 eμ_3
  replace hs : StatR μ_3.2.2 := by rw [eμ_3]; exact hs
  refine z_rload_n dX5_readCondition_31 rfl 0 rfl ?_
  obtain ⟨r32, h9, hr_r32, h⟩ := h
  refine z_getR (q := 9065) ff_5_1 dX5_readCondition_32 kt_63 (Nat.le_of_ble_eq_true rfl) fl_X5_15 rfl h9 ?_
  refine z_rload_n dX5_readCondition_35 rfl 0 rfl ?_
  refine z_getI (q := 9066) ff_5_2 dX5_readCondition_36 kt_63 (Nat.le_of_ble_eq_true rfl) fl_X5_95 rfl ?_
  refine z_VU (i_Rules_beginPart hr_r32 hs h) vk_X8_beginPart (ru_k hr_r32) (ru_l hr_r32) rfl ml_X5_98 ⟨Nat.le_of_ble_eq_true rfl, Nat.le_of_ble_eq_true rfl⟩ ⟨Nat.zero_le _, Nat.zero_le _⟩ rfl rfl (Nat.le_of_ble_eq_true rfl) dX5_readCondition_39 (fun μ_4 hs h => ?_)
  refine z_rload_n dX5_readCondition_42 rfl 0 rfl ?_
  refine z_getR (q := 9064) ff_5_0 dX5_readCondition_43 kt_63 (Nat.le_of_ble_eq_true rfl) fl_X5_9 rfl (hs.1 _ _ sr_9064) ?_
  refine z_ldcS dX5_readCondition_46 st_X5_102 ?_
  refine z_VB (i_Tape_skipWord (Nat.le_of_ble_eq_true rfl) hs h) vk_X9_skipWord kt_10 (Nat.le_of_ble_eq_true rfl) rfl ml_X5_104 ⟨Nat.le_of_ble_eq_true rfl, Nat.le_of_ble_eq_true rfl⟩ ⟨Nat.zero_le _, Nat.zero_le _⟩ rfl rfl (Nat.le_of_ble_eq_true rfl) dX5_readCondition_48 (fun r48 μ_5 hs h => ?_)
  refine z_ifeq_b (tgt := 66) dX5_readCondition_51 (by decide) h (fun h => ?_) (fun h => ?_)
  · refine z_rload_n dX5_readCondition_54 rfl 0 rfl ?_
    refine z_iconst dX5_readCondition_55 ?_
    refine z_VB ((ok_O 60 _ _ _ hs).1 h) vk_X5_either kt_63 (Nat.le_of_ble_eq_true rfl) rfl ml_X5_107 ⟨Nat.le_of_ble_eq_true rfl, Nat.le_of_ble_eq_true rfl⟩ ⟨Nat.zero_le _, Nat.zero_le _⟩ rfl rfl (Nat.le_of_ble_eq_true rfl) dX5_readCondition_56 (fun r56 μ_6 hs h => ?_)
    refine z_phiB 67 [] (fun V9 hv J9 => ?_) h (fun x67 h => ?_)
    · refine z_ifeq_b (tgt := 66) dX5_readCondition_59 (by decide) (eq_ite hv) (fun hv => ?_) (fun hv => ?_)
      · refine z_iconst dX5_readCondition_62 ?_
        refine z_goto (tgt := 67) dX5_readCondition_63 (by decide) ?_
        exact J9 true hv.symm
      · refine z_iconst dX5_readCondition_66 ?_
        exact J9 false hv.symm
    · refine z_istore_n (lv' := [(2, vi (b2i x67)), (0, vr Γ 63), (1, vi v1)]) dX5_readCondition_67 rfl (Nat.le_of_ble_eq_true rfl) rfl ?_
      refine z_rload_n dX5_readCondition_68 rfl 1 rfl ?_
      obtain ⟨r69, h9, hr_r69, h⟩ := h
      refine z_getR (q := 9065) ff_5_1 dX5_readCondition_69 kt_63 (Nat.le_of_ble_eq_true rfl) fl_X5_15 rfl h9 ?_
      refine z_rload_n dX5_readCondition_72 rfl 1 rfl ?_
      refine z_getI (q := 9066) ff_5_2 dX5_readCondition_73 kt_63 (Nat.le_of_ble_eq_true rfl) fl_X5_95 rfl ?_
      refine z_VU (i_Rules_endPart hr_r69 hs h) vk_X8_endPart (ru_k hr_r69) (ru_l hr_r69) rfl ml_X5_110 ⟨Nat.le_of_ble_eq_true rfl, Nat.le_of_ble_eq_true rfl⟩ ⟨Nat.zero_le _, Nat.zero_le _⟩ rfl rfl (Nat.le_of_ble_eq_true rfl) dX5_readCondition_76 (fun μ_7 hs h => ?_)
      refine z_iload_n dX5_readCondition_79 rfl 0 rfl ?_
      exact z_zret (b := x67) rfl dX5_readCondition_80 rfl rfl rfl ⟨_, rfl, hs, h⟩
  · refine z_iconst dX5_readCondition_66 ?_
    refine z_istore_n (lv' := [(2, vi 0), (0, vr Γ 63), (1, vi v1)]) dX5_readCondition_67 rfl (Nat.le_of_ble_eq_true rfl) rfl ?_
    refine z_rload_n dX5_readCondition_68 rfl 1 rfl ?_
    obtain ⟨r69_1, h9, hr_r69_1, h⟩ := h
    refine z_getR (q := 9065) ff_5_1 dX5_readCondition_69 kt_63 (Nat.le_of_ble_eq_true rfl) fl_X5_15 rfl h9 ?_
    refine z_rload_n dX5_readCondition_72 rfl 1 rfl ?_
    refine z_getI (q := 9066) ff_5_2 dX5_readCondition_73 kt_63 (Nat.le_of_ble_eq_true rfl) fl_X5_95 rfl ?_
    refine z_VU (i_Rules_endPart hr_r69_1 hs h) vk_X8_endPart (ru_k hr_r69_1) (ru_l hr_r69_1) rfl ml_X5_110 ⟨Nat.le_of_ble_eq_true rfl, Nat.le_of_ble_eq_true rfl⟩ ⟨Nat.zero_le _, Nat.zero_le _⟩ rfl rfl (Nat.le_of_ble_eq_true rfl) dX5_readCondition_76 (fun μ_8 hs h => ?_)
    refine z_iload_n dX5_readCondition_79 rfl 0 rfl ?_
    exact z_zret (b := false) rfl dX5_readCondition_80 rfl rfl rfl ⟨_, rfl, hs, h⟩
theorem i_OrdR_readCondition {l : Launch} {Γ : Gam} {g : Nat} {a1 : Int} {μ : Mem} {k : Bool → Mem → Prop} (hs : StatR μ.2.2) (h : f_OrdR_readCondition a1 μ k) : CT l Γ yX5_readCondition cX5_readCondition 3 (some .boolean) 611 3923 0 0 [vr Γ 63, vi a1] g 174 μ (pB k) := by
  refine SW.ct (by decide) (Nat.le_of_ble_eq_true rfl) ?_
  refine z_sub (lv' := [(0, vr Γ 63), (1, vi a1)]) [0, 1] rfl ?_
  show SW l Γ yX5_readCondition.cls cX5_readCondition Y_OrdR_readCondition (pB k) g 174 0 0 μ 0 [(0, vr Γ 63), (1, vi a1)] []
  unfold f_OrdR_readCondition at h
  refine z_iload_n dX5_readCondition_0 rfl 1 rfl ?_
  refine z_iconst dX5_readCondition_1 ?_
  refine z_icmp_ne (tgt := 14) dX5_readCondition_2 (by decide) h (fun h => ?_) (fun h => ?_)
  · refine z_rload_n dX5_readCondition_5 rfl 0 rfl ?_
    refine z_getR (q := 9064) ff_5_0 dX5_readCondition_6 kt_63 (Nat.le_of_ble_eq_true rfl) fl_X5_9 rfl (hs.1 _ _ sr_9064) ?_
    refine z_iconst dX5_readCondition_9 ?_
    refine z_VB (i_Tape_fail  hs h) vk_X9_fail kt_10 (Nat.le_of_ble_eq_true rfl) rfl ml_X5_41 ⟨Nat.le_of_ble_eq_true rfl, Nat.le_of_ble_eq_true rfl⟩ ⟨Nat.zero_le _, Nat.zero_le _⟩ rfl rfl (Nat.le_of_ble_eq_true rfl) dX5_readCondition_10 (fun r10 μ_1 hs h => ?_)
    exact z_zret (b := r10) rfl dX5_readCondition_13 rfl rfl rfl ⟨_, rfl, hs, h⟩
  · refine z_iload_n dX5_readCondition_14 rfl 1 rfl ?_
    refine z_iconst dX5_readCondition_15 ?_
    refine z_icmp_eq (tgt := 26) dX5_readCondition_16 (by decide) h (fun h => ?_) (fun h => ?_)
    · refine z_sub (lv' := [(0, vr Γ 63), (1, vi a1)]) [0, 1] rfl ?_
      exact B_OrdR_readCondition_26 hs h
    · refine z_rload_n dX5_readCondition_19 rfl 0 rfl ?_
      refine z_getR (q := 9064) ff_5_0 dX5_readCondition_20 kt_63 (Nat.le_of_ble_eq_true rfl) fl_X5_9 rfl (hs.1 _ _ sr_9064) ?_
      refine z_VU (i_Tape_next  hs h) vk_X9_next kt_10 (Nat.le_of_ble_eq_true rfl) rfl ml_X5_44 ⟨Nat.le_of_ble_eq_true rfl, Nat.le_of_ble_eq_true rfl⟩ ⟨Nat.zero_le _, Nat.zero_le _⟩ rfl rfl (Nat.le_of_ble_eq_true rfl) dX5_readCondition_23 (fun μ_9 hs h => ?_)
      refine z_sub (lv' := [(0, vr Γ 63), (1, vi a1)]) [0, 1] rfl ?_
      exact B_OrdR_readCondition_26 hs h
abbrev Y_Tape_takeN : Yt := (5, (some .int), yX9_takeN.name, { frames := 2, cells := 0, slots := 0, locals := 41 }, 174, 0, 0)
def f_Tape_takeN (a1 : Int) (a2 : Int64) (μ : Mem) (k : Int → Mem → Prop) : Prop := if w (rI μ 2282 0) = w 2 then (if w (rI μ 2285 0) < w 1 then (f_Tape_fail 2 μ (fun r56 μ_1 => k 0 μ_1)) else (if w a1 < w (rI μ 2285 0) then (f_Tape_fail 2 μ (fun r56_1 μ_2 => k 0 μ_2)) else (if w 60 < w (rI μ 2285 0) then (∀ v4 : Int, v4 = rI μ 2285 0 → f_Tape_next  μ (fun μ_3 => k v4 μ_3)) else (if ((w_lushr a2 (rI μ 2285 0)) &&& 1) = 0 then (∀ v4_1 : Int, v4_1 = rI μ 2285 0 → f_Tape_next  μ (fun μ_4 => k v4_1 μ_4)) else (f_Tape_fail 2 μ (fun r56_2 μ_5 => k 0 μ_5)))))) else (f_Tape_fail 1 μ (fun r10 μ_6 => k 0 μ_6))
theorem i_Tape_takeN {l : Launch} {Γ : Gam} {g : Nat} {a1 : Int} {a2 : Int64} {μ : Mem} {k : Int → Mem → Prop} (hs : StatR μ.2.2) (h : f_Tape_takeN a1 a2 μ k) : CT l Γ yX9_takeN cX9_takeN 5 (some .int) 2 41 0 0 [vr Γ 10, vi a1, vl a2] g 174 μ (pI k) := by
  refine SW.ct (by decide) (Nat.le_of_ble_eq_true rfl) ?_
  refine z_sub (lv' := [(0, vr Γ 10), (1, vi a1), (2, vl a2)]) [0, 1, 2] rfl ?_
  show SW l Γ yX9_takeN.cls cX9_takeN Y_Tape_takeN (pI k) g 174 0 0 μ 0 [(0, vr Γ 10), (1, vi a1), (2, vl a2)] []
  unfold f_Tape_takeN at h
  refine z_rload_n dX9_takeN_0 rfl 0 rfl ?_
  refine z_getI (q := 2282) ff_9_2 dX9_takeN_1 kt_10 (Nat.le_of_ble_eq_true rfl) fl_X9_46 rfl ?_
  refine z_iconst dX9_takeN_4 ?_
  refine z_icmp_eq (tgt := 16) dX9_takeN_5 (by decide) h (fun h => ?_) (fun h => ?_)
  · refine z_rload_n dX9_takeN_16 rfl 0 rfl ?_
    refine z_getI (q := 2285) ff_9_5 dX9_takeN_17 kt_10 (Nat.le_of_ble_eq_true rfl) fl_X9_49 rfl ?_
    refine z_iconst dX9_takeN_20 ?_
    refine z_icmp_lt (tgt := 54) dX9_takeN_21 (by decide) h (fun h => ?_) (fun h => ?_)
    · refine z_rload_n dX9_takeN_54 rfl 0 rfl ?_
      refine z_iconst dX9_takeN_55 ?_
      refine z_VB (i_Tape_fail  hs h) vk_X9_fail kt_10 (Nat.le_of_ble_eq_true rfl) rfl ml_X9_72 ⟨Nat.le_of_ble_eq_true rfl, Nat.le_of_ble_eq_true rfl⟩ ⟨Nat.zero_le _, Nat.zero_le _⟩ rfl rfl (Nat.le_of_ble_eq_true rfl) dX9_takeN_56 (fun r56 μ_1 hs h => ?_)
      refine z_pop dX9_takeN_59 rfl ?_
      refine z_iconst dX9_takeN_60 ?_
      exact z_iret rfl dX9_takeN_61 rfl rfl rfl ⟨_, rfl, hs, h⟩
    · refine z_rload_n dX9_takeN_24 rfl 0 rfl ?_
      refine z_getI (q := 2285) ff_9_5 dX9_takeN_25 kt_10 (Nat.le_of_ble_eq_true rfl) fl_X9_49 rfl ?_
      refine z_iload_n dX9_takeN_28 rfl 1 rfl ?_
      refine z_icmp_gt (tgt := 54) dX9_takeN_29 (by decide) h (fun h => ?_) (fun h => ?_)
      · refine z_rload_n dX9_takeN_54 rfl 0 rfl ?_
        refine z_iconst dX9_takeN_55 ?_
        refine z_VB (i_Tape_fail  hs h) vk_X9_fail kt_10 (Nat.le_of_ble_eq_true rfl) rfl ml_X9_72 ⟨Nat.le_of_ble_eq_true rfl, Nat.le_of_ble_eq_true rfl⟩ ⟨Nat.zero_le _, Nat.zero_le _⟩ rfl rfl (Nat.le_of_ble_eq_true rfl) dX9_takeN_56 (fun r56_1 μ_2 hs h => ?_)
        refine z_pop dX9_takeN_59 rfl ?_
        refine z_iconst dX9_takeN_60 ?_
        exact z_iret rfl dX9_takeN_61 rfl rfl rfl ⟨_, rfl, hs, h⟩
      · refine z_rload_n dX9_takeN_32 rfl 0 rfl ?_
        refine z_getI (q := 2285) ff_9_5 dX9_takeN_33 kt_10 (Nat.le_of_ble_eq_true rfl) fl_X9_49 rfl ?_
        refine z_bipush dX9_takeN_36 (by decide) ?_
        refine z_icmp_gt (tgt := 62) dX9_takeN_38 (by decide) h (fun h => ?_) (fun h => ?_)
        · refine z_rload_n dX9_takeN_62 rfl 0 rfl ?_
          refine z_getI (q := 2285) ff_9_5 dX9_takeN_63 kt_10 (Nat.le_of_ble_eq_true rfl) fl_X9_49 rfl ?_
          refine z_nm (fun v4 ev4 => ?_)
          replace h := h v4 ev4
          refine z_istore (lv' := [(4, vi v4), (0, vr Γ 10), (1, vi a1), (2, vl a2)]) dX9_takeN_66 (Nat.le_of_ble_eq_true rfl) rfl ?_
          refine z_rload_n dX9_takeN_68 rfl 1 rfl ?_
          refine z_VU (i_Tape_next  hs h) vk_X9_next kt_10 (Nat.le_of_ble_eq_true rfl) rfl ml_X9_32 ⟨Nat.le_of_ble_eq_true rfl, Nat.le_of_ble_eq_true rfl⟩ ⟨Nat.zero_le _, Nat.zero_le _⟩ rfl rfl (Nat.le_of_ble_eq_true rfl) dX9_takeN_69 (fun μ_3 hs h => ?_)
          refine z_iload dX9_takeN_72 0 rfl ?_
          exact z_iret rfl dX9_takeN_74 rfl rfl rfl ⟨_, rfl, hs, h⟩
        · refine z_lload_n dX9_takeN_41 rfl 2 rfl ?_
          refine z_rload_n dX9_takeN_42 rfl 0 rfl ?_
          refine z_getI (q := 2285) ff_9_5 dX9_takeN_43 kt_10 (Nat.le_of_ble_eq_true rfl) fl_X9_49 rfl ?_
          refine z_lushr dX9_takeN_46 ?_
          refine z_lconst (v := 1) dX9_takeN_47 rfl ?_
          refine z_land dX9_takeN_48 ?_
          refine z_lconst (v := 0) dX9_takeN_49 rfl ?_
          refine z_lcmp_eq (tgt := 62) dX9_takeN_50 dX9_takeN_51 (by decide) h (fun h => ?_) (fun h => ?_)
          · refine z_rload_n dX9_takeN_62 rfl 0 rfl ?_
            refine z_getI (q := 2285) ff_9_5 dX9_takeN_63 kt_10 (Nat.le_of_ble_eq_true rfl) fl_X9_49 rfl ?_
            refine z_nm (fun v4_1 ev4_1 => ?_)
            replace h := h v4_1 ev4_1
            refine z_istore (lv' := [(4, vi v4_1), (0, vr Γ 10), (1, vi a1), (2, vl a2)]) dX9_takeN_66 (Nat.le_of_ble_eq_true rfl) rfl ?_
            refine z_rload_n dX9_takeN_68 rfl 1 rfl ?_
            refine z_VU (i_Tape_next  hs h) vk_X9_next kt_10 (Nat.le_of_ble_eq_true rfl) rfl ml_X9_32 ⟨Nat.le_of_ble_eq_true rfl, Nat.le_of_ble_eq_true rfl⟩ ⟨Nat.zero_le _, Nat.zero_le _⟩ rfl rfl (Nat.le_of_ble_eq_true rfl) dX9_takeN_69 (fun μ_4 hs h => ?_)
            refine z_iload dX9_takeN_72 0 rfl ?_
            exact z_iret rfl dX9_takeN_74 rfl rfl rfl ⟨_, rfl, hs, h⟩
          · refine z_rload_n dX9_takeN_54 rfl 0 rfl ?_
            refine z_iconst dX9_takeN_55 ?_
            refine z_VB (i_Tape_fail  hs h) vk_X9_fail kt_10 (Nat.le_of_ble_eq_true rfl) rfl ml_X9_72 ⟨Nat.le_of_ble_eq_true rfl, Nat.le_of_ble_eq_true rfl⟩ ⟨Nat.zero_le _, Nat.zero_le _⟩ rfl rfl (Nat.le_of_ble_eq_true rfl) dX9_takeN_56 (fun r56_2 μ_5 hs h => ?_)
            refine z_pop dX9_takeN_59 rfl ?_
            refine z_iconst dX9_takeN_60 ?_
            exact z_iret rfl dX9_takeN_61 rfl rfl rfl ⟨_, rfl, hs, h⟩
  · refine z_rload_n dX9_takeN_8 rfl 0 rfl ?_
    refine z_iconst dX9_takeN_9 ?_
    refine z_VB (i_Tape_fail  hs h) vk_X9_fail kt_10 (Nat.le_of_ble_eq_true rfl) rfl ml_X9_72 ⟨Nat.le_of_ble_eq_true rfl, Nat.le_of_ble_eq_true rfl⟩ ⟨Nat.zero_le _, Nat.zero_le _⟩ rfl rfl (Nat.le_of_ble_eq_true rfl) dX9_takeN_10 (fun r10 μ_6 hs h => ?_)
    refine z_pop dX9_takeN_13 rfl ?_
    refine z_iconst dX9_takeN_14 ?_
    exact z_iret rfl dX9_takeN_15 rfl rfl rfl ⟨_, rfl, hs, h⟩
abbrev Y_OrdR_readClause : Yt := (4, (some .boolean), yX5_readClause.name, { frames := 612, cells := 0, slots := 0, locals := 3945 }, 174, 0, 0)
def f_OrdR_readClause (a1 : Int) (μ : Mem) (k : Bool → Mem → Prop) : Prop := f_OrdR_clauseAtHand  μ (fun r1 μ_1 => if w r1 = w (-1) then (f_Tape_fail 1 μ_1 (fun r15 μ_2 => k r15 μ_2)) else (if w a1 < w 15 then (f_Tape_next  μ_1 (fun μ_3 => if w r1 = 0 then (f_OrdR_kindAtHand  μ_3 (fun r82 μ_4 => f_OrdR_readCondition r82 μ_4 (fun r85 μ_5 => if r85 = true then (f_Tape_skipSign 59 μ_5 (fun r200 μ_6 => ∀ x211 : Bool, x211 = (if r200 = true then true else false) → k x211 μ_6)) else (k false μ_5)))) else (if w r1 = 1 then (f_OrdR_readCards  μ_3 (fun r93 μ_7 => if r93 = true then (f_Tape_skipSign 59 μ_7 (fun r200_1 μ_8 => ∀ x211_1 : Bool, x211_1 = (if r200_1 = true then true else false) → k x211_1 μ_8)) else (k false μ_7))) else (if w r1 = 2 then (∃ r101 : Nat, rR μ_3 9065 0 = some r101 ∧ isRu r101 = true ∧ f_Tape_takeN 999 0 μ_3 (fun r112 μ_9 => ∀ μ_10 : Mem, μ_10 = sI μ_9 (gid r101 4) 0 r112 → ∃ r119 : Nat, rR μ_10 9065 0 = some r119 ∧ isRu r119 = true ∧ ∀ x133 : Bool, x133 = (if 0 < w (rI μ_10 (gid r119 4) 0) then true else false) → if x133 = true then (f_Tape_skipSign 59 μ_10 (fun r200_2 μ_11 => ∀ x211_2 : Bool, x211_2 = (if r200_2 = true then true else false) → k x211_2 μ_11)) else (k false μ_10))) else (if w r1 = 3 then (∃ r138 : Nat, rR μ_3 9065 0 = some r138 ∧ isRu r138 = true ∧ f_Tape_takeN 12 0 μ_3 (fun r148 μ_12 => ∀ μ_13 : Mem, μ_13 = sI μ_12 (gid r138 5) 0 r148 → ∃ r155 : Nat, rR μ_13 9065 0 = some r155 ∧ isRu r155 = true ∧ ∀ x169 : Bool, x169 = (if 0 < w (rI μ_13 (gid r155 5) 0) then true else false) → if x169 = true then (f_Tape_skipSign 59 μ_13 (fun r200_3 μ_14 => ∀ x211_3 : Bool, x211_3 = (if r200_3 = true then true else false) → k x211_3 μ_14)) else (k false μ_13))) else (if w r1 = 4 then (∃ r174 : Nat, rR μ_3 9065 0 = some r174 ∧ isRu r174 = true ∧ ∀ μ_15 : Mem, μ_15 = sB μ_3 (gid r174 6) 0 true → if w 1 = 0 then (k false μ_15) else (f_Tape_skipSign 59 μ_15 (fun r200_4 μ_16 => ∀ x211_4 : Bool, x211_4 = (if r200_4 = true then true else false) → k x211_4 μ_16))) else (f_OrdR_readCondition 4 μ_3 (fun r186 μ_17 => if r186 = true then (f_Tape_skipSign 59 μ_17 (fun r200_5 μ_18 => ∀ x211_5 : Bool, x211_5 = (if r200_5 = true then true else false) → k x211_5 μ_18)) else (k false μ_17))))))))) else (f_Tape_fail 4 μ_1 (fun r30 μ_19 => k r30 μ_19))))
theorem i_OrdR_readClause {l : Launch} {Γ : Gam} {g : Nat} {a1 : Int} {μ : Mem} {k : Bool → Mem → Prop} (hs : StatR μ.2.2) (h : f_OrdR_readClause a1 μ k) : CT l Γ yX5_readClause cX5_readClause 4 (some .boolean) 612 3945 0 0 [vr Γ 63, vi a1] g 174 μ (pB k) := by
  refine SW.ct (by decide) (Nat.le_of_ble_eq_true rfl) ?_
  refine z_sub (lv' := [(0, vr Γ 63), (1, vi a1)]) [0, 1] rfl ?_
  show SW l Γ yX5_readClause.cls cX5_readClause Y_OrdR_readClause (pB k) g 174 0 0 μ 0 [(0, vr Γ 63), (1, vi a1)] []
  unfold f_OrdR_readClause at h
  refine z_rload_n dX5_readClause_0 rfl 0 rfl ?_
  refine z_VI (i_OrdR_clauseAtHand  hs h) vk_X5_clauseAtHand kt_63 (Nat.le_of_ble_eq_true rfl) rfl ml_X5_37 ⟨Nat.le_of_ble_eq_true rfl, Nat.le_of_ble_eq_true rfl⟩ ⟨Nat.zero_le _, Nat.zero_le _⟩ rfl rfl (Nat.le_of_ble_eq_true rfl) dX5_readClause_1 (fun r1 μ_1 hs h => ?_)
  refine z_istore_n (lv' := [(2, vi r1), (0, vr Γ 63), (1, vi a1)]) dX5_readClause_4 rfl (Nat.le_of_ble_eq_true rfl) rfl ?_
  refine z_iload_n dX5_readClause_5 rfl 0 rfl ?_
  refine z_iconst dX5_readClause_6 ?_
  refine z_icmp_ne (tgt := 19) dX5_readClause_7 (by decide) h (fun h => ?_) (fun h => ?_)
  · refine z_rload_n dX5_readClause_10 rfl 1 rfl ?_
    refine z_getR (q := 9064) ff_5_0 dX5_readClause_11 kt_63 (Nat.le_of_ble_eq_true rfl) fl_X5_9 rfl (hs.1 _ _ sr_9064) ?_
    refine z_iconst dX5_readClause_14 ?_
    refine z_VB (i_Tape_fail  hs h) vk_X9_fail kt_10 (Nat.le_of_ble_eq_true rfl) rfl ml_X5_41 ⟨Nat.le_of_ble_eq_true rfl, Nat.le_of_ble_eq_true rfl⟩ ⟨Nat.zero_le _, Nat.zero_le _⟩ rfl rfl (Nat.le_of_ble_eq_true rfl) dX5_readClause_15 (fun r15 μ_2 hs h => ?_)
    exact z_zret (b := r15) rfl dX5_readClause_18 rfl rfl rfl ⟨_, rfl, hs, h⟩
  · refine z_iload_n dX5_readClause_19 rfl 2 rfl ?_
    refine z_bipush dX5_readClause_20 (by decide) ?_
    refine z_icmp_lt (tgt := 34) dX5_readClause_22 (by decide) h (fun h => ?_) (fun h => ?_)
    · refine z_rload_n dX5_readClause_34 rfl 1 rfl ?_
      refine z_getR (q := 9064) ff_5_0 dX5_readClause_35 kt_63 (Nat.le_of_ble_eq_true rfl) fl_X5_9 rfl (hs.1 _ _ sr_9064) ?_
      refine z_VU (i_Tape_next  hs h) vk_X9_next kt_10 (Nat.le_of_ble_eq_true rfl) rfl ml_X5_44 ⟨Nat.le_of_ble_eq_true rfl, Nat.le_of_ble_eq_true rfl⟩ ⟨Nat.zero_le _, Nat.zero_le _⟩ rfl rfl (Nat.le_of_ble_eq_true rfl) dX5_readClause_38 (fun μ_3 hs h => ?_)
      refine z_iconst dX5_readClause_41 ?_
      refine z_istore_n (lv' := [(3, vi 1), (2, vi r1), (0, vr Γ 63), (1, vi a1)]) dX5_readClause_42 rfl (Nat.le_of_ble_eq_true rfl) rfl ?_
      refine z_iload_n dX5_readClause_43 rfl 1 rfl ?_
      by_cases hc0 : w r1 = 0
      · rw [if_pos hc0] at h
        refine z_tcase (tgt := 80) 0 hc0 dX5_readClause_44 (by decide) (by decide) rfl (by decide) ?_
        refine z_rload_n dX5_readClause_80 rfl 2 rfl ?_
        refine z_rload_n dX5_readClause_81 rfl 2 rfl ?_
        refine z_VI (i_OrdR_kindAtHand  hs h) vk_X5_kindAtHand kt_63 (Nat.le_of_ble_eq_true rfl) rfl ml_X5_47 ⟨Nat.le_of_ble_eq_true rfl, Nat.le_of_ble_eq_true rfl⟩ ⟨Nat.zero_le _, Nat.zero_le _⟩ rfl rfl (Nat.le_of_ble_eq_true rfl) dX5_readClause_82 (fun r82 μ_4 hs h => ?_)
        refine z_VB (i_OrdR_readCondition  hs h) vk_X5_readCondition kt_63 (Nat.le_of_ble_eq_true rfl) rfl ml_X5_50 ⟨Nat.le_of_ble_eq_true rfl, Nat.le_of_ble_eq_true rfl⟩ ⟨Nat.zero_le _, Nat.zero_le _⟩ rfl rfl (Nat.le_of_ble_eq_true rfl) dX5_readClause_85 (fun r85 μ_5 hs h => ?_)
        refine z_istore_n (lv' := [(3, vi (b2i r85)), (2, vi r1), (0, vr Γ 63), (1, vi a1)]) dX5_readClause_88 rfl (Nat.le_of_ble_eq_true rfl) rfl ?_
        refine z_goto (tgt := 190) dX5_readClause_89 (by decide) ?_
        refine z_iload_n dX5_readClause_190 rfl 0 rfl ?_
        refine z_ifeq_b (tgt := 210) dX5_readClause_191 (by decide) h (fun h => ?_) (fun h => ?_)
        · refine z_rload_n dX5_readClause_194 rfl 2 rfl ?_
          refine z_getR (q := 9064) ff_5_0 dX5_readClause_195 kt_63 (Nat.le_of_ble_eq_true rfl) fl_X5_9 rfl (hs.1 _ _ sr_9064) ?_
          refine z_bipush dX5_readClause_198 (by decide) ?_
          refine z_VB (i_Tape_skipSign  hs h) vk_X9_skipSign kt_10 (Nat.le_of_ble_eq_true rfl) rfl ml_X5_71 ⟨Nat.le_of_ble_eq_true rfl, Nat.le_of_ble_eq_true rfl⟩ ⟨Nat.zero_le _, Nat.zero_le _⟩ rfl rfl (Nat.le_of_ble_eq_true rfl) dX5_readClause_200 (fun r200 μ_6 hs h => ?_)
          refine z_phiB 211 [] (fun V9 hv J9 => ?_) h (fun x211 h => ?_)
          · refine z_ifeq_b (tgt := 210) dX5_readClause_203 (by decide) (eq_ite hv) (fun hv => ?_) (fun hv => ?_)
            · refine z_iconst dX5_readClause_206 ?_
              refine z_goto (tgt := 211) dX5_readClause_207 (by decide) ?_
              exact J9 true hv.symm
            · refine z_iconst dX5_readClause_210 ?_
              exact J9 false hv.symm
          · exact z_zret (b := x211) rfl dX5_readClause_211 rfl rfl rfl ⟨_, rfl, hs, h⟩
        · refine z_iconst dX5_readClause_210 ?_
          exact z_zret (b := false) rfl dX5_readClause_211 rfl rfl rfl ⟨_, rfl, hs, h⟩
      · rw [if_neg hc0] at h
        by_cases hc1 : w r1 = 1
        · rw [if_pos hc1] at h
          refine z_tcase (tgt := 92) 1 hc1 dX5_readClause_44 (by decide) (by decide) rfl (by decide) ?_
          refine z_rload_n dX5_readClause_92 rfl 2 rfl ?_
          refine z_VB (i_OrdR_readCards  hs h) vk_X5_readCards kt_63 (Nat.le_of_ble_eq_true rfl) rfl ml_X5_53 ⟨Nat.le_of_ble_eq_true rfl, Nat.le_of_ble_eq_true rfl⟩ ⟨Nat.zero_le _, Nat.zero_le _⟩ rfl rfl (Nat.le_of_ble_eq_true rfl) dX5_readClause_93 (fun r93 μ_7 hs h => ?_)
          refine z_istore_n (lv' := [(3, vi (b2i r93)), (2, vi r1), (0, vr Γ 63), (1, vi a1)]) dX5_readClause_96 rfl (Nat.le_of_ble_eq_true rfl) rfl ?_
          refine z_goto (tgt := 190) dX5_readClause_97 (by decide) ?_
          refine z_iload_n dX5_readClause_190 rfl 0 rfl ?_
          refine z_ifeq_b (tgt := 210) dX5_readClause_191 (by decide) h (fun h => ?_) (fun h => ?_)
          · refine z_rload_n dX5_readClause_194 rfl 2 rfl ?_
            refine z_getR (q := 9064) ff_5_0 dX5_readClause_195 kt_63 (Nat.le_of_ble_eq_true rfl) fl_X5_9 rfl (hs.1 _ _ sr_9064) ?_
            refine z_bipush dX5_readClause_198 (by decide) ?_
            refine z_VB (i_Tape_skipSign  hs h) vk_X9_skipSign kt_10 (Nat.le_of_ble_eq_true rfl) rfl ml_X5_71 ⟨Nat.le_of_ble_eq_true rfl, Nat.le_of_ble_eq_true rfl⟩ ⟨Nat.zero_le _, Nat.zero_le _⟩ rfl rfl (Nat.le_of_ble_eq_true rfl) dX5_readClause_200 (fun r200_1 μ_8 hs h => ?_)
            refine z_phiB 211 [] (fun V9 hv J9 => ?_) h (fun x211_1 h => ?_)
            · refine z_ifeq_b (tgt := 210) dX5_readClause_203 (by decide) (eq_ite hv) (fun hv => ?_) (fun hv => ?_)
              · refine z_iconst dX5_readClause_206 ?_
                refine z_goto (tgt := 211) dX5_readClause_207 (by decide) ?_
                exact J9 true hv.symm
              · refine z_iconst dX5_readClause_210 ?_
                exact J9 false hv.symm
            · exact z_zret (b := x211_1) rfl dX5_readClause_211 rfl rfl rfl ⟨_, rfl, hs, h⟩
          · refine z_iconst dX5_readClause_210 ?_
            exact z_zret (b := false) rfl dX5_readClause_211 rfl rfl rfl ⟨_, rfl, hs, h⟩
        · rw [if_neg hc1] at h
          by_cases hc2 : w r1 = 2
          · rw [if_pos hc2] at h
            refine z_tcase (tgt := 100) 2 hc2 dX5_readClause_44 (by decide) (by decide) rfl (by decide) ?_
            refine z_rload_n dX5_readClause_100 rfl 2 rfl ?_
            obtain ⟨r101, h9, hr_r101, h⟩ := h
            refine z_getR (q := 9065) ff_5_1 dX5_readClause_101 kt_63 (Nat.le_of_ble_eq_true rfl) fl_X5_15 rfl h9 ?_
            refine z_rload_n dX5_readClause_104 rfl 2 rfl ?_
            refine z_getR (q := 9064) ff_5_0 dX5_readClause_105 kt_63 (Nat.le_of_ble_eq_true rfl) fl_X5_9 rfl (hs.1 _ _ sr_9064) ?_
            refine z_sipush dX5_readClause_108 (by decide) ?_
            refine z_lconst (v := 0) dX5_readClause_111 rfl ?_
            refine z_VI (i_Tape_takeN  hs h) vk_X9_takeN kt_10 (Nat.le_of_ble_eq_true rfl) rfl ml_X5_56 ⟨Nat.le_of_ble_eq_true rfl, Nat.le_of_ble_eq_true rfl⟩ ⟨Nat.zero_le _, Nat.zero_le _⟩ rfl rfl (Nat.le_of_ble_eq_true rfl) dX5_readClause_112 (fun r112 μ_9 hs h => ?_)
            refine z_putI (q := (gid r101 4)) ff_8_4 (Or.inl rfl) rfl dX5_readClause_115 (ru_k hr_r101) (ru_l hr_r101) fl_X5_60 rfl ?_
            refine z_mm (fun μ_10 eμ_10 => ?_)
            replace h := h μ_10 eμ_10
            replace hs : StatR μ_10.2.2 := by rw [eμ_10]; exact hs
            refine z_rload_n dX5_readClause_118 rfl 2 rfl ?_
            obtain ⟨r119, h9, hr_r119, h⟩ := h
            refine z_getR (q := 9065) ff_5_1 dX5_readClause_119 kt_63 (Nat.le_of_ble_eq_true rfl) fl_X5_15 rfl h9 ?_
            refine z_getI (q := (gid r119 4)) ff_8_4 dX5_readClause_122 (ru_k hr_r119) (ru_l hr_r119) fl_X5_60 rfl ?_
            refine z_phiB 133 [] (fun V9 hv J9 => ?_) h (fun x133 h => ?_)
            · refine z_if_le (tgt := 132) dX5_readClause_125 (by decide) (eq_ite hv) (fun hv => ?_) (fun hv => ?_)
              · refine z_iconst dX5_readClause_128 ?_
                refine z_goto (tgt := 133) dX5_readClause_129 (by decide) ?_
                exact J9 true hv.symm
              · refine z_iconst dX5_readClause_132 ?_
                exact J9 false hv.symm
            · refine z_istore_n (lv' := [(3, vi (b2i x133)), (2, vi r1), (0, vr Γ 63), (1, vi a1)]) dX5_readClause_133 rfl (Nat.le_of_ble_eq_true rfl) rfl ?_
              refine z_goto (tgt := 190) dX5_readClause_134 (by decide) ?_
              refine z_iload_n dX5_readClause_190 rfl 0 rfl ?_
              refine z_ifeq_b (tgt := 210) dX5_readClause_191 (by decide) h (fun h => ?_) (fun h => ?_)
              · refine z_rload_n dX5_readClause_194 rfl 2 rfl ?_
                refine z_getR (q := 9064) ff_5_0 dX5_readClause_195 kt_63 (Nat.le_of_ble_eq_true rfl) fl_X5_9 rfl (hs.1 _ _ sr_9064) ?_
                refine z_bipush dX5_readClause_198 (by decide) ?_
                refine z_VB (i_Tape_skipSign  hs h) vk_X9_skipSign kt_10 (Nat.le_of_ble_eq_true rfl) rfl ml_X5_71 ⟨Nat.le_of_ble_eq_true rfl, Nat.le_of_ble_eq_true rfl⟩ ⟨Nat.zero_le _, Nat.zero_le _⟩ rfl rfl (Nat.le_of_ble_eq_true rfl) dX5_readClause_200 (fun r200_2 μ_11 hs h => ?_)
                refine z_phiB 211 [] (fun V9 hv J9 => ?_) h (fun x211_2 h => ?_)
                · refine z_ifeq_b (tgt := 210) dX5_readClause_203 (by decide) (eq_ite hv) (fun hv => ?_) (fun hv => ?_)
                  · refine z_iconst dX5_readClause_206 ?_
                    refine z_goto (tgt := 211) dX5_readClause_207 (by decide) ?_
                    exact J9 true hv.symm
                  · refine z_iconst dX5_readClause_210 ?_
                    exact J9 false hv.symm
                · exact z_zret (b := x211_2) rfl dX5_readClause_211 rfl rfl rfl ⟨_, rfl, hs, h⟩
              · refine z_iconst dX5_readClause_210 ?_
                exact z_zret (b := false) rfl dX5_readClause_211 rfl rfl rfl ⟨_, rfl, hs, h⟩
          · rw [if_neg hc2] at h
            by_cases hc3 : w r1 = 3
            · rw [if_pos hc3] at h
              refine z_tcase (tgt := 137) 3 hc3 dX5_readClause_44 (by decide) (by decide) rfl (by decide) ?_
              refine z_rload_n dX5_readClause_137 rfl 2 rfl ?_
              obtain ⟨r138, h9, hr_r138, h⟩ := h
              refine z_getR (q := 9065) ff_5_1 dX5_readClause_138 kt_63 (Nat.le_of_ble_eq_true rfl) fl_X5_15 rfl h9 ?_
              refine z_rload_n dX5_readClause_141 rfl 2 rfl ?_
              refine z_getR (q := 9064) ff_5_0 dX5_readClause_142 kt_63 (Nat.le_of_ble_eq_true rfl) fl_X5_9 rfl (hs.1 _ _ sr_9064) ?_
              refine z_bipush dX5_readClause_145 (by decide) ?_
              refine z_lconst (v := 0) dX5_readClause_147 rfl ?_
              refine z_VI (i_Tape_takeN  hs h) vk_X9_takeN kt_10 (Nat.le_of_ble_eq_true rfl) rfl ml_X5_56 ⟨Nat.le_of_ble_eq_true rfl, Nat.le_of_ble_eq_true rfl⟩ ⟨Nat.zero_le _, Nat.zero_le _⟩ rfl rfl (Nat.le_of_ble_eq_true rfl) dX5_readClause_148 (fun r148 μ_12 hs h => ?_)
              refine z_putI (q := (gid r138 5)) ff_8_5 (Or.inl rfl) rfl dX5_readClause_151 (ru_k hr_r138) (ru_l hr_r138) fl_X5_64 rfl ?_
              refine z_mm (fun μ_13 eμ_13 => ?_)
              replace h := h μ_13 eμ_13
              replace hs : StatR μ_13.2.2 := by rw [eμ_13]; exact hs
              refine z_rload_n dX5_readClause_154 rfl 2 rfl ?_
              obtain ⟨r155, h9, hr_r155, h⟩ := h
              refine z_getR (q := 9065) ff_5_1 dX5_readClause_155 kt_63 (Nat.le_of_ble_eq_true rfl) fl_X5_15 rfl h9 ?_
              refine z_getI (q := (gid r155 5)) ff_8_5 dX5_readClause_158 (ru_k hr_r155) (ru_l hr_r155) fl_X5_64 rfl ?_
              refine z_phiB 169 [] (fun V9 hv J9 => ?_) h (fun x169 h => ?_)
              · refine z_if_le (tgt := 168) dX5_readClause_161 (by decide) (eq_ite hv) (fun hv => ?_) (fun hv => ?_)
                · refine z_iconst dX5_readClause_164 ?_
                  refine z_goto (tgt := 169) dX5_readClause_165 (by decide) ?_
                  exact J9 true hv.symm
                · refine z_iconst dX5_readClause_168 ?_
                  exact J9 false hv.symm
              · refine z_istore_n (lv' := [(3, vi (b2i x169)), (2, vi r1), (0, vr Γ 63), (1, vi a1)]) dX5_readClause_169 rfl (Nat.le_of_ble_eq_true rfl) rfl ?_
                refine z_goto (tgt := 190) dX5_readClause_170 (by decide) ?_
                refine z_iload_n dX5_readClause_190 rfl 0 rfl ?_
                refine z_ifeq_b (tgt := 210) dX5_readClause_191 (by decide) h (fun h => ?_) (fun h => ?_)
                · refine z_rload_n dX5_readClause_194 rfl 2 rfl ?_
                  refine z_getR (q := 9064) ff_5_0 dX5_readClause_195 kt_63 (Nat.le_of_ble_eq_true rfl) fl_X5_9 rfl (hs.1 _ _ sr_9064) ?_
                  refine z_bipush dX5_readClause_198 (by decide) ?_
                  refine z_VB (i_Tape_skipSign  hs h) vk_X9_skipSign kt_10 (Nat.le_of_ble_eq_true rfl) rfl ml_X5_71 ⟨Nat.le_of_ble_eq_true rfl, Nat.le_of_ble_eq_true rfl⟩ ⟨Nat.zero_le _, Nat.zero_le _⟩ rfl rfl (Nat.le_of_ble_eq_true rfl) dX5_readClause_200 (fun r200_3 μ_14 hs h => ?_)
                  refine z_phiB 211 [] (fun V9 hv J9 => ?_) h (fun x211_3 h => ?_)
                  · refine z_ifeq_b (tgt := 210) dX5_readClause_203 (by decide) (eq_ite hv) (fun hv => ?_) (fun hv => ?_)
                    · refine z_iconst dX5_readClause_206 ?_
                      refine z_goto (tgt := 211) dX5_readClause_207 (by decide) ?_
                      exact J9 true hv.symm
                    · refine z_iconst dX5_readClause_210 ?_
                      exact J9 false hv.symm
                  · exact z_zret (b := x211_3) rfl dX5_readClause_211 rfl rfl rfl ⟨_, rfl, hs, h⟩
                · refine z_iconst dX5_readClause_210 ?_
                  exact z_zret (b := false) rfl dX5_readClause_211 rfl rfl rfl ⟨_, rfl, hs, h⟩
            · rw [if_neg hc3] at h
              by_cases hc4 : w r1 = 4
              · rw [if_pos hc4] at h
                refine z_tcase (tgt := 173) 4 hc4 dX5_readClause_44 (by decide) (by decide) rfl (by decide) ?_
                refine z_rload_n dX5_readClause_173 rfl 2 rfl ?_
                obtain ⟨r174, h9, hr_r174, h⟩ := h
                refine z_getR (q := 9065) ff_5_1 dX5_readClause_174 kt_63 (Nat.le_of_ble_eq_true rfl) fl_X5_15 rfl h9 ?_
                refine z_iconst dX5_readClause_177 ?_
                refine z_putZ (b := true) (q := (gid r174 6)) ff_8_6 (Or.inl rfl) rfl dX5_readClause_178 (ru_k hr_r174) (ru_l hr_r174) fl_X5_67 rfl ?_
                refine z_mm (fun μ_15 eμ_15 => ?_)
                replace h := h μ_15 eμ_15
                replace hs : StatR μ_15.2.2 := by rw [eμ_15]; exact hs
                refine z_goto (tgt := 190) dX5_readClause_181 (by decide) ?_
                refine z_iload_n dX5_readClause_190 rfl 0 rfl ?_
                refine z_if_eq (tgt := 210) dX5_readClause_191 (by decide) h (fun h => ?_) (fun h => ?_)
                · refine z_iconst dX5_readClause_210 ?_
                  exact z_zret (b := false) rfl dX5_readClause_211 rfl rfl rfl ⟨_, rfl, hs, h⟩
                · refine z_rload_n dX5_readClause_194 rfl 2 rfl ?_
                  refine z_getR (q := 9064) ff_5_0 dX5_readClause_195 kt_63 (Nat.le_of_ble_eq_true rfl) fl_X5_9 rfl (hs.1 _ _ sr_9064) ?_
                  refine z_bipush dX5_readClause_198 (by decide) ?_
                  refine z_VB (i_Tape_skipSign  hs h) vk_X9_skipSign kt_10 (Nat.le_of_ble_eq_true rfl) rfl ml_X5_71 ⟨Nat.le_of_ble_eq_true rfl, Nat.le_of_ble_eq_true rfl⟩ ⟨Nat.zero_le _, Nat.zero_le _⟩ rfl rfl (Nat.le_of_ble_eq_true rfl) dX5_readClause_200 (fun r200_4 μ_16 hs h => ?_)
                  refine z_phiB 211 [] (fun V9 hv J9 => ?_) h (fun x211_4 h => ?_)
                  · refine z_ifeq_b (tgt := 210) dX5_readClause_203 (by decide) (eq_ite hv) (fun hv => ?_) (fun hv => ?_)
                    · refine z_iconst dX5_readClause_206 ?_
                      refine z_goto (tgt := 211) dX5_readClause_207 (by decide) ?_
                      exact J9 true hv.symm
                    · refine z_iconst dX5_readClause_210 ?_
                      exact J9 false hv.symm
                  · exact z_zret (b := x211_4) rfl dX5_readClause_211 rfl rfl rfl ⟨_, rfl, hs, h⟩
              · rw [if_neg hc4] at h
                refine z_tdef (tgt := 184) (by omega) dX5_readClause_44 (by decide) ?_
                refine z_rload_n dX5_readClause_184 rfl 2 rfl ?_
                refine z_iconst dX5_readClause_185 ?_
                refine z_VB (i_OrdR_readCondition  hs h) vk_X5_readCondition kt_63 (Nat.le_of_ble_eq_true rfl) rfl ml_X5_50 ⟨Nat.le_of_ble_eq_true rfl, Nat.le_of_ble_eq_true rfl⟩ ⟨Nat.zero_le _, Nat.zero_le _⟩ rfl rfl (Nat.le_of_ble_eq_true rfl) dX5_readClause_186 (fun r186 μ_17 hs h => ?_)
                refine z_istore_n (lv' := [(3, vi (b2i r186)), (2, vi r1), (0, vr Γ 63), (1, vi a1)]) dX5_readClause_189 rfl (Nat.le_of_ble_eq_true rfl) rfl ?_
                refine z_iload_n dX5_readClause_190 rfl 0 rfl ?_
                refine z_ifeq_b (tgt := 210) dX5_readClause_191 (by decide) h (fun h => ?_) (fun h => ?_)
                · refine z_rload_n dX5_readClause_194 rfl 2 rfl ?_
                  refine z_getR (q := 9064) ff_5_0 dX5_readClause_195 kt_63 (Nat.le_of_ble_eq_true rfl) fl_X5_9 rfl (hs.1 _ _ sr_9064) ?_
                  refine z_bipush dX5_readClause_198 (by decide) ?_
                  refine z_VB (i_Tape_skipSign  hs h) vk_X9_skipSign kt_10 (Nat.le_of_ble_eq_true rfl) rfl ml_X5_71 ⟨Nat.le_of_ble_eq_true rfl, Nat.le_of_ble_eq_true rfl⟩ ⟨Nat.zero_le _, Nat.zero_le _⟩ rfl rfl (Nat.le_of_ble_eq_true rfl) dX5_readClause_200 (fun r200_5 μ_18 hs h => ?_)
                  refine z_phiB 211 [] (fun V9 hv J9 => ?_) h (fun x211_5 h => ?_)
                  · refine z_ifeq_b (tgt := 210) dX5_readClause_203 (by decide) (eq_ite hv) (fun hv => ?_) (fun hv => ?_)
                    · refine z_iconst dX5_readClause_206 ?_
                      refine z_goto (tgt := 211) dX5_readClause_207 (by decide) ?_
                      exact J9 true hv.symm
                    · refine z_iconst dX5_readClause_210 ?_
                      exact J9 false hv.symm
                  · exact z_zret (b := x211_5) rfl dX5_readClause_211 rfl rfl rfl ⟨_, rfl, hs, h⟩
                · refine z_iconst dX5_readClause_210 ?_
                  exact z_zret (b := false) rfl dX5_readClause_211 rfl rfl rfl ⟨_, rfl, hs, h⟩
    · refine z_rload_n dX5_readClause_25 rfl 1 rfl ?_
      refine z_getR (q := 9064) ff_5_0 dX5_readClause_26 kt_63 (Nat.le_of_ble_eq_true rfl) fl_X5_9 rfl (hs.1 _ _ sr_9064) ?_
      refine z_iconst dX5_readClause_29 ?_
      refine z_VB (i_Tape_fail  hs h) vk_X9_fail kt_10 (Nat.le_of_ble_eq_true rfl) rfl ml_X5_41 ⟨Nat.le_of_ble_eq_true rfl, Nat.le_of_ble_eq_true rfl⟩ ⟨Nat.zero_le _, Nat.zero_le _⟩ rfl rfl (Nat.le_of_ble_eq_true rfl) dX5_readClause_30 (fun r30 μ_19 hs h => ?_)
      exact z_zret (b := r30) rfl dX5_readClause_33 rfl rfl rfl ⟨_, rfl, hs, h⟩
abbrev Y_Rules_clear : Yt := (1, none, yX8_clear.name, { frames := 1, cells := 0, slots := 0, locals := 22 }, 174, 0, 0)
def f_Rules_clear (r0 : Nat) (μ : Mem) (k : Mem → Prop) : Prop := ∀ μ_1 : Mem, μ_1 = sI μ (gid r0 3) 0 0 → f_H_fill (r0 + 2) 5 0 μ_1 (fun μ_2 => f_H_fill (r0 + 3) 5 0 μ_2 (fun μ_3 => ∀ μ_4 : Mem, μ_4 = sI μ_3 (gid r0 4) 0 10 → ∀ μ_5 : Mem, μ_5 = sI μ_4 (gid r0 5) 0 12 → ∀ μ_6 : Mem, μ_6 = sB μ_5 (gid r0 6) 0 false → k μ_6))
theorem i_Rules_clear {l : Launch} {Γ : Gam} {g : Nat} {r0 : Nat} {μ : Mem} {k : Mem → Prop} (hr_r0 : isRu r0 = true) (hs : StatR μ.2.2) (h : f_Rules_clear r0 μ k) : CT l Γ yX8_clear cX8_clear 1 none 1 22 0 0 [vr Γ r0] g 174 μ (pV k) := by
  refine SW.ct (by decide) (Nat.le_of_ble_eq_true rfl) ?_
  refine z_sub (lv' := [(0, vr Γ r0)]) [0] rfl ?_
  show SW l Γ yX8_clear.cls cX8_clear Y_Rules_clear (pV k) g 174 0 0 μ 0 [(0, vr Γ r0)] []
  unfold f_Rules_clear at h
  refine z_rload_n dX8_clear_0 rfl 0 rfl ?_
  refine z_iconst dX8_clear_1 ?_
  refine z_putI (q := (gid r0 3)) ff_8_3 (Or.inl rfl) rfl dX8_clear_2 (ru_k hr_r0) (ru_l hr_r0) fl_X8_28 rfl ?_
  refine z_mm (fun μ_1 eμ_1 => ?_)
  replace h := h μ_1 eμ_1
  replace hs : StatR μ_1.2.2 := by rw [eμ_1]; exact hs
  refine z_rload_n dX8_clear_5 rfl 0 rfl ?_
  refine z_getR ff_8_1 dX8_clear_6 (ru_k hr_r0) (ru_l hr_r0) fl_X8_15 rfl (ru_s2 hs hr_r0) ?_
  refine z_iconst dX8_clear_9 ?_
  refine z_NU (i_H_fill (ru_k2 hr_r0) (ru_l2 hr_r0) hs h) sk_X11_fill nw_X8_31 ⟨Nat.le_of_ble_eq_true rfl, Nat.le_of_ble_eq_true rfl⟩ ⟨Nat.zero_le _, Nat.zero_le _⟩ rfl rfl (Nat.le_of_ble_eq_true rfl) dX8_clear_10 (fun μ_2 hs h => ?_)
  refine z_rload_n dX8_clear_13 rfl 0 rfl ?_
  refine z_getR ff_8_2 dX8_clear_14 (ru_k hr_r0) (ru_l hr_r0) fl_X8_18 rfl (ru_s3 hs hr_r0) ?_
  refine z_iconst dX8_clear_17 ?_
  refine z_NU (i_H_fill (ru_k3 hr_r0) (ru_l3 hr_r0) hs h) sk_X11_fill nw_X8_31 ⟨Nat.le_of_ble_eq_true rfl, Nat.le_of_ble_eq_true rfl⟩ ⟨Nat.zero_le _, Nat.zero_le _⟩ rfl rfl (Nat.le_of_ble_eq_true rfl) dX8_clear_18 (fun μ_3 hs h => ?_)
  refine z_rload_n dX8_clear_21 rfl 0 rfl ?_
  refine z_bipush dX8_clear_22 (by decide) ?_
  refine z_putI (q := (gid r0 4)) ff_8_4 (Or.inl rfl) rfl dX8_clear_24 (ru_k hr_r0) (ru_l hr_r0) fl_X8_21 rfl ?_
  refine z_mm (fun μ_4 eμ_4 => ?_)
  replace h := h μ_4 eμ_4
  replace hs : StatR μ_4.2.2 := by rw [eμ_4]; exact hs
  refine z_rload_n dX8_clear_27 rfl 0 rfl ?_
  refine z_bipush dX8_clear_28 (by decide) ?_
  refine z_putI (q := (gid r0 5)) ff_8_5 (Or.inl rfl) rfl dX8_clear_30 (ru_k hr_r0) (ru_l hr_r0) fl_X8_25 rfl ?_
  refine z_mm (fun μ_5 eμ_5 => ?_)
  replace h := h μ_5 eμ_5
  replace hs : StatR μ_5.2.2 := by rw [eμ_5]; exact hs
  refine z_rload_n dX8_clear_33 rfl 0 rfl ?_
  refine z_iconst dX8_clear_34 ?_
  refine z_putZ (b := false) (q := (gid r0 6)) ff_8_6 (Or.inl rfl) rfl dX8_clear_35 (ru_k hr_r0) (ru_l hr_r0) fl_X8_35 rfl ?_
  refine z_mm (fun μ_6 eμ_6 => ?_)
  replace h := h μ_6 eμ_6
  replace hs : StatR μ_6.2.2 := by rw [eμ_6]; exact hs
  exact z_vret rfl dX8_clear_38 rfl rfl rfl ⟨rfl, hs, h⟩
