abbrev Y_OrdR_name : Yt := (2, (some .boolean), yX5_name.name, { frames := 7, cells := 0, slots := 0, locals := 164 }, 175, 0, 0)
def b_OrdR_name_34 (k : Bool → Mem → Prop) (s0 : Int) (μ_2 : Mem) : Prop := if w s0 = w (-1) then (f_Tape_fail 3 μ_2 (fun r45 μ_3 => k r45 μ_3)) else (∃ r50 : Nat, rR μ_2 9065 0 = some r50 ∧ isRu r50 = true ∧ f_Rules_addStep r50 1 s0 μ_2 (fun μ_4 => f_Tape_next  μ_4 (fun μ_5 => k true μ_5)))
def f_OrdR_name  (μ : Mem) (k : Bool → Mem → Prop) : Prop := if w (rI μ 9066 0) = w 3 then (f_OrdR_factOfCards  μ (fun r9 μ_1 => b_OrdR_name_34 k r9 μ_1)) else (if w (rI μ 9066 0) = w 4 then (f_OrdR_factOfLate  μ (fun r24 μ_6 => b_OrdR_name_34 k r24 μ_6)) else (f_OrdR_factOfPass  μ (fun r31 μ_7 => b_OrdR_name_34 k r31 μ_7)))
theorem B_OrdR_name_34 {l : Launch} {Γ : Gam} {g : Nat} {k : Bool → Mem → Prop} {s0 : Int} {μ_2 : Mem} (hs : StatR μ_2.2.2) (h : b_OrdR_name_34 k s0 μ_2) : SW l Γ yX5_name.cls cX5_name Y_OrdR_name (pB k) g 175 0 0 μ_2 34 [(0, vr Γ 63)] [vi s0] := by
  unfold b_OrdR_name_34 at h
  refine z_istore_n (lv' := [(1, vi s0), (0, vr Γ 63)]) dX5_name_34 rfl (Nat.le_of_ble_eq_true rfl) rfl ?_
  refine z_iload_n dX5_name_35 rfl 0 rfl ?_
  refine z_iconst dX5_name_36 ?_
  refine z_icmp_ne (tgt := 49) dX5_name_37 (by decide) h (fun h => ?_) (fun h => ?_)
  · refine z_rload_n dX5_name_40 rfl 1 rfl ?_
    refine z_getR (q := 9064) ff_5_0 dX5_name_41 kt_63 (Nat.le_of_ble_eq_true rfl) fl_X5_9 rfl (hs.1 _ _ sr_9064) ?_
    refine z_iconst dX5_name_44 ?_
    refine z_VB (i_Tape_fail  hs h) vk_X9_fail kt_10 (Nat.le_of_ble_eq_true rfl) rfl ml_X5_41 ⟨Nat.le_of_ble_eq_true rfl, Nat.le_of_ble_eq_true rfl⟩ ⟨Nat.zero_le _, Nat.zero_le _⟩ rfl rfl (Nat.le_of_ble_eq_true rfl) dX5_name_45 (fun r45 μ_3 hs h => ?_)
    exact z_zret (b := r45) rfl dX5_name_48 rfl rfl rfl ⟨_, rfl, hs, h⟩
  · refine z_rload_n dX5_name_49 rfl 1 rfl ?_
    obtain ⟨r50, h9, hr_r50, h⟩ := h
    refine z_getR (q := 9065) ff_5_1 dX5_name_50 kt_63 (Nat.le_of_ble_eq_true rfl) fl_X5_15 rfl h9 ?_
    refine z_iconst dX5_name_53 ?_
    refine z_iload_n dX5_name_54 rfl 0 rfl ?_
    refine z_VU (i_Rules_addStep hr_r50 hs h) vk_X8_addStep (ru_k hr_r50) (ru_l hr_r50) rfl ml_X5_119 ⟨Nat.le_of_ble_eq_true rfl, Nat.le_of_ble_eq_true rfl⟩ ⟨Nat.zero_le _, Nat.zero_le _⟩ rfl rfl (Nat.le_of_ble_eq_true rfl) dX5_name_55 (fun μ_4 hs h => ?_)
    refine z_rload_n dX5_name_58 rfl 1 rfl ?_
    refine z_getR (q := 9064) ff_5_0 dX5_name_59 kt_63 (Nat.le_of_ble_eq_true rfl) fl_X5_9 rfl (hs.1 _ _ sr_9064) ?_
    refine z_VU (i_Tape_next  hs h) vk_X9_next kt_10 (Nat.le_of_ble_eq_true rfl) rfl ml_X5_44 ⟨Nat.le_of_ble_eq_true rfl, Nat.le_of_ble_eq_true rfl⟩ ⟨Nat.zero_le _, Nat.zero_le _⟩ rfl rfl (Nat.le_of_ble_eq_true rfl) dX5_name_62 (fun μ_5 hs h => ?_)
    refine z_iconst dX5_name_65 ?_
    exact z_zret (b := true) rfl dX5_name_66 rfl rfl rfl ⟨_, rfl, hs, h⟩
theorem i_OrdR_name {l : Launch} {Γ : Gam} {g : Nat} {μ : Mem} {k : Bool → Mem → Prop} (hs : StatR μ.2.2) (h : f_OrdR_name  μ k) : CT l Γ yX5_name cX5_name 2 (some .boolean) 7 164 0 0 [vr Γ 63] g 175 μ (pB k) := by
  refine SW.ct (by decide) (Nat.le_of_ble_eq_true rfl) ?_
  refine z_sub (lv' := [(0, vr Γ 63)]) [0] rfl ?_
  show SW l Γ yX5_name.cls cX5_name Y_OrdR_name (pB k) g 175 0 0 μ 0 [(0, vr Γ 63)] []
  unfold f_OrdR_name at h
  refine z_rload_n dX5_name_0 rfl 0 rfl ?_
  refine z_getI (q := 9066) ff_5_2 dX5_name_1 kt_63 (Nat.le_of_ble_eq_true rfl) fl_X5_53 rfl ?_
  refine z_iconst dX5_name_4 ?_
  refine z_icmp_ne (tgt := 15) dX5_name_5 (by decide) h (fun h => ?_) (fun h => ?_)
  · refine z_rload_n dX5_name_8 rfl 0 rfl ?_
    refine z_VI (i_OrdR_factOfCards  hs h) vk_X5_factOfCards kt_63 (Nat.le_of_ble_eq_true rfl) rfl ml_X5_160 ⟨Nat.le_of_ble_eq_true rfl, Nat.le_of_ble_eq_true rfl⟩ ⟨Nat.zero_le _, Nat.zero_le _⟩ rfl rfl (Nat.le_of_ble_eq_true rfl) dX5_name_9 (fun r9 μ_1 hs h => ?_)
    refine z_goto (tgt := 34) dX5_name_12 (by decide) ?_
    refine z_sub (lv' := [(0, vr Γ 63)]) [0] rfl ?_
    exact B_OrdR_name_34 hs h
  · refine z_rload_n dX5_name_15 rfl 0 rfl ?_
    refine z_getI (q := 9066) ff_5_2 dX5_name_16 kt_63 (Nat.le_of_ble_eq_true rfl) fl_X5_53 rfl ?_
    refine z_iconst dX5_name_19 ?_
    refine z_icmp_ne (tgt := 30) dX5_name_20 (by decide) h (fun h => ?_) (fun h => ?_)
    · refine z_rload_n dX5_name_23 rfl 0 rfl ?_
      refine z_VI (i_OrdR_factOfLate  hs h) vk_X5_factOfLate kt_63 (Nat.le_of_ble_eq_true rfl) rfl ml_X5_163 ⟨Nat.le_of_ble_eq_true rfl, Nat.le_of_ble_eq_true rfl⟩ ⟨Nat.zero_le _, Nat.zero_le _⟩ rfl rfl (Nat.le_of_ble_eq_true rfl) dX5_name_24 (fun r24 μ_6 hs h => ?_)
      refine z_goto (tgt := 34) dX5_name_27 (by decide) ?_
      refine z_sub (lv' := [(0, vr Γ 63)]) [0] rfl ?_
      exact B_OrdR_name_34 hs h
    · refine z_rload_n dX5_name_30 rfl 0 rfl ?_
      refine z_VI (i_OrdR_factOfPass  hs h) vk_X5_factOfPass kt_63 (Nat.le_of_ble_eq_true rfl) rfl ml_X5_166 ⟨Nat.le_of_ble_eq_true rfl, Nat.le_of_ble_eq_true rfl⟩ ⟨Nat.zero_le _, Nat.zero_le _⟩ rfl rfl (Nat.le_of_ble_eq_true rfl) dX5_name_31 (fun r31 μ_7 hs h => ?_)
      refine z_sub (lv' := [(0, vr Γ 63)]) [0] rfl ?_
      exact B_OrdR_name_34 hs h
def v_Tape_isAnyWord  (μ : Mem) : Bool := if w (rI μ 2282 0) = w 1 then true else false
theorem i_Tape_isAnyWord {l : Launch} {Γ : Gam} {g : Nat} {μ : Mem} : CT l Γ yX9_isAnyWord cX9_isAnyWord 1 (some .boolean) 0 0 0 0 [vr Γ 10] g 175 μ (pE (vi (b2i (v_Tape_isAnyWord μ))) μ) := by
  refine SW.ct (by decide) (Nat.le_of_ble_eq_true rfl) ?_
  refine z_sub (lv' := [(0, vr Γ 10)]) [0] rfl ?_
  have hv : v_Tape_isAnyWord μ = v_Tape_isAnyWord μ := rfl
  refine z_rload_n dX9_isAnyWord_0 rfl 0 rfl ?_
  refine z_getI (q := 2282) ff_9_2 dX9_isAnyWord_1 kt_10 (Nat.le_of_ble_eq_true rfl) fl_X9_46 rfl ?_
  refine z_iconst dX9_isAnyWord_4 ?_
  refine z_icmp_ne (tgt := 12) dX9_isAnyWord_5 (by decide) (eq_ite hv) (fun hv => ?_) (fun hv => ?_)
  · refine z_iconst dX9_isAnyWord_8 ?_
    refine z_goto (tgt := 13) dX9_isAnyWord_9 (by decide) ?_
    exact z_zret (b := true) rfl dX9_isAnyWord_13 rfl rfl rfl ⟨by first | (rw [hv]; done) | rfl, rfl⟩
  · refine z_iconst dX9_isAnyWord_12 ?_
    exact z_zret (b := false) rfl dX9_isAnyWord_13 rfl rfl rfl ⟨by first | (rw [hv]; done) | rfl, rfl⟩
def v_Tape_isNumber  (μ : Mem) : Bool := if w (rI μ 2282 0) = w 2 then true else false
theorem i_Tape_isNumber {l : Launch} {Γ : Gam} {g : Nat} {μ : Mem} : CT l Γ yX9_isNumber cX9_isNumber 1 (some .boolean) 0 0 0 0 [vr Γ 10] g 175 μ (pE (vi (b2i (v_Tape_isNumber μ))) μ) := by
  refine SW.ct (by decide) (Nat.le_of_ble_eq_true rfl) ?_
  refine z_sub (lv' := [(0, vr Γ 10)]) [0] rfl ?_
  have hv : v_Tape_isNumber μ = v_Tape_isNumber μ := rfl
  refine z_rload_n dX9_isNumber_0 rfl 0 rfl ?_
  refine z_getI (q := 2282) ff_9_2 dX9_isNumber_1 kt_10 (Nat.le_of_ble_eq_true rfl) fl_X9_46 rfl ?_
  refine z_iconst dX9_isNumber_4 ?_
  refine z_icmp_ne (tgt := 12) dX9_isNumber_5 (by decide) (eq_ite hv) (fun hv => ?_) (fun hv => ?_)
  · refine z_iconst dX9_isNumber_8 ?_
    refine z_goto (tgt := 13) dX9_isNumber_9 (by decide) ?_
    exact z_zret (b := true) rfl dX9_isNumber_13 rfl rfl rfl ⟨by first | (rw [hv]; done) | rfl, rfl⟩
  · refine z_iconst dX9_isNumber_12 ?_
    exact z_zret (b := false) rfl dX9_isNumber_13 rfl rfl rfl ⟨by first | (rw [hv]; done) | rfl, rfl⟩
abbrev Y_OrdR_either (d : Nat) : Yt := (4, (some .boolean), yX5_either.name, { frames := 10 * (d + 1) + 10, cells := 0, slots := 0, locals := 60 * (d + 1) + 300 }, 175, 0, 0)
def l_OrdR_either_8 (a1 : Int) (X_8_60 : Bool → Mem → Prop) (rec : Nat → Int → Mem → (Bool → Mem → Prop) → Prop) : Nat → Bool → Int → Mem → Prop
  | 0, _, _, _ => False
  | fu8 + 1, v2, v3, μ_2 => if w v3 < w 300 then (if v2 = true then (f_Tape_isWord 23 μ_2 (fun r25 μ_3 => if r25 = true then (f_Tape_next  μ_3 (fun μ_4 => rec 1 a1 μ_4 (fun r40 μ_5 => ∃ r45 : Nat, rR μ_5 9065 0 = some r45 ∧ isRu r45 = true ∧ f_Rules_addStep r45 10 0 μ_5 (fun μ_6 => (l_OrdR_either_8 a1 X_8_60 rec fu8) r40 (v3 + 1) μ_6)))) else (X_8_60 v2 μ_3))) else (X_8_60 v2 μ_2)) else (X_8_60 v2 μ_2)
def f_OrdR_either (rec : Nat → Int → Mem → (Bool → Mem → Prop) → Prop) (a1 : Int) (μ : Mem) (k : Bool → Mem → Prop) : Prop := rec 1 a1 μ (fun r2 μ_1 => ∃ m8 : Nat, l_OrdR_either_8 a1 (fun (v2_1 : Bool) (μ_7 : Mem) => k v2_1 μ_7) rec m8 r2 0 μ_1)
theorem L_OrdR_either_8 {l : Launch} {Γ : Gam} {g : Nat} {a1 : Int} {X_8_60 : Bool → Mem → Prop} {k : Bool → Mem → Prop} {d : Nat} {rec : Nat → Int → Mem → (Bool → Mem → Prop) → Prop} (H : H_O l Γ g rec d) (hX_8_60 : ∀ (u2 : Bool) (ν : Mem), StatR ν.2.2 → X_8_60 u2 ν → SW l Γ yX5_either.cls cX5_either (Y_OrdR_either d) (pB k) g 175 0 0 ν 60 [(2, vi (b2i u2))] []) (n9 : Nat) : ∀ (v2 : Bool) (v3 : Int) (μ_2 : Mem), StatR μ_2.2.2 → l_OrdR_either_8 a1 X_8_60 rec n9 v2 v3 μ_2 → SW l Γ yX5_either.cls cX5_either (Y_OrdR_either d) (pB k) g 175 0 0 μ_2 8 [(0, vr Γ 63), (1, vi a1), (2, vi (b2i v2)), (3, vi v3)] [] := by
  induction n9 with
  | zero =>
    intro v2 v3 μ_2 hs h
    exact h.elim
  | succ n9 hR_8 =>
    intro v2 v3 μ_2 hs h
    rw [l_OrdR_either_8] at h
    refine z_iload_n dX5_either_8 rfl 3 rfl ?_
    refine z_sipush dX5_either_9 (by decide) ?_
    refine z_icmp_ge (tgt := 60) dX5_either_12 (by decide) h (fun h => ?_) (fun h => ?_)
    · refine z_iload_n dX5_either_15 rfl 2 rfl ?_
      refine z_ifeq_b (tgt := 60) dX5_either_16 (by decide) h (fun h => ?_) (fun h => ?_)
      · refine z_rload_n dX5_either_19 rfl 0 rfl ?_
        refine z_getR (q := 9064) ff_5_0 dX5_either_20 kt_63 (Nat.le_of_ble_eq_true rfl) fl_X5_9 rfl (hs.1 _ _ sr_9064) ?_
        refine z_ldcS dX5_either_23 st_X5_117 ?_
        refine z_VB (i_Tape_isWord (Nat.le_of_ble_eq_true rfl) hs h) vk_X9_isWord kt_10 (Nat.le_of_ble_eq_true rfl) rfl ml_X5_87 (rm_O (by decide)) ⟨Nat.zero_le _, Nat.zero_le _⟩ rfl rfl (Nat.le_of_ble_eq_true rfl) dX5_either_25 (fun r25 μ_3 hs h => ?_)
        refine z_ifeq_b (tgt := 60) dX5_either_28 (by decide) h (fun h => ?_) (fun h => ?_)
        · refine z_rload_n dX5_either_31 rfl 0 rfl ?_
          refine z_getR (q := 9064) ff_5_0 dX5_either_32 kt_63 (Nat.le_of_ble_eq_true rfl) fl_X5_9 rfl (hs.1 _ _ sr_9064) ?_
          refine z_VU (i_Tape_next  hs h) vk_X9_next kt_10 (Nat.le_of_ble_eq_true rfl) rfl ml_X5_44 (rm_O (by decide)) ⟨Nat.zero_le _, Nat.zero_le _⟩ rfl rfl (Nat.le_of_ble_eq_true rfl) dX5_either_35 (fun μ_4 hs h => ?_)
          refine z_rload_n dX5_either_38 rfl 0 rfl ?_
          refine z_iload_n dX5_either_39 rfl 1 rfl ?_
          refine z_VB ((H _ _ _ hs).2.1 h) vk_X5_both kt_63 (Nat.le_of_ble_eq_true rfl) rfl ml_X5_114 (rm_OR (by decide)) ⟨Nat.zero_le _, Nat.zero_le _⟩ rfl rfl (Nat.le_of_ble_eq_true rfl) dX5_either_40 (fun r40 μ_5 hs h => ?_)
          refine z_istore_n (lv' := [(2, vi (b2i r40)), (0, vr Γ 63), (1, vi a1), (3, vi v3)]) dX5_either_43 rfl (Nat.le_of_ble_eq_true rfl) rfl ?_
          refine z_rload_n dX5_either_44 rfl 1 rfl ?_
          obtain ⟨r45, h9, hr_r45, h⟩ := h
          refine z_getR (q := 9065) ff_5_1 dX5_either_45 kt_63 (Nat.le_of_ble_eq_true rfl) fl_X5_15 rfl h9 ?_
          refine z_bipush dX5_either_48 (by decide) ?_
          refine z_iconst dX5_either_50 ?_
          refine z_VU (i_Rules_addStep hr_r45 hs h) vk_X8_addStep (ru_k hr_r45) (ru_l hr_r45) rfl ml_X5_119 (rm_O (by decide)) ⟨Nat.zero_le _, Nat.zero_le _⟩ rfl rfl (Nat.le_of_ble_eq_true rfl) dX5_either_51 (fun μ_6 hs h => ?_)
          refine z_iinc (j := 3) (lv' := [(3, vi (v3 + 1)), (2, vi (b2i r40)), (0, vr Γ 63), (1, vi a1)]) dX5_either_54 rfl (Nat.le_of_ble_eq_true rfl) rfl ?_
          refine z_goto (tgt := 8) dX5_either_57 (by decide) ?_
          refine z_sub (lv' := [(0, vr Γ 63), (1, vi a1), (2, vi (b2i r40)), (3, vi (v3 + 1))]) [2, 3, 1, 0] rfl ?_
          exact hR_8 r40 (v3 + 1) μ_6 hs h
        · refine z_sub (lv' := [(2, vi (b2i v2))]) [2] rfl ?_
          exact hX_8_60 v2 μ_3 hs h
      · refine z_sub (lv' := [(2, vi (b2i v2))]) [2] rfl ?_
        exact hX_8_60 v2 μ_2 hs h
    · refine z_sub (lv' := [(2, vi (b2i v2))]) [2] rfl ?_
      exact hX_8_60 v2 μ_2 hs h
theorem i_OrdR_either {l : Launch} {Γ : Gam} {g : Nat} {a1 : Int} {μ : Mem} {d : Nat} {rec : Nat → Int → Mem → (Bool → Mem → Prop) → Prop} {k : Bool → Mem → Prop} (H : H_O l Γ g rec d) (hs : StatR μ.2.2) (h : f_OrdR_either rec a1 μ k) : CT l Γ yX5_either cX5_either 4 (some .boolean) (10 * (d + 1) + 10) (60 * (d + 1) + 300) 0 0 [vr Γ 63, vi a1] g 175 μ (pB k) := by
  refine SW.ct (by decide) (Nat.le_of_ble_eq_true rfl) ?_
  refine z_sub (lv' := [(0, vr Γ 63), (1, vi a1)]) [0, 1] rfl ?_
  show SW l Γ yX5_either.cls cX5_either (Y_OrdR_either d) (pB k) g 175 0 0 μ 0 [(0, vr Γ 63), (1, vi a1)] []
  unfold f_OrdR_either at h
  refine z_rload_n dX5_either_0 rfl 0 rfl ?_
  refine z_iload_n dX5_either_1 rfl 1 rfl ?_
  refine z_VB ((H _ _ _ hs).2.1 h) vk_X5_both kt_63 (Nat.le_of_ble_eq_true rfl) rfl ml_X5_114 (rm_OR (by decide)) ⟨Nat.zero_le _, Nat.zero_le _⟩ rfl rfl (Nat.le_of_ble_eq_true rfl) dX5_either_2 (fun r2 μ_1 hs h => ?_)
  refine z_istore_n (lv' := [(2, vi (b2i r2)), (0, vr Γ 63), (1, vi a1)]) dX5_either_5 rfl (Nat.le_of_ble_eq_true rfl) rfl ?_
  refine z_iconst dX5_either_6 ?_
  refine z_istore_n (lv' := [(3, vi 0), (2, vi (b2i r2)), (0, vr Γ 63), (1, vi a1)]) dX5_either_7 rfl (Nat.le_of_ble_eq_true rfl) rfl ?_
  obtain ⟨m8, h⟩ := h
  refine z_sub (lv' := [(0, vr Γ 63), (1, vi a1), (2, vi (b2i r2)), (3, vi 0)]) [2, 3, 1, 0] rfl ?_
  refine L_OrdR_either_8 H (fun v2_1 μ_7 hs h => ?_) m8 r2 0 μ_1 hs h
  refine z_iload_n dX5_either_60 rfl 0 rfl ?_
  exact z_zret (b := v2_1) rfl dX5_either_61 rfl rfl rfl ⟨_, rfl, hs, h⟩
abbrev Y_OrdR_both (d : Nat) : Yt := (4, (some .boolean), yX5_both.name, { frames := 10 * (d + 1) + 10, cells := 0, slots := 0, locals := 60 * (d + 1) + 300 }, 175, 0, 0)
def l_OrdR_both_8 (a1 : Int) (X_8_60 : Bool → Mem → Prop) (rec : Nat → Int → Mem → (Bool → Mem → Prop) → Prop) : Nat → Bool → Int → Mem → Prop
  | 0, _, _, _ => False
  | fu8 + 1, v2, v3, μ_2 => if w v3 < w 300 then (if v2 = true then (f_Tape_isWord 22 μ_2 (fun r25 μ_3 => if r25 = true then (f_Tape_next  μ_3 (fun μ_4 => rec 2 a1 μ_4 (fun r40 μ_5 => ∃ r45 : Nat, rR μ_5 9065 0 = some r45 ∧ isRu r45 = true ∧ f_Rules_addStep r45 9 0 μ_5 (fun μ_6 => (l_OrdR_both_8 a1 X_8_60 rec fu8) r40 (v3 + 1) μ_6)))) else (X_8_60 v2 μ_3))) else (X_8_60 v2 μ_2)) else (X_8_60 v2 μ_2)
def f_OrdR_both (rec : Nat → Int → Mem → (Bool → Mem → Prop) → Prop) (a1 : Int) (μ : Mem) (k : Bool → Mem → Prop) : Prop := rec 2 a1 μ (fun r2 μ_1 => ∃ m8 : Nat, l_OrdR_both_8 a1 (fun (v2_1 : Bool) (μ_7 : Mem) => k v2_1 μ_7) rec m8 r2 0 μ_1)
theorem L_OrdR_both_8 {l : Launch} {Γ : Gam} {g : Nat} {a1 : Int} {X_8_60 : Bool → Mem → Prop} {k : Bool → Mem → Prop} {d : Nat} {rec : Nat → Int → Mem → (Bool → Mem → Prop) → Prop} (H : H_O l Γ g rec d) (hX_8_60 : ∀ (u2 : Bool) (ν : Mem), StatR ν.2.2 → X_8_60 u2 ν → SW l Γ yX5_both.cls cX5_both (Y_OrdR_both d) (pB k) g 175 0 0 ν 60 [(2, vi (b2i u2))] []) (n9 : Nat) : ∀ (v2 : Bool) (v3 : Int) (μ_2 : Mem), StatR μ_2.2.2 → l_OrdR_both_8 a1 X_8_60 rec n9 v2 v3 μ_2 → SW l Γ yX5_both.cls cX5_both (Y_OrdR_both d) (pB k) g 175 0 0 μ_2 8 [(0, vr Γ 63), (1, vi a1), (2, vi (b2i v2)), (3, vi v3)] [] := by
  induction n9 with
  | zero =>
    intro v2 v3 μ_2 hs h
    exact h.elim
  | succ n9 hR_8 =>
    intro v2 v3 μ_2 hs h
    rw [l_OrdR_both_8] at h
    refine z_iload_n dX5_both_8 rfl 3 rfl ?_
    refine z_sipush dX5_both_9 (by decide) ?_
    refine z_icmp_ge (tgt := 60) dX5_both_12 (by decide) h (fun h => ?_) (fun h => ?_)
    · refine z_iload_n dX5_both_15 rfl 2 rfl ?_
      refine z_ifeq_b (tgt := 60) dX5_both_16 (by decide) h (fun h => ?_) (fun h => ?_)
      · refine z_rload_n dX5_both_19 rfl 0 rfl ?_
        refine z_getR (q := 9064) ff_5_0 dX5_both_20 kt_63 (Nat.le_of_ble_eq_true rfl) fl_X5_9 rfl (hs.1 _ _ sr_9064) ?_
        refine z_ldcS dX5_both_23 st_X5_126 ?_
        refine z_VB (i_Tape_isWord (Nat.le_of_ble_eq_true rfl) hs h) vk_X9_isWord kt_10 (Nat.le_of_ble_eq_true rfl) rfl ml_X5_87 (rm_O (by decide)) ⟨Nat.zero_le _, Nat.zero_le _⟩ rfl rfl (Nat.le_of_ble_eq_true rfl) dX5_both_25 (fun r25 μ_3 hs h => ?_)
        refine z_ifeq_b (tgt := 60) dX5_both_28 (by decide) h (fun h => ?_) (fun h => ?_)
        · refine z_rload_n dX5_both_31 rfl 0 rfl ?_
          refine z_getR (q := 9064) ff_5_0 dX5_both_32 kt_63 (Nat.le_of_ble_eq_true rfl) fl_X5_9 rfl (hs.1 _ _ sr_9064) ?_
          refine z_VU (i_Tape_next  hs h) vk_X9_next kt_10 (Nat.le_of_ble_eq_true rfl) rfl ml_X5_44 (rm_O (by decide)) ⟨Nat.zero_le _, Nat.zero_le _⟩ rfl rfl (Nat.le_of_ble_eq_true rfl) dX5_both_35 (fun μ_4 hs h => ?_)
          refine z_rload_n dX5_both_38 rfl 0 rfl ?_
          refine z_iload_n dX5_both_39 rfl 1 rfl ?_
          refine z_VB ((H _ _ _ hs).2.2.1 h) vk_X5_piece kt_63 (Nat.le_of_ble_eq_true rfl) rfl ml_X5_123 (rm_OR (by decide)) ⟨Nat.zero_le _, Nat.zero_le _⟩ rfl rfl (Nat.le_of_ble_eq_true rfl) dX5_both_40 (fun r40 μ_5 hs h => ?_)
          refine z_istore_n (lv' := [(2, vi (b2i r40)), (0, vr Γ 63), (1, vi a1), (3, vi v3)]) dX5_both_43 rfl (Nat.le_of_ble_eq_true rfl) rfl ?_
          refine z_rload_n dX5_both_44 rfl 1 rfl ?_
          obtain ⟨r45, h9, hr_r45, h⟩ := h
          refine z_getR (q := 9065) ff_5_1 dX5_both_45 kt_63 (Nat.le_of_ble_eq_true rfl) fl_X5_15 rfl h9 ?_
          refine z_bipush dX5_both_48 (by decide) ?_
          refine z_iconst dX5_both_50 ?_
          refine z_VU (i_Rules_addStep hr_r45 hs h) vk_X8_addStep (ru_k hr_r45) (ru_l hr_r45) rfl ml_X5_119 (rm_O (by decide)) ⟨Nat.zero_le _, Nat.zero_le _⟩ rfl rfl (Nat.le_of_ble_eq_true rfl) dX5_both_51 (fun μ_6 hs h => ?_)
          refine z_iinc (j := 3) (lv' := [(3, vi (v3 + 1)), (2, vi (b2i r40)), (0, vr Γ 63), (1, vi a1)]) dX5_both_54 rfl (Nat.le_of_ble_eq_true rfl) rfl ?_
          refine z_goto (tgt := 8) dX5_both_57 (by decide) ?_
          refine z_sub (lv' := [(0, vr Γ 63), (1, vi a1), (2, vi (b2i r40)), (3, vi (v3 + 1))]) [2, 3, 1, 0] rfl ?_
          exact hR_8 r40 (v3 + 1) μ_6 hs h
        · refine z_sub (lv' := [(2, vi (b2i v2))]) [2] rfl ?_
          exact hX_8_60 v2 μ_3 hs h
      · refine z_sub (lv' := [(2, vi (b2i v2))]) [2] rfl ?_
        exact hX_8_60 v2 μ_2 hs h
    · refine z_sub (lv' := [(2, vi (b2i v2))]) [2] rfl ?_
      exact hX_8_60 v2 μ_2 hs h
theorem i_OrdR_both {l : Launch} {Γ : Gam} {g : Nat} {a1 : Int} {μ : Mem} {d : Nat} {rec : Nat → Int → Mem → (Bool → Mem → Prop) → Prop} {k : Bool → Mem → Prop} (H : H_O l Γ g rec d) (hs : StatR μ.2.2) (h : f_OrdR_both rec a1 μ k) : CT l Γ yX5_both cX5_both 4 (some .boolean) (10 * (d + 1) + 10) (60 * (d + 1) + 300) 0 0 [vr Γ 63, vi a1] g 175 μ (pB k) := by
  refine SW.ct (by decide) (Nat.le_of_ble_eq_true rfl) ?_
  refine z_sub (lv' := [(0, vr Γ 63), (1, vi a1)]) [0, 1] rfl ?_
  show SW l Γ yX5_both.cls cX5_both (Y_OrdR_both d) (pB k) g 175 0 0 μ 0 [(0, vr Γ 63), (1, vi a1)] []
  unfold f_OrdR_both at h
  refine z_rload_n dX5_both_0 rfl 0 rfl ?_
  refine z_iload_n dX5_both_1 rfl 1 rfl ?_
  refine z_VB ((H _ _ _ hs).2.2.1 h) vk_X5_piece kt_63 (Nat.le_of_ble_eq_true rfl) rfl ml_X5_123 (rm_OR (by decide)) ⟨Nat.zero_le _, Nat.zero_le _⟩ rfl rfl (Nat.le_of_ble_eq_true rfl) dX5_both_2 (fun r2 μ_1 hs h => ?_)
  refine z_istore_n (lv' := [(2, vi (b2i r2)), (0, vr Γ 63), (1, vi a1)]) dX5_both_5 rfl (Nat.le_of_ble_eq_true rfl) rfl ?_
  refine z_iconst dX5_both_6 ?_
  refine z_istore_n (lv' := [(3, vi 0), (2, vi (b2i r2)), (0, vr Γ 63), (1, vi a1)]) dX5_both_7 rfl (Nat.le_of_ble_eq_true rfl) rfl ?_
  obtain ⟨m8, h⟩ := h
  refine z_sub (lv' := [(0, vr Γ 63), (1, vi a1), (2, vi (b2i r2)), (3, vi 0)]) [2, 3, 1, 0] rfl ?_
  refine L_OrdR_both_8 H (fun v2_1 μ_7 hs h => ?_) m8 r2 0 μ_1 hs h
  refine z_iload_n dX5_both_60 rfl 0 rfl ?_
  exact z_zret (b := v2_1) rfl dX5_both_61 rfl rfl rfl ⟨_, rfl, hs, h⟩
abbrev Y_OrdR_piece (d : Nat) : Yt := (5, (some .boolean), yX5_piece.name, { frames := 10 * (d + 1) + 10, cells := 0, slots := 0, locals := 60 * (d + 1) + 300 }, 175, 0, 0)
def b_OrdR_piece_65 (k : Bool → Mem → Prop) (v2_2 : Bool) (v4_1 : Int) (s0_1 : Bool) (μ_8 : Mem) : Prop := ∃ r67 : Nat, rR μ_8 9065 0 = some r67 ∧ isRu r67 = true ∧ f_Rules_addStep r67 v4_1 0 μ_8 (fun μ_9 => if v2_2 = true then (∃ r81_1 : Nat, rR μ_9 9065 0 = some r81_1 ∧ isRu r81_1 = true ∧ f_Rules_addStep r81_1 11 0 μ_9 (fun μ_10 => k s0_1 μ_10)) else (k s0_1 μ_9))
def b_OrdR_piece_64 (k : Bool → Mem → Prop) (v2_1 : Bool) (v4 : Int) (μ_7 : Mem) : Prop := b_OrdR_piece_65 k v2_1 v4 false μ_7
def b_OrdR_piece_44 (k : Bool → Mem → Prop) (rec : Nat → Int → Mem → (Bool → Mem → Prop) → Prop) (v1 : Int) (v2 : Bool) (s0 : Int) (μ_6 : Mem) : Prop := if w s0 = w (-1) then (b_OrdR_piece_64 k v2 s0 μ_6) else (rec 4 v1 μ_6 (fun r54 μ_11 => ∀ x65 : Bool, x65 = (if r54 = true then true else false) → ∃ r67_1 : Nat, rR μ_11 9065 0 = some r67_1 ∧ isRu r67_1 = true ∧ f_Rules_addStep r67_1 s0 0 μ_11 (fun μ_12 => if v2 = true then (∃ r81_2 : Nat, rR μ_12 9065 0 = some r81_2 ∧ isRu r81_2 = true ∧ f_Rules_addStep r81_2 11 0 μ_12 (fun μ_13 => k x65 μ_13)) else (k x65 μ_12))))
def f_OrdR_piece (rec : Nat → Int → Mem → (Bool → Mem → Prop) → Prop) (a1 : Int) (μ : Mem) (k : Bool → Mem → Prop) : Prop := f_OrdR_skipNots  μ (fun r1 μ_1 => if (v_Tape_isSign 91 μ_1) = true then (rec 3 a1 μ_1 (fun r19 μ_2 => if r1 = true then (∃ r81 : Nat, rR μ_2 9065 0 = some r81 ∧ isRu r81 = true ∧ f_Rules_addStep r81 11 0 μ_2 (fun μ_3 => k r19 μ_3)) else (k r19 μ_2))) else (rec 4 a1 μ_1 (fun r28 μ_4 => if r28 = true then (f_OrdR_takeComparison  μ_4 (fun r37 μ_5 => b_OrdR_piece_44 k rec a1 r1 r37 μ_5)) else (b_OrdR_piece_44 k rec a1 r1 (-1) μ_4))))
theorem B_OrdR_piece_65 {l : Launch} {Γ : Gam} {g : Nat} {k : Bool → Mem → Prop} {d : Nat} {v2_2 : Bool} {v4_1 : Int} {s0_1 : Bool} {μ_8 : Mem} (hs : StatR μ_8.2.2) (h : b_OrdR_piece_65 k v2_2 v4_1 s0_1 μ_8) : SW l Γ yX5_piece.cls cX5_piece (Y_OrdR_piece d) (pB k) g 175 0 0 μ_8 65 [(0, vr Γ 63), (2, vi (b2i v2_2)), (4, vi v4_1)] [vi (b2i s0_1)] := by
  unfold b_OrdR_piece_65 at h
  refine z_istore_n (lv' := [(3, vi (b2i s0_1)), (0, vr Γ 63), (2, vi (b2i v2_2)), (4, vi v4_1)]) dX5_piece_65 rfl (Nat.le_of_ble_eq_true rfl) rfl ?_
  refine z_rload_n dX5_piece_66 rfl 1 rfl ?_
  obtain ⟨r67, h9, hr_r67, h⟩ := h
  refine z_getR (q := 9065) ff_5_1 dX5_piece_67 kt_63 (Nat.le_of_ble_eq_true rfl) fl_X5_15 rfl h9 ?_
  refine z_iload dX5_piece_70 3 rfl ?_
  refine z_iconst dX5_piece_72 ?_
  refine z_VU (i_Rules_addStep hr_r67 hs h) vk_X8_addStep (ru_k hr_r67) (ru_l hr_r67) rfl ml_X5_119 (rm_O (by decide)) ⟨Nat.zero_le _, Nat.zero_le _⟩ rfl rfl (Nat.le_of_ble_eq_true rfl) dX5_piece_73 (fun μ_9 hs h => ?_)
  refine z_iload_n dX5_piece_76 rfl 2 rfl ?_
  refine z_ifeq_b (tgt := 90) dX5_piece_77 (by decide) h (fun h => ?_) (fun h => ?_)
  · refine z_rload_n dX5_piece_80 rfl 1 rfl ?_
    obtain ⟨r81_1, h9, hr_r81_1, h⟩ := h
    refine z_getR (q := 9065) ff_5_1 dX5_piece_81 kt_63 (Nat.le_of_ble_eq_true rfl) fl_X5_15 rfl h9 ?_
    refine z_bipush dX5_piece_84 (by decide) ?_
    refine z_iconst dX5_piece_86 ?_
    refine z_VU (i_Rules_addStep hr_r81_1 hs h) vk_X8_addStep (ru_k hr_r81_1) (ru_l hr_r81_1) rfl ml_X5_119 (rm_O (by decide)) ⟨Nat.zero_le _, Nat.zero_le _⟩ rfl rfl (Nat.le_of_ble_eq_true rfl) dX5_piece_87 (fun μ_10 hs h => ?_)
    refine z_iload_n dX5_piece_90 rfl 0 rfl ?_
    exact z_zret (b := s0_1) rfl dX5_piece_91 rfl rfl rfl ⟨_, rfl, hs, h⟩
  · refine z_iload_n dX5_piece_90 rfl 0 rfl ?_
    exact z_zret (b := s0_1) rfl dX5_piece_91 rfl rfl rfl ⟨_, rfl, hs, h⟩
theorem B_OrdR_piece_64 {l : Launch} {Γ : Gam} {g : Nat} {k : Bool → Mem → Prop} {d : Nat} {v2_1 : Bool} {v4 : Int} {μ_7 : Mem} (hs : StatR μ_7.2.2) (h : b_OrdR_piece_64 k v2_1 v4 μ_7) : SW l Γ yX5_piece.cls cX5_piece (Y_OrdR_piece d) (pB k) g 175 0 0 μ_7 64 [(0, vr Γ 63), (2, vi (b2i v2_1)), (4, vi v4)] [] := by
  unfold b_OrdR_piece_64 at h
  refine z_iconst dX5_piece_64 ?_
  refine z_sub (lv' := [(0, vr Γ 63), (2, vi (b2i v2_1)), (4, vi v4)]) [0, 1, 2] rfl ?_
  exact B_OrdR_piece_65 hs h
theorem B_OrdR_piece_44 {l : Launch} {Γ : Gam} {g : Nat} {k : Bool → Mem → Prop} {d : Nat} {rec : Nat → Int → Mem → (Bool → Mem → Prop) → Prop} {v1 : Int} {v2 : Bool} {s0 : Int} {μ_6 : Mem} (H : H_O l Γ g rec d) (hs : StatR μ_6.2.2) (h : b_OrdR_piece_44 k rec v1 v2 s0 μ_6) : SW l Γ yX5_piece.cls cX5_piece (Y_OrdR_piece d) (pB k) g 175 0 0 μ_6 44 [(0, vr Γ 63), (1, vi v1), (2, vi (b2i v2))] [vi s0] := by
  unfold b_OrdR_piece_44 at h
  refine z_istore (lv' := [(4, vi s0), (0, vr Γ 63), (1, vi v1), (2, vi (b2i v2))]) dX5_piece_44 (Nat.le_of_ble_eq_true rfl) rfl ?_
  refine z_iload dX5_piece_46 0 rfl ?_
  refine z_iconst dX5_piece_48 ?_
  refine z_icmp_eq (tgt := 64) dX5_piece_49 (by decide) h (fun h => ?_) (fun h => ?_)
  · refine z_sub (lv' := [(0, vr Γ 63), (2, vi (b2i v2)), (4, vi s0)]) [1, 3, 0] rfl ?_
    exact B_OrdR_piece_64 hs h
  · refine z_rload_n dX5_piece_52 rfl 1 rfl ?_
    refine z_iload_n dX5_piece_53 rfl 2 rfl ?_
    refine z_VB ((H _ _ _ hs).2.2.2.2.1 h) vk_X5_sum kt_63 (Nat.le_of_ble_eq_true rfl) rfl ml_X5_64 (rm_OR (by decide)) ⟨Nat.zero_le _, Nat.zero_le _⟩ rfl rfl (Nat.le_of_ble_eq_true rfl) dX5_piece_54 (fun r54 μ_11 hs h => ?_)
    refine z_phiB 65 [] (fun V9 hv J9 => ?_) h (fun x65 h => ?_)
    · refine z_ifeq_b (tgt := 64) dX5_piece_57 (by decide) (eq_ite hv) (fun hv => ?_) (fun hv => ?_)
      · refine z_iconst dX5_piece_60 ?_
        refine z_goto (tgt := 65) dX5_piece_61 (by decide) ?_
        exact J9 true hv.symm
      · refine z_iconst dX5_piece_64 ?_
        exact J9 false hv.symm
    · refine z_istore_n (lv' := [(3, vi (b2i x65)), (4, vi s0), (0, vr Γ 63), (1, vi v1), (2, vi (b2i v2))]) dX5_piece_65 rfl (Nat.le_of_ble_eq_true rfl) rfl ?_
      refine z_rload_n dX5_piece_66 rfl 2 rfl ?_
      obtain ⟨r67_1, h9, hr_r67_1, h⟩ := h
      refine z_getR (q := 9065) ff_5_1 dX5_piece_67 kt_63 (Nat.le_of_ble_eq_true rfl) fl_X5_15 rfl h9 ?_
      refine z_iload dX5_piece_70 1 rfl ?_
      refine z_iconst dX5_piece_72 ?_
      refine z_VU (i_Rules_addStep hr_r67_1 hs h) vk_X8_addStep (ru_k hr_r67_1) (ru_l hr_r67_1) rfl ml_X5_119 (rm_O (by decide)) ⟨Nat.zero_le _, Nat.zero_le _⟩ rfl rfl (Nat.le_of_ble_eq_true rfl) dX5_piece_73 (fun μ_12 hs h => ?_)
      refine z_iload_n dX5_piece_76 rfl 4 rfl ?_
      refine z_ifeq_b (tgt := 90) dX5_piece_77 (by decide) h (fun h => ?_) (fun h => ?_)
      · refine z_rload_n dX5_piece_80 rfl 2 rfl ?_
        obtain ⟨r81_2, h9, hr_r81_2, h⟩ := h
        refine z_getR (q := 9065) ff_5_1 dX5_piece_81 kt_63 (Nat.le_of_ble_eq_true rfl) fl_X5_15 rfl h9 ?_
        refine z_bipush dX5_piece_84 (by decide) ?_
        refine z_iconst dX5_piece_86 ?_
        refine z_VU (i_Rules_addStep hr_r81_2 hs h) vk_X8_addStep (ru_k hr_r81_2) (ru_l hr_r81_2) rfl ml_X5_119 (rm_O (by decide)) ⟨Nat.zero_le _, Nat.zero_le _⟩ rfl rfl (Nat.le_of_ble_eq_true rfl) dX5_piece_87 (fun μ_13 hs h => ?_)
        refine z_iload_n dX5_piece_90 rfl 0 rfl ?_
        exact z_zret (b := x65) rfl dX5_piece_91 rfl rfl rfl ⟨_, rfl, hs, h⟩
      · refine z_iload_n dX5_piece_90 rfl 0 rfl ?_
        exact z_zret (b := x65) rfl dX5_piece_91 rfl rfl rfl ⟨_, rfl, hs, h⟩
theorem i_OrdR_piece {l : Launch} {Γ : Gam} {g : Nat} {a1 : Int} {μ : Mem} {d : Nat} {rec : Nat → Int → Mem → (Bool → Mem → Prop) → Prop} {k : Bool → Mem → Prop} (H : H_O l Γ g rec d) (hs : StatR μ.2.2) (h : f_OrdR_piece rec a1 μ k) : CT l Γ yX5_piece cX5_piece 5 (some .boolean) (10 * (d + 1) + 10) (60 * (d + 1) + 300) 0 0 [vr Γ 63, vi a1] g 175 μ (pB k) := by
  refine SW.ct (by decide) (Nat.le_of_ble_eq_true rfl) ?_
  refine z_sub (lv' := [(0, vr Γ 63), (1, vi a1)]) [0, 1] rfl ?_
  show SW l Γ yX5_piece.cls cX5_piece (Y_OrdR_piece d) (pB k) g 175 0 0 μ 0 [(0, vr Γ 63), (1, vi a1)] []
  unfold f_OrdR_piece at h
  refine z_rload_n dX5_piece_0 rfl 0 rfl ?_
  refine z_VB (i_OrdR_skipNots  hs h) vk_X5_skipNots kt_63 (Nat.le_of_ble_eq_true rfl) rfl ml_X5_128 (rm_O (by decide)) ⟨Nat.zero_le _, Nat.zero_le _⟩ rfl rfl (Nat.le_of_ble_eq_true rfl) dX5_piece_1 (fun r1 μ_1 hs h => ?_)
  refine z_istore_n (lv' := [(2, vi (b2i r1)), (0, vr Γ 63), (1, vi a1)]) dX5_piece_4 rfl (Nat.le_of_ble_eq_true rfl) rfl ?_
  refine z_rload_n dX5_piece_5 rfl 1 rfl ?_
  refine z_getR (q := 9064) ff_5_0 dX5_piece_6 kt_63 (Nat.le_of_ble_eq_true rfl) fl_X5_9 rfl (hs.1 _ _ sr_9064) ?_
  refine z_bipush dX5_piece_9 (by decide) ?_
  refine z_VE (i_Tape_isSign ) vk_X9_isSign kt_10 (Nat.le_of_ble_eq_true rfl) rfl ml_X5_131 (rm_O (by decide)) ⟨Nat.zero_le _, Nat.zero_le _⟩ rfl rfl (Nat.le_of_ble_eq_true rfl) dX5_piece_11 ?_
  refine z_ifeq_b (tgt := 26) dX5_piece_14 (by decide) h (fun h => ?_) (fun h => ?_)
  · refine z_rload_n dX5_piece_17 rfl 1 rfl ?_
    refine z_iload_n dX5_piece_18 rfl 2 rfl ?_
    refine z_VB ((H _ _ _ hs).2.2.2.1 h) vk_X5_square kt_63 (Nat.le_of_ble_eq_true rfl) rfl ml_X5_134 (rm_OR (by decide)) ⟨Nat.zero_le _, Nat.zero_le _⟩ rfl rfl (Nat.le_of_ble_eq_true rfl) dX5_piece_19 (fun r19 μ_2 hs h => ?_)
    refine z_istore_n (lv' := [(3, vi (b2i r19)), (2, vi (b2i r1)), (0, vr Γ 63), (1, vi a1)]) dX5_piece_22 rfl (Nat.le_of_ble_eq_true rfl) rfl ?_
    refine z_goto (tgt := 76) dX5_piece_23 (by decide) ?_
    refine z_iload_n dX5_piece_76 rfl 1 rfl ?_
    refine z_ifeq_b (tgt := 90) dX5_piece_77 (by decide) h (fun h => ?_) (fun h => ?_)
    · refine z_rload_n dX5_piece_80 rfl 2 rfl ?_
      obtain ⟨r81, h9, hr_r81, h⟩ := h
      refine z_getR (q := 9065) ff_5_1 dX5_piece_81 kt_63 (Nat.le_of_ble_eq_true rfl) fl_X5_15 rfl h9 ?_
      refine z_bipush dX5_piece_84 (by decide) ?_
      refine z_iconst dX5_piece_86 ?_
      refine z_VU (i_Rules_addStep hr_r81 hs h) vk_X8_addStep (ru_k hr_r81) (ru_l hr_r81) rfl ml_X5_119 (rm_O (by decide)) ⟨Nat.zero_le _, Nat.zero_le _⟩ rfl rfl (Nat.le_of_ble_eq_true rfl) dX5_piece_87 (fun μ_3 hs h => ?_)
      refine z_iload_n dX5_piece_90 rfl 0 rfl ?_
      exact z_zret (b := r19) rfl dX5_piece_91 rfl rfl rfl ⟨_, rfl, hs, h⟩
    · refine z_iload_n dX5_piece_90 rfl 0 rfl ?_
      exact z_zret (b := r19) rfl dX5_piece_91 rfl rfl rfl ⟨_, rfl, hs, h⟩
  · refine z_rload_n dX5_piece_26 rfl 1 rfl ?_
    refine z_iload_n dX5_piece_27 rfl 2 rfl ?_
    refine z_VB ((H _ _ _ hs).2.2.2.2.1 h) vk_X5_sum kt_63 (Nat.le_of_ble_eq_true rfl) rfl ml_X5_64 (rm_OR (by decide)) ⟨Nat.zero_le _, Nat.zero_le _⟩ rfl rfl (Nat.le_of_ble_eq_true rfl) dX5_piece_28 (fun r28 μ_4 hs h => ?_)
    refine z_istore_n (lv' := [(3, vi (b2i r28)), (2, vi (b2i r1)), (0, vr Γ 63), (1, vi a1)]) dX5_piece_31 rfl (Nat.le_of_ble_eq_true rfl) rfl ?_
    refine z_iload_n dX5_piece_32 rfl 0 rfl ?_
    refine z_ifeq_b (tgt := 43) dX5_piece_33 (by decide) h (fun h => ?_) (fun h => ?_)
    · refine z_rload_n dX5_piece_36 rfl 2 rfl ?_
      refine z_VI (i_OrdR_takeComparison  hs h) vk_X5_takeComparison kt_63 (Nat.le_of_ble_eq_true rfl) rfl ml_X5_137 (rm_O (by decide)) ⟨Nat.zero_le _, Nat.zero_le _⟩ rfl rfl (Nat.le_of_ble_eq_true rfl) dX5_piece_37 (fun r37 μ_5 hs h => ?_)
      refine z_goto (tgt := 44) dX5_piece_40 (by decide) ?_
      refine z_sub (lv' := [(0, vr Γ 63), (1, vi a1), (2, vi (b2i r1))]) [2, 3, 1] rfl ?_
      exact B_OrdR_piece_44 H hs h
    · refine z_iconst dX5_piece_43 ?_
      refine z_sub (lv' := [(0, vr Γ 63), (1, vi a1), (2, vi (b2i r1))]) [2, 3, 1] rfl ?_
      exact B_OrdR_piece_44 H hs h
abbrev Y_OrdR_square (d : Nat) : Yt := (2, (some .boolean), yX5_square.name, { frames := 10 * (d + 1) + 10, cells := 0, slots := 0, locals := 60 * (d + 1) + 300 }, 175, 0, 0)
def f_OrdR_square (rec : Nat → Int → Mem → (Bool → Mem → Prop) → Prop) (a1 : Int) (μ : Mem) (k : Bool → Mem → Prop) : Prop := if w a1 < w 4 then (f_Tape_next  μ (fun μ_1 => rec 0 (a1 + 1) μ_1 (fun r25 μ_2 => if r25 = true then (f_Tape_skipSign 93 μ_2 (fun r37 μ_3 => ∀ x48 : Bool, x48 = (if r37 = true then true else false) → k x48 μ_3)) else (k false μ_2)))) else (f_Tape_fail 4 μ (fun r10 μ_4 => k r10 μ_4))
theorem i_OrdR_square {l : Launch} {Γ : Gam} {g : Nat} {a1 : Int} {μ : Mem} {d : Nat} {rec : Nat → Int → Mem → (Bool → Mem → Prop) → Prop} {k : Bool → Mem → Prop} (H : H_O l Γ g rec d) (hs : StatR μ.2.2) (h : f_OrdR_square rec a1 μ k) : CT l Γ yX5_square cX5_square 2 (some .boolean) (10 * (d + 1) + 10) (60 * (d + 1) + 300) 0 0 [vr Γ 63, vi a1] g 175 μ (pB k) := by
  refine SW.ct (by decide) (Nat.le_of_ble_eq_true rfl) ?_
  refine z_sub (lv' := [(0, vr Γ 63), (1, vi a1)]) [0, 1] rfl ?_
  show SW l Γ yX5_square.cls cX5_square (Y_OrdR_square d) (pB k) g 175 0 0 μ 0 [(0, vr Γ 63), (1, vi a1)] []
  unfold f_OrdR_square at h
  refine z_iload_n dX5_square_0 rfl 1 rfl ?_
  refine z_iconst dX5_square_1 ?_
  refine z_icmp_lt (tgt := 14) dX5_square_2 (by decide) h (fun h => ?_) (fun h => ?_)
  · refine z_rload_n dX5_square_14 rfl 0 rfl ?_
    refine z_getR (q := 9064) ff_5_0 dX5_square_15 kt_63 (Nat.le_of_ble_eq_true rfl) fl_X5_9 rfl (hs.1 _ _ sr_9064) ?_
    refine z_VU (i_Tape_next  hs h) vk_X9_next kt_10 (Nat.le_of_ble_eq_true rfl) rfl ml_X5_44 (rm_O (by decide)) ⟨Nat.zero_le _, Nat.zero_le _⟩ rfl rfl (Nat.le_of_ble_eq_true rfl) dX5_square_18 (fun μ_1 hs h => ?_)
    refine z_rload_n dX5_square_21 rfl 0 rfl ?_
    refine z_iload_n dX5_square_22 rfl 1 rfl ?_
    refine z_iconst dX5_square_23 ?_
    refine z_iadd dX5_square_24 ?_
    refine z_VB ((H _ _ _ hs).1 h) vk_X5_either kt_63 (Nat.le_of_ble_eq_true rfl) rfl ml_X5_50 (rm_OR (by decide)) ⟨Nat.zero_le _, Nat.zero_le _⟩ rfl rfl (Nat.le_of_ble_eq_true rfl) dX5_square_25 (fun r25 μ_2 hs h => ?_)
    refine z_ifeq_b (tgt := 47) dX5_square_28 (by decide) h (fun h => ?_) (fun h => ?_)
    · refine z_rload_n dX5_square_31 rfl 0 rfl ?_
      refine z_getR (q := 9064) ff_5_0 dX5_square_32 kt_63 (Nat.le_of_ble_eq_true rfl) fl_X5_9 rfl (hs.1 _ _ sr_9064) ?_
      refine z_bipush dX5_square_35 (by decide) ?_
      refine z_VB (i_Tape_skipSign  hs h) vk_X9_skipSign kt_10 (Nat.le_of_ble_eq_true rfl) rfl ml_X5_81 (rm_O (by decide)) ⟨Nat.zero_le _, Nat.zero_le _⟩ rfl rfl (Nat.le_of_ble_eq_true rfl) dX5_square_37 (fun r37 μ_3 hs h => ?_)
      refine z_phiB 48 [] (fun V9 hv J9 => ?_) h (fun x48 h => ?_)
      · refine z_ifeq_b (tgt := 47) dX5_square_40 (by decide) (eq_ite hv) (fun hv => ?_) (fun hv => ?_)
        · refine z_iconst dX5_square_43 ?_
          refine z_goto (tgt := 48) dX5_square_44 (by decide) ?_
          exact J9 true hv.symm
        · refine z_iconst dX5_square_47 ?_
          exact J9 false hv.symm
      · exact z_zret (b := x48) rfl dX5_square_48 rfl rfl rfl ⟨_, rfl, hs, h⟩
    · refine z_iconst dX5_square_47 ?_
      exact z_zret (b := false) rfl dX5_square_48 rfl rfl rfl ⟨_, rfl, hs, h⟩
  · refine z_rload_n dX5_square_5 rfl 0 rfl ?_
    refine z_getR (q := 9064) ff_5_0 dX5_square_6 kt_63 (Nat.le_of_ble_eq_true rfl) fl_X5_9 rfl (hs.1 _ _ sr_9064) ?_
    refine z_iconst dX5_square_9 ?_
    refine z_VB (i_Tape_fail  hs h) vk_X9_fail kt_10 (Nat.le_of_ble_eq_true rfl) rfl ml_X5_41 (rm_O (by decide)) ⟨Nat.zero_le _, Nat.zero_le _⟩ rfl rfl (Nat.le_of_ble_eq_true rfl) dX5_square_10 (fun r10 μ_4 hs h => ?_)
    exact z_zret (b := r10) rfl dX5_square_13 rfl rfl rfl ⟨_, rfl, hs, h⟩
abbrev Y_OrdR_sum (d : Nat) : Yt := (5, (some .boolean), yX5_sum.name, { frames := 10 * (d + 1) + 10, cells := 0, slots := 0, locals := 60 * (d + 1) + 300 }, 175, 0, 0)
def b_OrdR_sum_43 (R_8 : Bool → Int → Mem → Prop) (rec : Nat → Int → Mem → (Bool → Mem → Prop) → Prop) (v1 : Int) (v3_1 : Int) (μ_3 : Mem) : Prop := ∀ x60 : Int, x60 = (if (v_Tape_isSign 43 μ_3) = true then 2 else 3) → f_Tape_next  μ_3 (fun μ_4 => rec 5 v1 μ_4 (fun r71 μ_5 => ∃ r76 : Nat, rR μ_5 9065 0 = some r76 ∧ isRu r76 = true ∧ f_Rules_addStep r76 x60 0 μ_5 (fun μ_6 => R_8 r71 (v3_1 + 1) μ_6)))
def l_OrdR_sum_8 (a1 : Int) (X_8_91 : Bool → Mem → Prop) (rec : Nat → Int → Mem → (Bool → Mem → Prop) → Prop) : Nat → Bool → Int → Mem → Prop
  | 0, _, _, _ => False
  | fu8 + 1, v2, v3, μ_2 => if w v3 < w 300 then (if v2 = true then (if (v_Tape_isSign 43 μ_2) = true then (b_OrdR_sum_43 (l_OrdR_sum_8 a1 X_8_91 rec fu8) rec a1 v3 μ_2) else (if (v_Tape_isSign 45 μ_2) = true then (b_OrdR_sum_43 (l_OrdR_sum_8 a1 X_8_91 rec fu8) rec a1 v3 μ_2) else (X_8_91 v2 μ_2))) else (X_8_91 v2 μ_2)) else (X_8_91 v2 μ_2)
def f_OrdR_sum (rec : Nat → Int → Mem → (Bool → Mem → Prop) → Prop) (a1 : Int) (μ : Mem) (k : Bool → Mem → Prop) : Prop := rec 5 a1 μ (fun r2 μ_1 => ∃ m8 : Nat, l_OrdR_sum_8 a1 (fun (v2_1 : Bool) (μ_7 : Mem) => k v2_1 μ_7) rec m8 r2 0 μ_1)
theorem B_OrdR_sum_43 {l : Launch} {Γ : Gam} {g : Nat} {R_8 : Bool → Int → Mem → Prop} {k : Bool → Mem → Prop} {d : Nat} {rec : Nat → Int → Mem → (Bool → Mem → Prop) → Prop} {v1 : Int} {v3_1 : Int} {μ_3 : Mem} (H : H_O l Γ g rec d) (hR_8 : ∀ (u2 : Bool) (u3 : Int) (ν : Mem), StatR ν.2.2 → R_8 u2 u3 ν → SW l Γ yX5_sum.cls cX5_sum (Y_OrdR_sum d) (pB k) g 175 0 0 ν 8 [(0, vr Γ 63), (1, vi v1), (2, vi (b2i u2)), (3, vi u3)] []) (hs : StatR μ_3.2.2) (h : b_OrdR_sum_43 R_8 rec v1 v3_1 μ_3) : SW l Γ yX5_sum.cls cX5_sum (Y_OrdR_sum d) (pB k) g 175 0 0 μ_3 43 [(0, vr Γ 63), (1, vi v1), (3, vi v3_1)] [] := by
  unfold b_OrdR_sum_43 at h
  refine z_rload_n dX5_sum_43 rfl 0 rfl ?_
  refine z_getR (q := 9064) ff_5_0 dX5_sum_44 kt_63 (Nat.le_of_ble_eq_true rfl) fl_X5_9 rfl (hs.1 _ _ sr_9064) ?_
  refine z_bipush dX5_sum_47 (by decide) ?_
  refine z_VE (i_Tape_isSign ) vk_X9_isSign kt_10 (Nat.le_of_ble_eq_true rfl) rfl ml_X5_131 (rm_O (by decide)) ⟨Nat.zero_le _, Nat.zero_le _⟩ rfl rfl (Nat.le_of_ble_eq_true rfl) dX5_sum_49 ?_
  refine z_phi 60 [] (fun V9 hv J9 => ?_) h (fun x60 h => ?_)
  · refine z_ifeq_b (tgt := 59) dX5_sum_52 (by decide) (eq_ite hv) (fun hv => ?_) (fun hv => ?_)
    · refine z_iconst dX5_sum_55 ?_
      refine z_goto (tgt := 60) dX5_sum_56 (by decide) ?_
      exact J9 _ hv.symm
    · refine z_iconst dX5_sum_59 ?_
      exact J9 _ hv.symm
  · refine z_istore (lv' := [(4, vi x60), (0, vr Γ 63), (1, vi v1), (3, vi v3_1)]) dX5_sum_60 (Nat.le_of_ble_eq_true rfl) rfl ?_
    refine z_rload_n dX5_sum_62 rfl 1 rfl ?_
    refine z_getR (q := 9064) ff_5_0 dX5_sum_63 kt_63 (Nat.le_of_ble_eq_true rfl) fl_X5_9 rfl (hs.1 _ _ sr_9064) ?_
    refine z_VU (i_Tape_next  hs h) vk_X9_next kt_10 (Nat.le_of_ble_eq_true rfl) rfl ml_X5_44 (rm_O (by decide)) ⟨Nat.zero_le _, Nat.zero_le _⟩ rfl rfl (Nat.le_of_ble_eq_true rfl) dX5_sum_66 (fun μ_4 hs h => ?_)
    refine z_rload_n dX5_sum_69 rfl 1 rfl ?_
    refine z_iload_n dX5_sum_70 rfl 2 rfl ?_
    refine z_VB ((H _ _ _ hs).2.2.2.2.2.1 h) vk_X5_product kt_63 (Nat.le_of_ble_eq_true rfl) rfl ml_X5_142 (rm_OR (by decide)) ⟨Nat.zero_le _, Nat.zero_le _⟩ rfl rfl (Nat.le_of_ble_eq_true rfl) dX5_sum_71 (fun r71 μ_5 hs h => ?_)
    refine z_istore_n (lv' := [(2, vi (b2i r71)), (4, vi x60), (0, vr Γ 63), (1, vi v1), (3, vi v3_1)]) dX5_sum_74 rfl (Nat.le_of_ble_eq_true rfl) rfl ?_
    refine z_rload_n dX5_sum_75 rfl 2 rfl ?_
    obtain ⟨r76, h9, hr_r76, h⟩ := h
    refine z_getR (q := 9065) ff_5_1 dX5_sum_76 kt_63 (Nat.le_of_ble_eq_true rfl) fl_X5_15 rfl h9 ?_
    refine z_iload dX5_sum_79 1 rfl ?_
    refine z_iconst dX5_sum_81 ?_
    refine z_VU (i_Rules_addStep hr_r76 hs h) vk_X8_addStep (ru_k hr_r76) (ru_l hr_r76) rfl ml_X5_119 (rm_O (by decide)) ⟨Nat.zero_le _, Nat.zero_le _⟩ rfl rfl (Nat.le_of_ble_eq_true rfl) dX5_sum_82 (fun μ_6 hs h => ?_)
    refine z_iinc (j := 4) (lv' := [(3, vi (v3_1 + 1)), (2, vi (b2i r71)), (4, vi x60), (0, vr Γ 63), (1, vi v1)]) dX5_sum_85 rfl (Nat.le_of_ble_eq_true rfl) rfl ?_
    refine z_goto (tgt := 8) dX5_sum_88 (by decide) ?_
    refine z_sub (lv' := [(0, vr Γ 63), (1, vi v1), (2, vi (b2i r71)), (3, vi (v3_1 + 1))]) [3, 4, 1, 0] rfl ?_
    exact hR_8 r71 (v3_1 + 1) μ_6 hs h
theorem L_OrdR_sum_8 {l : Launch} {Γ : Gam} {g : Nat} {a1 : Int} {X_8_91 : Bool → Mem → Prop} {k : Bool → Mem → Prop} {d : Nat} {rec : Nat → Int → Mem → (Bool → Mem → Prop) → Prop} (H : H_O l Γ g rec d) (hX_8_91 : ∀ (u2 : Bool) (ν : Mem), StatR ν.2.2 → X_8_91 u2 ν → SW l Γ yX5_sum.cls cX5_sum (Y_OrdR_sum d) (pB k) g 175 0 0 ν 91 [(2, vi (b2i u2))] []) (n9 : Nat) : ∀ (v2 : Bool) (v3 : Int) (μ_2 : Mem), StatR μ_2.2.2 → l_OrdR_sum_8 a1 X_8_91 rec n9 v2 v3 μ_2 → SW l Γ yX5_sum.cls cX5_sum (Y_OrdR_sum d) (pB k) g 175 0 0 μ_2 8 [(0, vr Γ 63), (1, vi a1), (2, vi (b2i v2)), (3, vi v3)] [] := by
  induction n9 with
  | zero =>
    intro v2 v3 μ_2 hs h
    exact h.elim
  | succ n9 hR_8 =>
    intro v2 v3 μ_2 hs h
    rw [l_OrdR_sum_8] at h
    refine z_iload_n dX5_sum_8 rfl 3 rfl ?_
    refine z_sipush dX5_sum_9 (by decide) ?_
    refine z_icmp_ge (tgt := 91) dX5_sum_12 (by decide) h (fun h => ?_) (fun h => ?_)
    · refine z_iload_n dX5_sum_15 rfl 2 rfl ?_
      refine z_ifeq_b (tgt := 91) dX5_sum_16 (by decide) h (fun h => ?_) (fun h => ?_)
      · refine z_rload_n dX5_sum_19 rfl 0 rfl ?_
        refine z_getR (q := 9064) ff_5_0 dX5_sum_20 kt_63 (Nat.le_of_ble_eq_true rfl) fl_X5_9 rfl (hs.1 _ _ sr_9064) ?_
        refine z_bipush dX5_sum_23 (by decide) ?_
        refine z_VE (i_Tape_isSign ) vk_X9_isSign kt_10 (Nat.le_of_ble_eq_true rfl) rfl ml_X5_131 (rm_O (by decide)) ⟨Nat.zero_le _, Nat.zero_le _⟩ rfl rfl (Nat.le_of_ble_eq_true rfl) dX5_sum_25 ?_
        refine z_ifne_b (tgt := 43) dX5_sum_28 (by decide) h (fun h => ?_) (fun h => ?_)
        · refine z_sub (lv' := [(0, vr Γ 63), (1, vi a1), (3, vi v3)]) [0, 1, 3] rfl ?_
          exact B_OrdR_sum_43 H hR_8 hs h
        · refine z_rload_n dX5_sum_31 rfl 0 rfl ?_
          refine z_getR (q := 9064) ff_5_0 dX5_sum_32 kt_63 (Nat.le_of_ble_eq_true rfl) fl_X5_9 rfl (hs.1 _ _ sr_9064) ?_
          refine z_bipush dX5_sum_35 (by decide) ?_
          refine z_VE (i_Tape_isSign ) vk_X9_isSign kt_10 (Nat.le_of_ble_eq_true rfl) rfl ml_X5_131 (rm_O (by decide)) ⟨Nat.zero_le _, Nat.zero_le _⟩ rfl rfl (Nat.le_of_ble_eq_true rfl) dX5_sum_37 ?_
          refine z_ifeq_b (tgt := 91) dX5_sum_40 (by decide) h (fun h => ?_) (fun h => ?_)
          · refine z_sub (lv' := [(0, vr Γ 63), (1, vi a1), (3, vi v3)]) [0, 1, 3] rfl ?_
            exact B_OrdR_sum_43 H hR_8 hs h
          · refine z_sub (lv' := [(2, vi (b2i v2))]) [2] rfl ?_
            exact hX_8_91 v2 μ_2 hs h
      · refine z_sub (lv' := [(2, vi (b2i v2))]) [2] rfl ?_
        exact hX_8_91 v2 μ_2 hs h
    · refine z_sub (lv' := [(2, vi (b2i v2))]) [2] rfl ?_
      exact hX_8_91 v2 μ_2 hs h
theorem i_OrdR_sum {l : Launch} {Γ : Gam} {g : Nat} {a1 : Int} {μ : Mem} {d : Nat} {rec : Nat → Int → Mem → (Bool → Mem → Prop) → Prop} {k : Bool → Mem → Prop} (H : H_O l Γ g rec d) (hs : StatR μ.2.2) (h : f_OrdR_sum rec a1 μ k) : CT l Γ yX5_sum cX5_sum 5 (some .boolean) (10 * (d + 1) + 10) (60 * (d + 1) + 300) 0 0 [vr Γ 63, vi a1] g 175 μ (pB k) := by
  refine SW.ct (by decide) (Nat.le_of_ble_eq_true rfl) ?_
  refine z_sub (lv' := [(0, vr Γ 63), (1, vi a1)]) [0, 1] rfl ?_
  show SW l Γ yX5_sum.cls cX5_sum (Y_OrdR_sum d) (pB k) g 175 0 0 μ 0 [(0, vr Γ 63), (1, vi a1)] []
  unfold f_OrdR_sum at h
  refine z_rload_n dX5_sum_0 rfl 0 rfl ?_
  refine z_iload_n dX5_sum_1 rfl 1 rfl ?_
  refine z_VB ((H _ _ _ hs).2.2.2.2.2.1 h) vk_X5_product kt_63 (Nat.le_of_ble_eq_true rfl) rfl ml_X5_142 (rm_OR (by decide)) ⟨Nat.zero_le _, Nat.zero_le _⟩ rfl rfl (Nat.le_of_ble_eq_true rfl) dX5_sum_2 (fun r2 μ_1 hs h => ?_)
  refine z_istore_n (lv' := [(2, vi (b2i r2)), (0, vr Γ 63), (1, vi a1)]) dX5_sum_5 rfl (Nat.le_of_ble_eq_true rfl) rfl ?_
  refine z_iconst dX5_sum_6 ?_
  refine z_istore_n (lv' := [(3, vi 0), (2, vi (b2i r2)), (0, vr Γ 63), (1, vi a1)]) dX5_sum_7 rfl (Nat.le_of_ble_eq_true rfl) rfl ?_
  obtain ⟨m8, h⟩ := h
  refine z_sub (lv' := [(0, vr Γ 63), (1, vi a1), (2, vi (b2i r2)), (3, vi 0)]) [2, 3, 1, 0] rfl ?_
  refine L_OrdR_sum_8 H (fun v2_1 μ_7 hs h => ?_) m8 r2 0 μ_1 hs h
  refine z_iload_n dX5_sum_91 rfl 0 rfl ?_
  exact z_zret (b := v2_1) rfl dX5_sum_92 rfl rfl rfl ⟨_, rfl, hs, h⟩
abbrev Y_OrdR_product (d : Nat) : Yt := (5, (some .boolean), yX5_product.name, { frames := 10 * (d + 1) + 10, cells := 0, slots := 0, locals := 60 * (d + 1) + 300 }, 175, 0, 0)
def b_OrdR_product_43 (R_8 : Bool → Int → Mem → Prop) (rec : Nat → Int → Mem → (Bool → Mem → Prop) → Prop) (v1 : Int) (v3_1 : Int) (μ_3 : Mem) : Prop := ∀ x60 : Int, x60 = (if (v_Tape_isSign 42 μ_3) = true then 4 else 5) → f_Tape_next  μ_3 (fun μ_4 => rec 6 v1 μ_4 (fun r71 μ_5 => ∃ r76 : Nat, rR μ_5 9065 0 = some r76 ∧ isRu r76 = true ∧ f_Rules_addStep r76 x60 0 μ_5 (fun μ_6 => R_8 r71 (v3_1 + 1) μ_6)))
def l_OrdR_product_8 (a1 : Int) (X_8_91 : Bool → Mem → Prop) (rec : Nat → Int → Mem → (Bool → Mem → Prop) → Prop) : Nat → Bool → Int → Mem → Prop
  | 0, _, _, _ => False
  | fu8 + 1, v2, v3, μ_2 => if w v3 < w 300 then (if v2 = true then (if (v_Tape_isSign 42 μ_2) = true then (b_OrdR_product_43 (l_OrdR_product_8 a1 X_8_91 rec fu8) rec a1 v3 μ_2) else (if (v_Tape_isSign 47 μ_2) = true then (b_OrdR_product_43 (l_OrdR_product_8 a1 X_8_91 rec fu8) rec a1 v3 μ_2) else (X_8_91 v2 μ_2))) else (X_8_91 v2 μ_2)) else (X_8_91 v2 μ_2)
def f_OrdR_product (rec : Nat → Int → Mem → (Bool → Mem → Prop) → Prop) (a1 : Int) (μ : Mem) (k : Bool → Mem → Prop) : Prop := rec 6 a1 μ (fun r2 μ_1 => ∃ m8 : Nat, l_OrdR_product_8 a1 (fun (v2_1 : Bool) (μ_7 : Mem) => k v2_1 μ_7) rec m8 r2 0 μ_1)
theorem B_OrdR_product_43 {l : Launch} {Γ : Gam} {g : Nat} {R_8 : Bool → Int → Mem → Prop} {k : Bool → Mem → Prop} {d : Nat} {rec : Nat → Int → Mem → (Bool → Mem → Prop) → Prop} {v1 : Int} {v3_1 : Int} {μ_3 : Mem} (H : H_O l Γ g rec d) (hR_8 : ∀ (u2 : Bool) (u3 : Int) (ν : Mem), StatR ν.2.2 → R_8 u2 u3 ν → SW l Γ yX5_product.cls cX5_product (Y_OrdR_product d) (pB k) g 175 0 0 ν 8 [(0, vr Γ 63), (1, vi v1), (2, vi (b2i u2)), (3, vi u3)] []) (hs : StatR μ_3.2.2) (h : b_OrdR_product_43 R_8 rec v1 v3_1 μ_3) : SW l Γ yX5_product.cls cX5_product (Y_OrdR_product d) (pB k) g 175 0 0 μ_3 43 [(0, vr Γ 63), (1, vi v1), (3, vi v3_1)] [] := by
  unfold b_OrdR_product_43 at h
  refine z_rload_n dX5_product_43 rfl 0 rfl ?_
  refine z_getR (q := 9064) ff_5_0 dX5_product_44 kt_63 (Nat.le_of_ble_eq_true rfl) fl_X5_9 rfl (hs.1 _ _ sr_9064) ?_
  refine z_bipush dX5_product_47 (by decide) ?_
  refine z_VE (i_Tape_isSign ) vk_X9_isSign kt_10 (Nat.le_of_ble_eq_true rfl) rfl ml_X5_131 (rm_O (by decide)) ⟨Nat.zero_le _, Nat.zero_le _⟩ rfl rfl (Nat.le_of_ble_eq_true rfl) dX5_product_49 ?_
  refine z_phi 60 [] (fun V9 hv J9 => ?_) h (fun x60 h => ?_)
  · refine z_ifeq_b (tgt := 59) dX5_product_52 (by decide) (eq_ite hv) (fun hv => ?_) (fun hv => ?_)
    · refine z_iconst dX5_product_55 ?_
      refine z_goto (tgt := 60) dX5_product_56 (by decide) ?_
      exact J9 _ hv.symm
    · refine z_iconst dX5_product_59 ?_
      exact J9 _ hv.symm
  · refine z_istore (lv' := [(4, vi x60), (0, vr Γ 63), (1, vi v1), (3, vi v3_1)]) dX5_product_60 (Nat.le_of_ble_eq_true rfl) rfl ?_
    refine z_rload_n dX5_product_62 rfl 1 rfl ?_
    refine z_getR (q := 9064) ff_5_0 dX5_product_63 kt_63 (Nat.le_of_ble_eq_true rfl) fl_X5_9 rfl (hs.1 _ _ sr_9064) ?_
    refine z_VU (i_Tape_next  hs h) vk_X9_next kt_10 (Nat.le_of_ble_eq_true rfl) rfl ml_X5_44 (rm_O (by decide)) ⟨Nat.zero_le _, Nat.zero_le _⟩ rfl rfl (Nat.le_of_ble_eq_true rfl) dX5_product_66 (fun μ_4 hs h => ?_)
    refine z_rload_n dX5_product_69 rfl 1 rfl ?_
    refine z_iload_n dX5_product_70 rfl 2 rfl ?_
    refine z_VB ((H _ _ _ hs).2.2.2.2.2.2 h) vk_X5_factor kt_63 (Nat.le_of_ble_eq_true rfl) rfl ml_X5_145 (rm_OR (by decide)) ⟨Nat.zero_le _, Nat.zero_le _⟩ rfl rfl (Nat.le_of_ble_eq_true rfl) dX5_product_71 (fun r71 μ_5 hs h => ?_)
    refine z_istore_n (lv' := [(2, vi (b2i r71)), (4, vi x60), (0, vr Γ 63), (1, vi v1), (3, vi v3_1)]) dX5_product_74 rfl (Nat.le_of_ble_eq_true rfl) rfl ?_
    refine z_rload_n dX5_product_75 rfl 2 rfl ?_
    obtain ⟨r76, h9, hr_r76, h⟩ := h
    refine z_getR (q := 9065) ff_5_1 dX5_product_76 kt_63 (Nat.le_of_ble_eq_true rfl) fl_X5_15 rfl h9 ?_
    refine z_iload dX5_product_79 1 rfl ?_
    refine z_iconst dX5_product_81 ?_
    refine z_VU (i_Rules_addStep hr_r76 hs h) vk_X8_addStep (ru_k hr_r76) (ru_l hr_r76) rfl ml_X5_119 (rm_O (by decide)) ⟨Nat.zero_le _, Nat.zero_le _⟩ rfl rfl (Nat.le_of_ble_eq_true rfl) dX5_product_82 (fun μ_6 hs h => ?_)
    refine z_iinc (j := 4) (lv' := [(3, vi (v3_1 + 1)), (2, vi (b2i r71)), (4, vi x60), (0, vr Γ 63), (1, vi v1)]) dX5_product_85 rfl (Nat.le_of_ble_eq_true rfl) rfl ?_
    refine z_goto (tgt := 8) dX5_product_88 (by decide) ?_
    refine z_sub (lv' := [(0, vr Γ 63), (1, vi v1), (2, vi (b2i r71)), (3, vi (v3_1 + 1))]) [3, 4, 1, 0] rfl ?_
    exact hR_8 r71 (v3_1 + 1) μ_6 hs h
theorem L_OrdR_product_8 {l : Launch} {Γ : Gam} {g : Nat} {a1 : Int} {X_8_91 : Bool → Mem → Prop} {k : Bool → Mem → Prop} {d : Nat} {rec : Nat → Int → Mem → (Bool → Mem → Prop) → Prop} (H : H_O l Γ g rec d) (hX_8_91 : ∀ (u2 : Bool) (ν : Mem), StatR ν.2.2 → X_8_91 u2 ν → SW l Γ yX5_product.cls cX5_product (Y_OrdR_product d) (pB k) g 175 0 0 ν 91 [(2, vi (b2i u2))] []) (n9 : Nat) : ∀ (v2 : Bool) (v3 : Int) (μ_2 : Mem), StatR μ_2.2.2 → l_OrdR_product_8 a1 X_8_91 rec n9 v2 v3 μ_2 → SW l Γ yX5_product.cls cX5_product (Y_OrdR_product d) (pB k) g 175 0 0 μ_2 8 [(0, vr Γ 63), (1, vi a1), (2, vi (b2i v2)), (3, vi v3)] [] := by
  induction n9 with
  | zero =>
    intro v2 v3 μ_2 hs h
    exact h.elim
  | succ n9 hR_8 =>
    intro v2 v3 μ_2 hs h
    rw [l_OrdR_product_8] at h
    refine z_iload_n dX5_product_8 rfl 3 rfl ?_
    refine z_sipush dX5_product_9 (by decide) ?_
    refine z_icmp_ge (tgt := 91) dX5_product_12 (by decide) h (fun h => ?_) (fun h => ?_)
    · refine z_iload_n dX5_product_15 rfl 2 rfl ?_
      refine z_ifeq_b (tgt := 91) dX5_product_16 (by decide) h (fun h => ?_) (fun h => ?_)
      · refine z_rload_n dX5_product_19 rfl 0 rfl ?_
        refine z_getR (q := 9064) ff_5_0 dX5_product_20 kt_63 (Nat.le_of_ble_eq_true rfl) fl_X5_9 rfl (hs.1 _ _ sr_9064) ?_
        refine z_bipush dX5_product_23 (by decide) ?_
        refine z_VE (i_Tape_isSign ) vk_X9_isSign kt_10 (Nat.le_of_ble_eq_true rfl) rfl ml_X5_131 (rm_O (by decide)) ⟨Nat.zero_le _, Nat.zero_le _⟩ rfl rfl (Nat.le_of_ble_eq_true rfl) dX5_product_25 ?_
        refine z_ifne_b (tgt := 43) dX5_product_28 (by decide) h (fun h => ?_) (fun h => ?_)
        · refine z_sub (lv' := [(0, vr Γ 63), (1, vi a1), (3, vi v3)]) [0, 1, 3] rfl ?_
          exact B_OrdR_product_43 H hR_8 hs h
        · refine z_rload_n dX5_product_31 rfl 0 rfl ?_
          refine z_getR (q := 9064) ff_5_0 dX5_product_32 kt_63 (Nat.le_of_ble_eq_true rfl) fl_X5_9 rfl (hs.1 _ _ sr_9064) ?_
          refine z_bipush dX5_product_35 (by decide) ?_
          refine z_VE (i_Tape_isSign ) vk_X9_isSign kt_10 (Nat.le_of_ble_eq_true rfl) rfl ml_X5_131 (rm_O (by decide)) ⟨Nat.zero_le _, Nat.zero_le _⟩ rfl rfl (Nat.le_of_ble_eq_true rfl) dX5_product_37 ?_
          refine z_ifeq_b (tgt := 91) dX5_product_40 (by decide) h (fun h => ?_) (fun h => ?_)
          · refine z_sub (lv' := [(0, vr Γ 63), (1, vi a1), (3, vi v3)]) [0, 1, 3] rfl ?_
            exact B_OrdR_product_43 H hR_8 hs h
          · refine z_sub (lv' := [(2, vi (b2i v2))]) [2] rfl ?_
            exact hX_8_91 v2 μ_2 hs h
      · refine z_sub (lv' := [(2, vi (b2i v2))]) [2] rfl ?_
        exact hX_8_91 v2 μ_2 hs h
    · refine z_sub (lv' := [(2, vi (b2i v2))]) [2] rfl ?_
      exact hX_8_91 v2 μ_2 hs h
theorem i_OrdR_product {l : Launch} {Γ : Gam} {g : Nat} {a1 : Int} {μ : Mem} {d : Nat} {rec : Nat → Int → Mem → (Bool → Mem → Prop) → Prop} {k : Bool → Mem → Prop} (H : H_O l Γ g rec d) (hs : StatR μ.2.2) (h : f_OrdR_product rec a1 μ k) : CT l Γ yX5_product cX5_product 5 (some .boolean) (10 * (d + 1) + 10) (60 * (d + 1) + 300) 0 0 [vr Γ 63, vi a1] g 175 μ (pB k) := by
  refine SW.ct (by decide) (Nat.le_of_ble_eq_true rfl) ?_
  refine z_sub (lv' := [(0, vr Γ 63), (1, vi a1)]) [0, 1] rfl ?_
  show SW l Γ yX5_product.cls cX5_product (Y_OrdR_product d) (pB k) g 175 0 0 μ 0 [(0, vr Γ 63), (1, vi a1)] []
  unfold f_OrdR_product at h
  refine z_rload_n dX5_product_0 rfl 0 rfl ?_
  refine z_iload_n dX5_product_1 rfl 1 rfl ?_
  refine z_VB ((H _ _ _ hs).2.2.2.2.2.2 h) vk_X5_factor kt_63 (Nat.le_of_ble_eq_true rfl) rfl ml_X5_145 (rm_OR (by decide)) ⟨Nat.zero_le _, Nat.zero_le _⟩ rfl rfl (Nat.le_of_ble_eq_true rfl) dX5_product_2 (fun r2 μ_1 hs h => ?_)
  refine z_istore_n (lv' := [(2, vi (b2i r2)), (0, vr Γ 63), (1, vi a1)]) dX5_product_5 rfl (Nat.le_of_ble_eq_true rfl) rfl ?_
  refine z_iconst dX5_product_6 ?_
  refine z_istore_n (lv' := [(3, vi 0), (2, vi (b2i r2)), (0, vr Γ 63), (1, vi a1)]) dX5_product_7 rfl (Nat.le_of_ble_eq_true rfl) rfl ?_
  obtain ⟨m8, h⟩ := h
  refine z_sub (lv' := [(0, vr Γ 63), (1, vi a1), (2, vi (b2i r2)), (3, vi 0)]) [2, 3, 1, 0] rfl ?_
  refine L_OrdR_product_8 H (fun v2_1 μ_7 hs h => ?_) m8 r2 0 μ_1 hs h
  refine z_iload_n dX5_product_91 rfl 0 rfl ?_
  exact z_zret (b := v2_1) rfl dX5_product_92 rfl rfl rfl ⟨_, rfl, hs, h⟩
abbrev Y_OrdR_factor (d : Nat) : Yt := (2, (some .boolean), yX5_factor.name, { frames := 10 * (d + 1) + 10, cells := 0, slots := 0, locals := 60 * (d + 1) + 300 }, 175, 0, 0)
def f_OrdR_factor (rec : Nat → Int → Mem → (Bool → Mem → Prop) → Prop) (a1 : Int) (μ : Mem) (k : Bool → Mem → Prop) : Prop := if (v_Tape_isNumber μ) = true then (∃ r11 : Nat, rR μ 9065 0 = some r11 ∧ isRu r11 = true ∧ f_Rules_addStep r11 0 (rI μ 2285 0) μ (fun μ_1 => f_Tape_next  μ_1 (fun μ_2 => k true μ_2))) else (if (v_Tape_isAnyWord μ) = true then (f_OrdR_name  μ (fun r45 μ_3 => k r45 μ_3)) else (if (v_Tape_isSign 40 μ) = true then (if w a1 < w 4 then (f_Tape_next  μ (fun μ_4 => rec 4 (a1 + 1) μ_4 (fun r95 μ_5 => if r95 = true then (f_Tape_skipSign 41 μ_5 (fun r107 μ_6 => ∀ x118 : Bool, x118 = (if r107 = true then true else false) → k x118 μ_6)) else (k false μ_5)))) else (f_Tape_fail 4 μ (fun r80 μ_7 => k r80 μ_7))) else (f_Tape_fail 1 μ (fun r66 μ_8 => k r66 μ_8))))
theorem i_OrdR_factor {l : Launch} {Γ : Gam} {g : Nat} {a1 : Int} {μ : Mem} {d : Nat} {rec : Nat → Int → Mem → (Bool → Mem → Prop) → Prop} {k : Bool → Mem → Prop} (H : H_O l Γ g rec d) (hs : StatR μ.2.2) (h : f_OrdR_factor rec a1 μ k) : CT l Γ yX5_factor cX5_factor 2 (some .boolean) (10 * (d + 1) + 10) (60 * (d + 1) + 300) 0 0 [vr Γ 63, vi a1] g 175 μ (pB k) := by
  refine SW.ct (by decide) (Nat.le_of_ble_eq_true rfl) ?_
  refine z_sub (lv' := [(0, vr Γ 63), (1, vi a1)]) [0, 1] rfl ?_
  show SW l Γ yX5_factor.cls cX5_factor (Y_OrdR_factor d) (pB k) g 175 0 0 μ 0 [(0, vr Γ 63), (1, vi a1)] []
  unfold f_OrdR_factor at h
  refine z_rload_n dX5_factor_0 rfl 0 rfl ?_
  refine z_getR (q := 9064) ff_5_0 dX5_factor_1 kt_63 (Nat.le_of_ble_eq_true rfl) fl_X5_9 rfl (hs.1 _ _ sr_9064) ?_
  refine z_VE (i_Tape_isNumber ) vk_X9_isNumber kt_10 (Nat.le_of_ble_eq_true rfl) rfl ml_X5_148 (rm_O (by decide)) ⟨Nat.zero_le _, Nat.zero_le _⟩ rfl rfl (Nat.le_of_ble_eq_true rfl) dX5_factor_4 ?_
  refine z_ifeq_b (tgt := 34) dX5_factor_7 (by decide) h (fun h => ?_) (fun h => ?_)
  · refine z_rload_n dX5_factor_10 rfl 0 rfl ?_
    obtain ⟨r11, h9, hr_r11, h⟩ := h
    refine z_getR (q := 9065) ff_5_1 dX5_factor_11 kt_63 (Nat.le_of_ble_eq_true rfl) fl_X5_15 rfl h9 ?_
    refine z_iconst dX5_factor_14 ?_
    refine z_rload_n dX5_factor_15 rfl 0 rfl ?_
    refine z_getR (q := 9064) ff_5_0 dX5_factor_16 kt_63 (Nat.le_of_ble_eq_true rfl) fl_X5_9 rfl (hs.1 _ _ sr_9064) ?_
    refine z_getI (q := 2285) ff_9_5 dX5_factor_19 kt_10 (Nat.le_of_ble_eq_true rfl) fl_X5_151 rfl ?_
    refine z_VU (i_Rules_addStep hr_r11 hs h) vk_X8_addStep (ru_k hr_r11) (ru_l hr_r11) rfl ml_X5_119 (rm_O (by decide)) ⟨Nat.zero_le _, Nat.zero_le _⟩ rfl rfl (Nat.le_of_ble_eq_true rfl) dX5_factor_22 (fun μ_1 hs h => ?_)
    refine z_rload_n dX5_factor_25 rfl 0 rfl ?_
    refine z_getR (q := 9064) ff_5_0 dX5_factor_26 kt_63 (Nat.le_of_ble_eq_true rfl) fl_X5_9 rfl (hs.1 _ _ sr_9064) ?_
    refine z_VU (i_Tape_next  hs h) vk_X9_next kt_10 (Nat.le_of_ble_eq_true rfl) rfl ml_X5_44 (rm_O (by decide)) ⟨Nat.zero_le _, Nat.zero_le _⟩ rfl rfl (Nat.le_of_ble_eq_true rfl) dX5_factor_29 (fun μ_2 hs h => ?_)
    refine z_iconst dX5_factor_32 ?_
    exact z_zret (b := true) rfl dX5_factor_33 rfl rfl rfl ⟨_, rfl, hs, h⟩
  · refine z_rload_n dX5_factor_34 rfl 0 rfl ?_
    refine z_getR (q := 9064) ff_5_0 dX5_factor_35 kt_63 (Nat.le_of_ble_eq_true rfl) fl_X5_9 rfl (hs.1 _ _ sr_9064) ?_
    refine z_VE (i_Tape_isAnyWord ) vk_X9_isAnyWord kt_10 (Nat.le_of_ble_eq_true rfl) rfl ml_X5_154 (rm_O (by decide)) ⟨Nat.zero_le _, Nat.zero_le _⟩ rfl rfl (Nat.le_of_ble_eq_true rfl) dX5_factor_38 ?_
    refine z_ifeq_b (tgt := 49) dX5_factor_41 (by decide) h (fun h => ?_) (fun h => ?_)
    · refine z_rload_n dX5_factor_44 rfl 0 rfl ?_
      refine z_VB (i_OrdR_name  hs h) vk_X5_name kt_63 (Nat.le_of_ble_eq_true rfl) rfl ml_X5_157 (rm_O (by decide)) ⟨Nat.zero_le _, Nat.zero_le _⟩ rfl rfl (Nat.le_of_ble_eq_true rfl) dX5_factor_45 (fun r45 μ_3 hs h => ?_)
      exact z_zret (b := r45) rfl dX5_factor_48 rfl rfl rfl ⟨_, rfl, hs, h⟩
    · refine z_rload_n dX5_factor_49 rfl 0 rfl ?_
      refine z_getR (q := 9064) ff_5_0 dX5_factor_50 kt_63 (Nat.le_of_ble_eq_true rfl) fl_X5_9 rfl (hs.1 _ _ sr_9064) ?_
      refine z_bipush dX5_factor_53 (by decide) ?_
      refine z_VE (i_Tape_isSign ) vk_X9_isSign kt_10 (Nat.le_of_ble_eq_true rfl) rfl ml_X5_131 (rm_O (by decide)) ⟨Nat.zero_le _, Nat.zero_le _⟩ rfl rfl (Nat.le_of_ble_eq_true rfl) dX5_factor_55 ?_
      refine z_ifne_b (tgt := 70) dX5_factor_58 (by decide) h (fun h => ?_) (fun h => ?_)
      · refine z_iload_n dX5_factor_70 rfl 1 rfl ?_
        refine z_iconst dX5_factor_71 ?_
        refine z_icmp_lt (tgt := 84) dX5_factor_72 (by decide) h (fun h => ?_) (fun h => ?_)
        · refine z_rload_n dX5_factor_84 rfl 0 rfl ?_
          refine z_getR (q := 9064) ff_5_0 dX5_factor_85 kt_63 (Nat.le_of_ble_eq_true rfl) fl_X5_9 rfl (hs.1 _ _ sr_9064) ?_
          refine z_VU (i_Tape_next  hs h) vk_X9_next kt_10 (Nat.le_of_ble_eq_true rfl) rfl ml_X5_44 (rm_O (by decide)) ⟨Nat.zero_le _, Nat.zero_le _⟩ rfl rfl (Nat.le_of_ble_eq_true rfl) dX5_factor_88 (fun μ_4 hs h => ?_)
          refine z_rload_n dX5_factor_91 rfl 0 rfl ?_
          refine z_iload_n dX5_factor_92 rfl 1 rfl ?_
          refine z_iconst dX5_factor_93 ?_
          refine z_iadd dX5_factor_94 ?_
          refine z_VB ((H _ _ _ hs).2.2.2.2.1 h) vk_X5_sum kt_63 (Nat.le_of_ble_eq_true rfl) rfl ml_X5_64 (rm_OR (by decide)) ⟨Nat.zero_le _, Nat.zero_le _⟩ rfl rfl (Nat.le_of_ble_eq_true rfl) dX5_factor_95 (fun r95 μ_5 hs h => ?_)
          refine z_ifeq_b (tgt := 117) dX5_factor_98 (by decide) h (fun h => ?_) (fun h => ?_)
          · refine z_rload_n dX5_factor_101 rfl 0 rfl ?_
            refine z_getR (q := 9064) ff_5_0 dX5_factor_102 kt_63 (Nat.le_of_ble_eq_true rfl) fl_X5_9 rfl (hs.1 _ _ sr_9064) ?_
            refine z_bipush dX5_factor_105 (by decide) ?_
            refine z_VB (i_Tape_skipSign  hs h) vk_X9_skipSign kt_10 (Nat.le_of_ble_eq_true rfl) rfl ml_X5_81 (rm_O (by decide)) ⟨Nat.zero_le _, Nat.zero_le _⟩ rfl rfl (Nat.le_of_ble_eq_true rfl) dX5_factor_107 (fun r107 μ_6 hs h => ?_)
            refine z_phiB 118 [] (fun V9 hv J9 => ?_) h (fun x118 h => ?_)
            · refine z_ifeq_b (tgt := 117) dX5_factor_110 (by decide) (eq_ite hv) (fun hv => ?_) (fun hv => ?_)
              · refine z_iconst dX5_factor_113 ?_
                refine z_goto (tgt := 118) dX5_factor_114 (by decide) ?_
                exact J9 true hv.symm
              · refine z_iconst dX5_factor_117 ?_
                exact J9 false hv.symm
            · exact z_zret (b := x118) rfl dX5_factor_118 rfl rfl rfl ⟨_, rfl, hs, h⟩
          · refine z_iconst dX5_factor_117 ?_
            exact z_zret (b := false) rfl dX5_factor_118 rfl rfl rfl ⟨_, rfl, hs, h⟩
        · refine z_rload_n dX5_factor_75 rfl 0 rfl ?_
          refine z_getR (q := 9064) ff_5_0 dX5_factor_76 kt_63 (Nat.le_of_ble_eq_true rfl) fl_X5_9 rfl (hs.1 _ _ sr_9064) ?_
          refine z_iconst dX5_factor_79 ?_
          refine z_VB (i_Tape_fail  hs h) vk_X9_fail kt_10 (Nat.le_of_ble_eq_true rfl) rfl ml_X5_41 (rm_O (by decide)) ⟨Nat.zero_le _, Nat.zero_le _⟩ rfl rfl (Nat.le_of_ble_eq_true rfl) dX5_factor_80 (fun r80 μ_7 hs h => ?_)
          exact z_zret (b := r80) rfl dX5_factor_83 rfl rfl rfl ⟨_, rfl, hs, h⟩
      · refine z_rload_n dX5_factor_61 rfl 0 rfl ?_
        refine z_getR (q := 9064) ff_5_0 dX5_factor_62 kt_63 (Nat.le_of_ble_eq_true rfl) fl_X5_9 rfl (hs.1 _ _ sr_9064) ?_
        refine z_iconst dX5_factor_65 ?_
        refine z_VB (i_Tape_fail  hs h) vk_X9_fail kt_10 (Nat.le_of_ble_eq_true rfl) rfl ml_X5_41 (rm_O (by decide)) ⟨Nat.zero_le _, Nat.zero_le _⟩ rfl rfl (Nat.le_of_ble_eq_true rfl) dX5_factor_66 (fun r66 μ_8 hs h => ?_)
        exact z_zret (b := r66) rfl dX5_factor_69 rfl rfl rfl ⟨_, rfl, hs, h⟩
def R_O : Nat → Nat → Int → Mem → (Bool → Mem → Prop) → Prop
  | 0 => fun _ _ _ _ => False
  | d + 1 => fun t x μ k => match t with
    | 0 => f_OrdR_either (R_O d) x μ k
    | 1 => f_OrdR_both (R_O d) x μ k
    | 2 => f_OrdR_piece (R_O d) x μ k
    | 3 => f_OrdR_square (R_O d) x μ k
    | 4 => f_OrdR_sum (R_O d) x μ k
    | 5 => f_OrdR_product (R_O d) x μ k
    | _ => f_OrdR_factor (R_O d) x μ k
theorem ok_O {l : Launch} {Γ : Gam} {g : Nat} : ∀ d : Nat, H_O l Γ g (R_O d) d
  | 0 => fun _ _ _ _ => ⟨fun h => h.elim, fun h => h.elim, fun h => h.elim, fun h => h.elim, fun h => h.elim, fun h => h.elim, fun h => h.elim⟩
  | d + 1 => fun x μ k hs => ⟨fun h => i_OrdR_either (ok_O d) hs h, fun h => i_OrdR_both (ok_O d) hs h, fun h => i_OrdR_piece (ok_O d) hs h, fun h => i_OrdR_square (ok_O d) hs h, fun h => i_OrdR_sum (ok_O d) hs h, fun h => i_OrdR_product (ok_O d) hs h, fun h => i_OrdR_factor (ok_O d) hs h⟩
abbrev Y_Rules_endPart : Yt := (2, none, yX8_endPart.name, { frames := 1, cells := 0, slots := 0, locals := 22 }, 175, 0, 0)
def f_Rules_endPart (r0 : Nat) (a1 : Int) (μ : Mem) (k : Mem → Prop) : Prop := ∀ μ_1 : Mem, μ_1 = set' μ (r0 + 3) 5 a1 (rI μ (gid r0 3) 0) → k μ_1
theorem i_Rules_endPart {l : Launch} {Γ : Gam} {g : Nat} {r0 : Nat} {a1 : Int} {μ : Mem} {k : Mem → Prop} (hr_r0 : isRu r0 = true) (hs : StatR μ.2.2) (h : f_Rules_endPart r0 a1 μ k) : CT l Γ yX8_endPart cX8_endPart 2 none 1 22 0 0 [vr Γ r0, vi a1] g 175 μ (pV k) := by
  refine SW.ct (by decide) (Nat.le_of_ble_eq_true rfl) ?_
  refine z_sub (lv' := [(0, vr Γ r0), (1, vi a1)]) [0, 1] rfl ?_
  show SW l Γ yX8_endPart.cls cX8_endPart Y_Rules_endPart (pV k) g 175 0 0 μ 0 [(0, vr Γ r0), (1, vi a1)] []
  unfold f_Rules_endPart at h
  refine z_rload_n dX8_endPart_0 rfl 0 rfl ?_
  refine z_getR ff_8_2 dX8_endPart_1 (ru_k hr_r0) (ru_l hr_r0) fl_X8_18 rfl (ru_s3 hs hr_r0) ?_
  refine z_iload_n dX8_endPart_4 rfl 1 rfl ?_
  refine z_rload_n dX8_endPart_5 rfl 0 rfl ?_
  refine z_getI (q := (gid r0 3)) ff_8_3 dX8_endPart_6 (ru_k hr_r0) (ru_l hr_r0) fl_X8_28 rfl ?_
  refine z_NM (i_X11_set (ru_k3 hr_r0) (ru_l3 hr_r0)) ok_X11_set nw_X8_39 ⟨Nat.le_of_ble_eq_true rfl, Nat.le_of_ble_eq_true rfl⟩ ⟨Nat.zero_le _, Nat.zero_le _⟩ rfl rfl (Nat.le_of_ble_eq_true rfl) dX8_endPart_9 ?_
  refine z_mm (fun μ_1 eμ_1 => ?_)
  replace h := h μ_1 eμ_1
  replace hs : StatR μ_1.2.2 := by rw [eμ_1]; exact (StatR.set hs)
  exact z_vret rfl dX8_endPart_12 rfl rfl rfl ⟨rfl, hs, h⟩
abbrev Y_Tape_takeN : Yt := (5, (some .int), yX9_takeN.name, { frames := 2, cells := 0, slots := 0, locals := 41 }, 175, 0, 0)
def f_Tape_takeN (a1 : Int) (a2 : Int64) (μ : Mem) (k : Int → Mem → Prop) : Prop := if w (rI μ 2282 0) = w 2 then (if w (rI μ 2285 0) < w 1 then (f_Tape_fail 2 μ (fun r56 μ_1 => k 0 μ_1)) else (if w a1 < w (rI μ 2285 0) then (f_Tape_fail 2 μ (fun r56_1 μ_2 => k 0 μ_2)) else (if w 60 < w (rI μ 2285 0) then (∀ v4 : Int, v4 = rI μ 2285 0 → f_Tape_next  μ (fun μ_3 => k v4 μ_3)) else (if ((w_lushr a2 (rI μ 2285 0)) &&& 1) = 0 then (∀ v4_1 : Int, v4_1 = rI μ 2285 0 → f_Tape_next  μ (fun μ_4 => k v4_1 μ_4)) else (f_Tape_fail 2 μ (fun r56_2 μ_5 => k 0 μ_5)))))) else (f_Tape_fail 1 μ (fun r10 μ_6 => k 0 μ_6))
theorem i_Tape_takeN {l : Launch} {Γ : Gam} {g : Nat} {a1 : Int} {a2 : Int64} {μ : Mem} {k : Int → Mem → Prop} (hs : StatR μ.2.2) (h : f_Tape_takeN a1 a2 μ k) : CT l Γ yX9_takeN cX9_takeN 5 (some .int) 2 41 0 0 [vr Γ 10, vi a1, vl a2] g 175 μ (pI k) := by
  refine SW.ct (by decide) (Nat.le_of_ble_eq_true rfl) ?_
  refine z_sub (lv' := [(0, vr Γ 10), (1, vi a1), (2, vl a2)]) [0, 1, 2] rfl ?_
  show SW l Γ yX9_takeN.cls cX9_takeN Y_Tape_takeN (pI k) g 175 0 0 μ 0 [(0, vr Γ 10), (1, vi a1), (2, vl a2)] []
  unfold f_Tape_takeN at h
  refine z_rload_n dX9_takeN_0 rfl 0 rfl ?_
  refine z_getI (q := 2282) ff_9_2 dX9_takeN_1 kt_10 (Nat.le_of_ble_eq_true rfl) fl_X9_46 rfl ?_
  refine z_iconst dX9_takeN_4 ?_
  refine z_icmp_eq (tgt := 16) dX9_takeN_5 (by decide) h (fun h => ?_) (fun h => ?_)
  · refine z_rload_n dX9_takeN_16 rfl 0 rfl ?_
    refine z_getI (q := 2285) ff_9_5 dX9_takeN_17 kt_10 (Nat.le_of_ble_eq_true rfl) fl_X9_49 rfl ?_
    refine z_iconst dX9_takeN_20 ?_
    refine z_icmp_lt (tgt := 54) dX9_takeN_21 (by decide) h (fun h => ?_) (fun h => ?_)
    · refine z_rload_n dX9_takeN_54 rfl 0 rfl ?_
      refine z_iconst dX9_takeN_55 ?_
      refine z_VB (i_Tape_fail  hs h) vk_X9_fail kt_10 (Nat.le_of_ble_eq_true rfl) rfl ml_X9_72 ⟨Nat.le_of_ble_eq_true rfl, Nat.le_of_ble_eq_true rfl⟩ ⟨Nat.zero_le _, Nat.zero_le _⟩ rfl rfl (Nat.le_of_ble_eq_true rfl) dX9_takeN_56 (fun r56 μ_1 hs h => ?_)
      refine z_pop dX9_takeN_59 rfl ?_
      refine z_iconst dX9_takeN_60 ?_
      exact z_iret rfl dX9_takeN_61 rfl rfl rfl ⟨_, rfl, hs, h⟩
    · refine z_rload_n dX9_takeN_24 rfl 0 rfl ?_
      refine z_getI (q := 2285) ff_9_5 dX9_takeN_25 kt_10 (Nat.le_of_ble_eq_true rfl) fl_X9_49 rfl ?_
      refine z_iload_n dX9_takeN_28 rfl 1 rfl ?_
      refine z_icmp_gt (tgt := 54) dX9_takeN_29 (by decide) h (fun h => ?_) (fun h => ?_)
      · refine z_rload_n dX9_takeN_54 rfl 0 rfl ?_
        refine z_iconst dX9_takeN_55 ?_
        refine z_VB (i_Tape_fail  hs h) vk_X9_fail kt_10 (Nat.le_of_ble_eq_true rfl) rfl ml_X9_72 ⟨Nat.le_of_ble_eq_true rfl, Nat.le_of_ble_eq_true rfl⟩ ⟨Nat.zero_le _, Nat.zero_le _⟩ rfl rfl (Nat.le_of_ble_eq_true rfl) dX9_takeN_56 (fun r56_1 μ_2 hs h => ?_)
        refine z_pop dX9_takeN_59 rfl ?_
        refine z_iconst dX9_takeN_60 ?_
        exact z_iret rfl dX9_takeN_61 rfl rfl rfl ⟨_, rfl, hs, h⟩
      · refine z_rload_n dX9_takeN_32 rfl 0 rfl ?_
        refine z_getI (q := 2285) ff_9_5 dX9_takeN_33 kt_10 (Nat.le_of_ble_eq_true rfl) fl_X9_49 rfl ?_
        refine z_bipush dX9_takeN_36 (by decide) ?_
        refine z_icmp_gt (tgt := 62) dX9_takeN_38 (by decide) h (fun h => ?_) (fun h => ?_)
        · refine z_rload_n dX9_takeN_62 rfl 0 rfl ?_
          refine z_getI (q := 2285) ff_9_5 dX9_takeN_63 kt_10 (Nat.le_of_ble_eq_true rfl) fl_X9_49 rfl ?_
          refine z_nm (fun v4 ev4 => ?_)
          replace h := h v4 ev4
          refine z_istore (lv' := [(4, vi v4), (0, vr Γ 10), (1, vi a1), (2, vl a2)]) dX9_takeN_66 (Nat.le_of_ble_eq_true rfl) rfl ?_
          refine z_rload_n dX9_takeN_68 rfl 1 rfl ?_
          refine z_VU (i_Tape_next  hs h) vk_X9_next kt_10 (Nat.le_of_ble_eq_true rfl) rfl ml_X9_32 ⟨Nat.le_of_ble_eq_true rfl, Nat.le_of_ble_eq_true rfl⟩ ⟨Nat.zero_le _, Nat.zero_le _⟩ rfl rfl (Nat.le_of_ble_eq_true rfl) dX9_takeN_69 (fun μ_3 hs h => ?_)
          refine z_iload dX9_takeN_72 0 rfl ?_
          exact z_iret rfl dX9_takeN_74 rfl rfl rfl ⟨_, rfl, hs, h⟩
        · refine z_lload_n dX9_takeN_41 rfl 2 rfl ?_
          refine z_rload_n dX9_takeN_42 rfl 0 rfl ?_
          refine z_getI (q := 2285) ff_9_5 dX9_takeN_43 kt_10 (Nat.le_of_ble_eq_true rfl) fl_X9_49 rfl ?_
          refine z_lushr dX9_takeN_46 ?_
          refine z_lconst (v := 1) dX9_takeN_47 rfl ?_
          refine z_land dX9_takeN_48 ?_
          refine z_lconst (v := 0) dX9_takeN_49 rfl ?_
          refine z_lcmp_eq (tgt := 62) dX9_takeN_50 dX9_takeN_51 (by decide) h (fun h => ?_) (fun h => ?_)
          · refine z_rload_n dX9_takeN_62 rfl 0 rfl ?_
            refine z_getI (q := 2285) ff_9_5 dX9_takeN_63 kt_10 (Nat.le_of_ble_eq_true rfl) fl_X9_49 rfl ?_
            refine z_nm (fun v4_1 ev4_1 => ?_)
            replace h := h v4_1 ev4_1
            refine z_istore (lv' := [(4, vi v4_1), (0, vr Γ 10), (1, vi a1), (2, vl a2)]) dX9_takeN_66 (Nat.le_of_ble_eq_true rfl) rfl ?_
            refine z_rload_n dX9_takeN_68 rfl 1 rfl ?_
            refine z_VU (i_Tape_next  hs h) vk_X9_next kt_10 (Nat.le_of_ble_eq_true rfl) rfl ml_X9_32 ⟨Nat.le_of_ble_eq_true rfl, Nat.le_of_ble_eq_true rfl⟩ ⟨Nat.zero_le _, Nat.zero_le _⟩ rfl rfl (Nat.le_of_ble_eq_true rfl) dX9_takeN_69 (fun μ_4 hs h => ?_)
            refine z_iload dX9_takeN_72 0 rfl ?_
            exact z_iret rfl dX9_takeN_74 rfl rfl rfl ⟨_, rfl, hs, h⟩
          · refine z_rload_n dX9_takeN_54 rfl 0 rfl ?_
            refine z_iconst dX9_takeN_55 ?_
            refine z_VB (i_Tape_fail  hs h) vk_X9_fail kt_10 (Nat.le_of_ble_eq_true rfl) rfl ml_X9_72 ⟨Nat.le_of_ble_eq_true rfl, Nat.le_of_ble_eq_true rfl⟩ ⟨Nat.zero_le _, Nat.zero_le _⟩ rfl rfl (Nat.le_of_ble_eq_true rfl) dX9_takeN_56 (fun r56_2 μ_5 hs h => ?_)
            refine z_pop dX9_takeN_59 rfl ?_
            refine z_iconst dX9_takeN_60 ?_
            exact z_iret rfl dX9_takeN_61 rfl rfl rfl ⟨_, rfl, hs, h⟩
  · refine z_rload_n dX9_takeN_8 rfl 0 rfl ?_
    refine z_iconst dX9_takeN_9 ?_
    refine z_VB (i_Tape_fail  hs h) vk_X9_fail kt_10 (Nat.le_of_ble_eq_true rfl) rfl ml_X9_72 ⟨Nat.le_of_ble_eq_true rfl, Nat.le_of_ble_eq_true rfl⟩ ⟨Nat.zero_le _, Nat.zero_le _⟩ rfl rfl (Nat.le_of_ble_eq_true rfl) dX9_takeN_10 (fun r10 μ_6 hs h => ?_)
    refine z_pop dX9_takeN_13 rfl ?_
    refine z_iconst dX9_takeN_14 ?_
    exact z_iret rfl dX9_takeN_15 rfl rfl rfl ⟨_, rfl, hs, h⟩
