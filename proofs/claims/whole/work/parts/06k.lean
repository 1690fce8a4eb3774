abbrev Y_Worths_findDeal : Yt := (3, (some .boolean), yX10_findDeal.name, { frames := 6, cells := 0, slots := 0, locals := 145 }, 174, 0, 0)
def l_Worths_findDeal_2 (X_2_24 : Mem → Prop) : Nat → Int → Mem → Prop
  | 0, _, _ => False
  | fu2 + 1, v1, μ_1 => if w v1 < w (rI μ_1 2543 0) then (f_Worths_findChanges v1 μ_1 (fun μ_2 => (l_Worths_findDeal_2 X_2_24 fu2) (v1 + 1) μ_2)) else (X_2_24 μ_1)
def l_Worths_findDeal_49 (v1_1 : Int) (X_49_72 : Mem → Prop) : Nat → Int → Mem → Prop
  | 0, _, _ => False
  | fu49 + 1, v2, μ_6 => if w v2 < w (rI μ_6 1136 0) then (f_Worths_findDealOf v1_1 v2 μ_6 (fun μ_7 => (l_Worths_findDeal_49 v1_1 X_49_72 fu49) (v2 + 1) μ_7)) else (X_49_72 μ_6)
def l_Worths_findDeal_34 (X_34_78 : Mem → Prop) : Nat → Int → Mem → Prop
  | 0, _, _ => False
  | fu34 + 1, v1_1, μ_5 => if w v1_1 < w (rI μ_5 1136 0) then (∃ m49 : Nat, l_Worths_findDeal_49 v1_1 (fun (μ_8 : Mem) => (l_Worths_findDeal_34 X_34_78 fu34) (v1_1 + 1) μ_8) m49 (v1_1 + 1) μ_5) else (X_34_78 μ_5)
def f_Worths_findDeal  (μ : Mem) (k : Bool → Mem → Prop) : Prop := ∃ m2 : Nat, l_Worths_findDeal_2 (fun (μ_3 : Mem) => f_H_fill 111 6 0 μ_3 (fun μ_4 => ∃ m34 : Nat, l_Worths_findDeal_34 (fun (μ_9 : Mem) => ∀ x94 : Bool, x94 = (if 0 < w (at' μ_9 111 6 4) then true else false) → k x94 μ_9) m34 0 μ_4)) m2 0 μ
theorem L_Worths_findDeal_2 {l : Launch} {Γ : Gam} {g : Nat} {X_2_24 : Mem → Prop} {k : Bool → Mem → Prop} (hX_2_24 : ∀ (ν : Mem), StatR ν.2.2 → X_2_24 ν → SW l Γ yX10_findDeal.cls cX10_findDeal Y_Worths_findDeal (pB k) g 174 0 0 ν 24 [(0, vr Γ 100)] []) (n9 : Nat) : ∀ (v1 : Int) (μ_1 : Mem), StatR μ_1.2.2 → l_Worths_findDeal_2 X_2_24 n9 v1 μ_1 → SW l Γ yX10_findDeal.cls cX10_findDeal Y_Worths_findDeal (pB k) g 174 0 0 μ_1 2 [(0, vr Γ 100), (1, vi v1)] [] := by
  induction n9 with
  | zero =>
    intro v1 μ_1 hs h
    exact h.elim
  | succ n9 hR_2 =>
    intro v1 μ_1 hs h
    rw [l_Worths_findDeal_2] at h
    refine z_iload_n dX10_findDeal_2 rfl 1 rfl ?_
    refine z_rload_n dX10_findDeal_3 rfl 0 rfl ?_
    refine z_getR (q := 13801) ff_10_1 dX10_findDeal_4 kt_100 (Nat.le_of_ble_eq_true rfl) fl_X10_50 rfl (hs.1 _ _ sr_13801) ?_
    refine z_getI (q := 2543) ff_6_7 dX10_findDeal_7 kt_12 (Nat.le_of_ble_eq_true rfl) fl_X10_165 rfl ?_
    refine z_icmp_ge (tgt := 24) dX10_findDeal_10 (by decide) h (fun h => ?_) (fun h => ?_)
    · refine z_rload_n dX10_findDeal_13 rfl 0 rfl ?_
      refine z_iload_n dX10_findDeal_14 rfl 1 rfl ?_
      refine z_VU (i_Worths_findChanges  hs h) vk_X10_findChanges kt_100 (Nat.le_of_ble_eq_true rfl) rfl ml_X10_167 ⟨Nat.le_of_ble_eq_true rfl, Nat.le_of_ble_eq_true rfl⟩ ⟨Nat.zero_le _, Nat.zero_le _⟩ rfl rfl (Nat.le_of_ble_eq_true rfl) dX10_findDeal_15 (fun μ_2 hs h => ?_)
      refine z_iinc (j := 1) (lv' := [(1, vi (v1 + 1)), (0, vr Γ 100)]) dX10_findDeal_18 rfl (Nat.le_of_ble_eq_true rfl) rfl ?_
      refine z_goto (tgt := 2) dX10_findDeal_21 (by decide) ?_
      refine z_sub (lv' := [(0, vr Γ 100), (1, vi (v1 + 1))]) [1, 0] rfl ?_
      exact hR_2 (v1 + 1) μ_2 hs h
    · refine z_sub (lv' := [(0, vr Γ 100)]) [0] rfl ?_
      exact hX_2_24 μ_1 hs h
theorem L_Worths_findDeal_49 {l : Launch} {Γ : Gam} {g : Nat} {v1_1 : Int} {X_49_72 : Mem → Prop} {k : Bool → Mem → Prop} (hX_49_72 : ∀ (ν : Mem), StatR ν.2.2 → X_49_72 ν → SW l Γ yX10_findDeal.cls cX10_findDeal Y_Worths_findDeal (pB k) g 174 0 0 ν 72 [(0, vr Γ 100), (1, vi v1_1)] []) (n9 : Nat) : ∀ (v2 : Int) (μ_6 : Mem), StatR μ_6.2.2 → l_Worths_findDeal_49 v1_1 X_49_72 n9 v2 μ_6 → SW l Γ yX10_findDeal.cls cX10_findDeal Y_Worths_findDeal (pB k) g 174 0 0 μ_6 49 [(0, vr Γ 100), (1, vi v1_1), (2, vi v2)] [] := by
  induction n9 with
  | zero =>
    intro v2 μ_6 hs h
    exact h.elim
  | succ n9 hR_49 =>
    intro v2 μ_6 hs h
    rw [l_Worths_findDeal_49] at h
    refine z_iload_n dX10_findDeal_49 rfl 2 rfl ?_
    refine z_rload_n dX10_findDeal_50 rfl 0 rfl ?_
    refine z_getR (q := 13800) ff_10_0 dX10_findDeal_51 kt_100 (Nat.le_of_ble_eq_true rfl) fl_X10_46 rfl (hs.1 _ _ sr_13800) ?_
    refine z_getI (q := 1136) ff_7_8 dX10_findDeal_54 kt_1 (Nat.le_of_ble_eq_true rfl) fl_X10_174 rfl ?_
    refine z_icmp_ge (tgt := 72) dX10_findDeal_57 (by decide) h (fun h => ?_) (fun h => ?_)
    · refine z_rload_n dX10_findDeal_60 rfl 0 rfl ?_
      refine z_iload_n dX10_findDeal_61 rfl 1 rfl ?_
      refine z_iload_n dX10_findDeal_62 rfl 2 rfl ?_
      refine z_VU (i_Worths_findDealOf  hs h) vk_X10_findDealOf kt_100 (Nat.le_of_ble_eq_true rfl) rfl ml_X10_177 ⟨Nat.le_of_ble_eq_true rfl, Nat.le_of_ble_eq_true rfl⟩ ⟨Nat.zero_le _, Nat.zero_le _⟩ rfl rfl (Nat.le_of_ble_eq_true rfl) dX10_findDeal_63 (fun μ_7 hs h => ?_)
      refine z_iinc (j := 2) (lv' := [(2, vi (v2 + 1)), (0, vr Γ 100), (1, vi v1_1)]) dX10_findDeal_66 rfl (Nat.le_of_ble_eq_true rfl) rfl ?_
      refine z_goto (tgt := 49) dX10_findDeal_69 (by decide) ?_
      refine z_sub (lv' := [(0, vr Γ 100), (1, vi v1_1), (2, vi (v2 + 1))]) [1, 2, 0] rfl ?_
      exact hR_49 (v2 + 1) μ_7 hs h
    · refine z_sub (lv' := [(0, vr Γ 100), (1, vi v1_1)]) [0, 1] rfl ?_
      exact hX_49_72 μ_6 hs h
theorem L_Worths_findDeal_34 {l : Launch} {Γ : Gam} {g : Nat} {X_34_78 : Mem → Prop} {k : Bool → Mem → Prop} (hX_34_78 : ∀ (ν : Mem), StatR ν.2.2 → X_34_78 ν → SW l Γ yX10_findDeal.cls cX10_findDeal Y_Worths_findDeal (pB k) g 174 0 0 ν 78 [(0, vr Γ 100)] []) (n9 : Nat) : ∀ (v1_1 : Int) (μ_5 : Mem), StatR μ_5.2.2 → l_Worths_findDeal_34 X_34_78 n9 v1_1 μ_5 → SW l Γ yX10_findDeal.cls cX10_findDeal Y_Worths_findDeal (pB k) g 174 0 0 μ_5 34 [(0, vr Γ 100), (1, vi v1_1)] [] := by
  induction n9 with
  | zero =>
    intro v1_1 μ_5 hs h
    exact h.elim
  | succ n9 hR_34 =>
    intro v1_1 μ_5 hs h
    rw [l_Worths_findDeal_34] at h
    refine z_iload_n dX10_findDeal_34 rfl 1 rfl ?_
    refine z_rload_n dX10_findDeal_35 rfl 0 rfl ?_
    refine z_getR (q := 13800) ff_10_0 dX10_findDeal_36 kt_100 (Nat.le_of_ble_eq_true rfl) fl_X10_46 rfl (hs.1 _ _ sr_13800) ?_
    refine z_getI (q := 1136) ff_7_8 dX10_findDeal_39 kt_1 (Nat.le_of_ble_eq_true rfl) fl_X10_174 rfl ?_
    refine z_icmp_ge (tgt := 78) dX10_findDeal_42 (by decide) h (fun h => ?_) (fun h => ?_)
    · refine z_iload_n dX10_findDeal_45 rfl 1 rfl ?_
      refine z_iconst dX10_findDeal_46 ?_
      refine z_iadd dX10_findDeal_47 ?_
      refine z_istore_n (lv' := [(2, vi (v1_1 + 1)), (0, vr Γ 100), (1, vi v1_1)]) dX10_findDeal_48 rfl (Nat.le_of_ble_eq_true rfl) rfl ?_
      obtain ⟨m49, h⟩ := h
      refine z_sub (lv' := [(0, vr Γ 100), (1, vi v1_1), (2, vi (v1_1 + 1))]) [1, 2, 0] rfl ?_
      refine L_Worths_findDeal_49 (fun μ_8 hs h => ?_) m49 (v1_1 + 1) μ_5 hs h
      refine z_iinc (j := 1) (lv' := [(1, vi (v1_1 + 1)), (0, vr Γ 100)]) dX10_findDeal_72 rfl (Nat.le_of_ble_eq_true rfl) rfl ?_
      refine z_goto (tgt := 34) dX10_findDeal_75 (by decide) ?_
      refine z_sub (lv' := [(0, vr Γ 100), (1, vi (v1_1 + 1))]) [1, 0] rfl ?_
      exact hR_34 (v1_1 + 1) μ_8 hs h
    · refine z_sub (lv' := [(0, vr Γ 100)]) [0] rfl ?_
      exact hX_34_78 μ_5 hs h
theorem i_Worths_findDeal {l : Launch} {Γ : Gam} {g : Nat} {μ : Mem} {k : Bool → Mem → Prop} (hs : StatR μ.2.2) (h : f_Worths_findDeal  μ k) : CT l Γ yX10_findDeal cX10_findDeal 3 (some .boolean) 6 145 0 0 [vr Γ 100] g 174 μ (pB k) := by
  refine SW.ct (by decide) (Nat.le_of_ble_eq_true rfl) ?_
  refine z_sub (lv' := [(0, vr Γ 100)]) [0] rfl ?_
  show SW l Γ yX10_findDeal.cls cX10_findDeal Y_Worths_findDeal (pB k) g 174 0 0 μ 0 [(0, vr Γ 100)] []
  unfold f_Worths_findDeal at h
  refine z_iconst dX10_findDeal_0 ?_
  refine z_istore_n (lv' := [(1, vi 0), (0, vr Γ 100)]) dX10_findDeal_1 rfl (Nat.le_of_ble_eq_true rfl) rfl ?_
  obtain ⟨m2, h⟩ := h
  refine z_sub (lv' := [(0, vr Γ 100), (1, vi 0)]) [1, 0] rfl ?_
  refine L_Worths_findDeal_2 (fun μ_3 hs h => ?_) m2 0 μ hs h
  refine z_rload_n dX10_findDeal_24 rfl 0 rfl ?_
  refine z_getR (q := 13815) ff_10_15 dX10_findDeal_25 kt_100 (Nat.le_of_ble_eq_true rfl) fl_X10_43 rfl (hs.1 _ _ sr_13815) ?_
  refine z_iconst dX10_findDeal_28 ?_
  refine z_NU (i_H_fill kt_111 (Nat.le_of_ble_eq_true rfl) hs h) sk_X11_fill nw_X10_170 ⟨Nat.le_of_ble_eq_true rfl, Nat.le_of_ble_eq_true rfl⟩ ⟨Nat.zero_le _, Nat.zero_le _⟩ rfl rfl (Nat.le_of_ble_eq_true rfl) dX10_findDeal_29 (fun μ_4 hs h => ?_)
  refine z_iconst dX10_findDeal_32 ?_
  refine z_istore_n (lv' := [(1, vi 0), (0, vr Γ 100)]) dX10_findDeal_33 rfl (Nat.le_of_ble_eq_true rfl) rfl ?_
  obtain ⟨m34, h⟩ := h
  refine z_sub (lv' := [(0, vr Γ 100), (1, vi 0)]) [1, 0] rfl ?_
  refine L_Worths_findDeal_34 (fun μ_9 hs h => ?_) m34 0 μ_4 hs h
  refine z_rload_n dX10_findDeal_78 rfl 0 rfl ?_
  refine z_getR (q := 13815) ff_10_15 dX10_findDeal_79 kt_100 (Nat.le_of_ble_eq_true rfl) fl_X10_43 rfl (hs.1 _ _ sr_13815) ?_
  refine z_iconst dX10_findDeal_82 ?_
  refine z_NE (i_X11_at kt_111 (Nat.le_of_ble_eq_true rfl)) ok_X11_at nw_X10_66 ⟨Nat.le_of_ble_eq_true rfl, Nat.le_of_ble_eq_true rfl⟩ ⟨Nat.zero_le _, Nat.zero_le _⟩ rfl rfl (Nat.le_of_ble_eq_true rfl) dX10_findDeal_83 ?_
  refine z_phiB 94 [] (fun V9 hv J9 => ?_) h (fun x94 h => ?_)
  · refine z_if_le (tgt := 93) dX10_findDeal_86 (by decide) (eq_ite hv) (fun hv => ?_) (fun hv => ?_)
    · refine z_iconst dX10_findDeal_89 ?_
      refine z_goto (tgt := 94) dX10_findDeal_90 (by decide) ?_
      exact J9 true hv.symm
    · refine z_iconst dX10_findDeal_93 ?_
      exact J9 false hv.symm
  · exact z_zret (b := x94) rfl dX10_findDeal_94 rfl rfl rfl ⟨_, rfl, hs, h⟩
abbrev Y_H_deal : Yt := (2, (some .int), yX11_deal.name, { frames := 7, cells := 0, slots := 0, locals := 167 }, 174, 0, 0)
def f_H_deal (a1 : Int) (μ : Mem) (k : Int → Mem → Prop) : Prop := if w a1 < 0 then (k (-1) μ) else (if w a1 < w 6 then (f_Worths_findDeal  μ (fun r14 μ_1 => if r14 = true then (k (v_Worths_dealField a1 μ_1) μ_1) else (k (-1) μ_1))) else (k (-1) μ))
theorem i_H_deal {l : Launch} {Γ : Gam} {g : Nat} {a1 : Int} {μ : Mem} {k : Int → Mem → Prop} (hs : StatR μ.2.2) (h : f_H_deal a1 μ k) : CT l Γ yX11_deal cX11_deal 2 (some .int) 7 167 0 0 [vr Γ 0, vi a1] g 174 μ (pI k) := by
  refine SW.ct (by decide) (Nat.le_of_ble_eq_true rfl) ?_
  refine z_sub (lv' := [(0, vr Γ 0), (1, vi a1)]) [0, 1] rfl ?_
  show SW l Γ yX11_deal.cls cX11_deal Y_H_deal (pI k) g 174 0 0 μ 0 [(0, vr Γ 0), (1, vi a1)] []
  unfold f_H_deal at h
  refine z_iload_n dX11_deal_0 rfl 1 rfl ?_
  refine z_if_lt (tgt := 20) dX11_deal_1 (by decide) h (fun h => ?_) (fun h => ?_)
  · refine z_iconst dX11_deal_20 ?_
    exact z_iret rfl dX11_deal_21 rfl rfl rfl ⟨_, rfl, hs, h⟩
  · refine z_iload_n dX11_deal_4 rfl 1 rfl ?_
    refine z_bipush dX11_deal_5 (by decide) ?_
    refine z_icmp_ge (tgt := 20) dX11_deal_7 (by decide) h (fun h => ?_) (fun h => ?_)
    · refine z_rload_n dX11_deal_10 rfl 0 rfl ?_
      refine z_getR (q := 1009) ff_11_9 dX11_deal_11 kt_0 (Nat.le_of_ble_eq_true rfl) fl_X11_91 rfl (hs.1 _ _ sr_1009) ?_
      refine z_VB (i_Worths_findDeal  hs h) vk_X10_findDeal kt_100 (Nat.le_of_ble_eq_true rfl) rfl ml_X11_350 ⟨Nat.le_of_ble_eq_true rfl, Nat.le_of_ble_eq_true rfl⟩ ⟨Nat.zero_le _, Nat.zero_le _⟩ rfl rfl (Nat.le_of_ble_eq_true rfl) dX11_deal_14 (fun r14 μ_1 hs h => ?_)
      refine z_ifne_b (tgt := 22) dX11_deal_17 (by decide) h (fun h => ?_) (fun h => ?_)
      · refine z_rload_n dX11_deal_22 rfl 0 rfl ?_
        refine z_getR (q := 1009) ff_11_9 dX11_deal_23 kt_0 (Nat.le_of_ble_eq_true rfl) fl_X11_91 rfl (hs.1 _ _ sr_1009) ?_
        refine z_iload_n dX11_deal_26 rfl 1 rfl ?_
        refine z_VE (i_Worths_dealField hs) vk_X10_dealField kt_100 (Nat.le_of_ble_eq_true rfl) rfl ml_X11_353 ⟨Nat.le_of_ble_eq_true rfl, Nat.le_of_ble_eq_true rfl⟩ ⟨Nat.zero_le _, Nat.zero_le _⟩ rfl rfl (Nat.le_of_ble_eq_true rfl) dX11_deal_27 ?_
        exact z_iret rfl dX11_deal_30 rfl rfl rfl ⟨_, rfl, hs, h⟩
      · refine z_iconst dX11_deal_20 ?_
        exact z_iret rfl dX11_deal_21 rfl rfl rfl ⟨_, rfl, hs, h⟩
    · refine z_iconst dX11_deal_20 ?_
      exact z_iret rfl dX11_deal_21 rfl rfl rfl ⟨_, rfl, hs, h⟩
abbrev Y_Floor_openMotions : Yt := (3, (some .int), yX3_openMotions.name, { frames := 2, cells := 0, slots := 0, locals := 42 }, 174, 0, 0)
def l_Floor_openMotions_4 (μ : Mem) (X_4_37 : Int → Prop) : Nat → Int → Int → Prop
  | 0, _, _ => False
  | fu4 + 1, v1, v2 => if w v2 < w (rI μ 2543 0) then (∀ x29 : Int, x29 = (if w (v_Floor_stateOf v2 μ) = 0 then 1 else 0) → ∀ v1_1 : Int, v1_1 = v1 + x29 → (l_Floor_openMotions_4 μ X_4_37 fu4) v1_1 (v2 + 1)) else (X_4_37 v1)
def f_Floor_openMotions  (μ : Mem) (k : Int → Mem → Prop) : Prop := ∃ m4 : Nat, l_Floor_openMotions_4 μ (fun (v1_2 : Int) => k v1_2 μ) m4 0 0
theorem L_Floor_openMotions_4 {l : Launch} {Γ : Gam} {g : Nat} {μ : Mem} {X_4_37 : Int → Prop} {k : Int → Mem → Prop} (hs : StatR μ.2.2) (hX_4_37 : ∀ (u1 : Int), X_4_37 u1 → SW l Γ yX3_openMotions.cls cX3_openMotions Y_Floor_openMotions (pI k) g 174 0 0 μ 37 [(1, vi u1)] []) (n9 : Nat) : ∀ (v1 : Int) (v2 : Int), l_Floor_openMotions_4 μ X_4_37 n9 v1 v2 → SW l Γ yX3_openMotions.cls cX3_openMotions Y_Floor_openMotions (pI k) g 174 0 0 μ 4 [(0, vr Γ 67), (1, vi v1), (2, vi v2)] [] := by
  induction n9 with
  | zero =>
    intro v1 v2 h
    exact h.elim
  | succ n9 hR_4 =>
    intro v1 v2 h
    rw [l_Floor_openMotions_4] at h
    refine z_iload_n dX3_openMotions_4 rfl 2 rfl ?_
    refine z_rload_n dX3_openMotions_5 rfl 0 rfl ?_
    refine z_getR (q := 9576) ff_3_0 dX3_openMotions_6 kt_67 (Nat.le_of_ble_eq_true rfl) fl_X3_31 rfl (hs.1 _ _ sr_9576) ?_
    refine z_getI (q := 2543) ff_6_7 dX3_openMotions_9 kt_12 (Nat.le_of_ble_eq_true rfl) fl_X3_66 rfl ?_
    refine z_icmp_ge (tgt := 37) dX3_openMotions_12 (by decide) h (fun h => ?_) (fun h => ?_)
    · refine z_iload_n dX3_openMotions_15 rfl 1 rfl ?_
      refine z_rload_n dX3_openMotions_16 rfl 0 rfl ?_
      refine z_iload_n dX3_openMotions_17 rfl 2 rfl ?_
      refine z_VE (i_Floor_stateOf hs) vk_X3_stateOf kt_67 (Nat.le_of_ble_eq_true rfl) rfl ml_X3_50 ⟨Nat.le_of_ble_eq_true rfl, Nat.le_of_ble_eq_true rfl⟩ ⟨Nat.zero_le _, Nat.zero_le _⟩ rfl rfl (Nat.le_of_ble_eq_true rfl) dX3_openMotions_18 ?_
      refine z_phi 29 [vi v1] (fun V9 hv J9 => ?_) h (fun x29 h => ?_)
      · refine z_if_ne (tgt := 28) dX3_openMotions_21 (by decide) (eq_ite hv) (fun hv => ?_) (fun hv => ?_)
        · refine z_iconst dX3_openMotions_24 ?_
          refine z_goto (tgt := 29) dX3_openMotions_25 (by decide) ?_
          exact J9 _ hv.symm
        · refine z_iconst dX3_openMotions_28 ?_
          exact J9 _ hv.symm
      · refine z_iadd dX3_openMotions_29 ?_
        refine z_nm (fun v1_1 ev1_1 => ?_)
        replace h := h v1_1 ev1_1
        refine z_istore_n (lv' := [(1, vi v1_1), (0, vr Γ 67), (2, vi v2)]) dX3_openMotions_30 rfl (Nat.le_of_ble_eq_true rfl) rfl ?_
        refine z_iinc (j := 2) (lv' := [(2, vi (v2 + 1)), (1, vi v1_1), (0, vr Γ 67)]) dX3_openMotions_31 rfl (Nat.le_of_ble_eq_true rfl) rfl ?_
        refine z_goto (tgt := 4) dX3_openMotions_34 (by decide) ?_
        refine z_sub (lv' := [(0, vr Γ 67), (1, vi v1_1), (2, vi (v2 + 1))]) [2, 1, 0] rfl ?_
        exact hR_4 v1_1 (v2 + 1) h
    · refine z_sub (lv' := [(1, vi v1)]) [1] rfl ?_
      exact hX_4_37 v1 h
theorem i_Floor_openMotions {l : Launch} {Γ : Gam} {g : Nat} {μ : Mem} {k : Int → Mem → Prop} (hs : StatR μ.2.2) (h : f_Floor_openMotions  μ k) : CT l Γ yX3_openMotions cX3_openMotions 3 (some .int) 2 42 0 0 [vr Γ 67] g 174 μ (pI k) := by
  refine SW.ct (by decide) (Nat.le_of_ble_eq_true rfl) ?_
  refine z_sub (lv' := [(0, vr Γ 67)]) [0] rfl ?_
  show SW l Γ yX3_openMotions.cls cX3_openMotions Y_Floor_openMotions (pI k) g 174 0 0 μ 0 [(0, vr Γ 67)] []
  unfold f_Floor_openMotions at h
  refine z_iconst dX3_openMotions_0 ?_
  refine z_istore_n (lv' := [(1, vi 0), (0, vr Γ 67)]) dX3_openMotions_1 rfl (Nat.le_of_ble_eq_true rfl) rfl ?_
  refine z_iconst dX3_openMotions_2 ?_
  refine z_istore_n (lv' := [(2, vi 0), (1, vi 0), (0, vr Γ 67)]) dX3_openMotions_3 rfl (Nat.le_of_ble_eq_true rfl) rfl ?_
  obtain ⟨m4, h⟩ := h
  refine z_sub (lv' := [(0, vr Γ 67), (1, vi 0), (2, vi 0)]) [2, 1, 0] rfl ?_
  refine L_Floor_openMotions_4 hs (fun v1_2 h => ?_) m4 0 0 h
  refine z_iload_n dX3_openMotions_37 rfl 0 rfl ?_
  exact z_iret rfl dX3_openMotions_38 rfl rfl rfl ⟨_, rfl, hs, h⟩
abbrev Y_H_count : Yt := (2, (some .int), yX11_count.name, { frames := 3, cells := 0, slots := 0, locals := 64 }, 174, 0, 0)
def f_H_count (a1 : Int) (μ : Mem) (k : Int → Mem → Prop) : Prop := if w a1 = 0 then (k (rI μ 1139 0) μ) else (if w a1 = 1 then (k (rI μ 1136 0) μ) else (if w a1 = 2 then (k (rI μ 1137 0) μ) else (if w a1 = 3 then (k (rI μ 1138 0) μ) else (if w a1 = 4 then (k (rI μ 2543 0) μ) else (if w a1 = 5 then (k (rI μ 2544 0) μ) else (if w a1 = 6 then (k (rI μ 2545 0) μ) else (if w a1 = 7 then (k (rI μ 9584 0) μ) else (if w a1 = 8 then (k (rI μ 11632 0) μ) else (if w a1 = 9 then (k (rI μ 2281 0) μ) else (if w a1 = 10 then (f_Floor_openMotions  μ (fun r148 μ_1 => k r148 μ_1)) else (if w a1 = 11 then (k (v_popL ((rL μ 9582 0) ||| (rL μ 9583 0))) μ) else (k (-1) μ))))))))))))
theorem i_H_count {l : Launch} {Γ : Gam} {g : Nat} {a1 : Int} {μ : Mem} {k : Int → Mem → Prop} (hs : StatR μ.2.2) (h : f_H_count a1 μ k) : CT l Γ yX11_count cX11_count 2 (some .int) 3 64 0 0 [vr Γ 0, vi a1] g 174 μ (pI k) := by
  refine SW.ct (by decide) (Nat.le_of_ble_eq_true rfl) ?_
  refine z_sub (lv' := [(0, vr Γ 0), (1, vi a1)]) [0, 1] rfl ?_
  show SW l Γ yX11_count.cls cX11_count Y_H_count (pI k) g 174 0 0 μ 0 [(0, vr Γ 0), (1, vi a1)] []
  unfold f_H_count at h
  refine z_iload_n dX11_count_0 rfl 1 rfl ?_
  by_cases hc0 : w a1 = 0
  · rw [if_pos hc0] at h
    refine z_tcase (tgt := 64) 0 hc0 dX11_count_1 (by decide) (by decide) rfl (by decide) ?_
    refine z_rload_n dX11_count_64 rfl 0 rfl ?_
    refine z_getR (q := 1000) ff_11_0 dX11_count_65 kt_0 (Nat.le_of_ble_eq_true rfl) fl_X11_12 rfl (hs.1 _ _ sr_1000) ?_
    refine z_getI (q := 1139) ff_7_11 dX11_count_68 kt_1 (Nat.le_of_ble_eq_true rfl) fl_X11_139 rfl ?_
    exact z_iret rfl dX11_count_71 rfl rfl rfl ⟨_, rfl, hs, h⟩
  · rw [if_neg hc0] at h
    by_cases hc1 : w a1 = 1
    · rw [if_pos hc1] at h
      refine z_tcase (tgt := 72) 1 hc1 dX11_count_1 (by decide) (by decide) rfl (by decide) ?_
      refine z_rload_n dX11_count_72 rfl 0 rfl ?_
      refine z_getR (q := 1000) ff_11_0 dX11_count_73 kt_0 (Nat.le_of_ble_eq_true rfl) fl_X11_12 rfl (hs.1 _ _ sr_1000) ?_
      refine z_getI (q := 1136) ff_7_8 dX11_count_76 kt_1 (Nat.le_of_ble_eq_true rfl) fl_X11_356 rfl ?_
      exact z_iret rfl dX11_count_79 rfl rfl rfl ⟨_, rfl, hs, h⟩
    · rw [if_neg hc1] at h
      by_cases hc2 : w a1 = 2
      · rw [if_pos hc2] at h
        refine z_tcase (tgt := 80) 2 hc2 dX11_count_1 (by decide) (by decide) rfl (by decide) ?_
        refine z_rload_n dX11_count_80 rfl 0 rfl ?_
        refine z_getR (q := 1000) ff_11_0 dX11_count_81 kt_0 (Nat.le_of_ble_eq_true rfl) fl_X11_12 rfl (hs.1 _ _ sr_1000) ?_
        refine z_getI (q := 1137) ff_7_9 dX11_count_84 kt_1 (Nat.le_of_ble_eq_true rfl) fl_X11_359 rfl ?_
        exact z_iret rfl dX11_count_87 rfl rfl rfl ⟨_, rfl, hs, h⟩
      · rw [if_neg hc2] at h
        by_cases hc3 : w a1 = 3
        · rw [if_pos hc3] at h
          refine z_tcase (tgt := 88) 3 hc3 dX11_count_1 (by decide) (by decide) rfl (by decide) ?_
          refine z_rload_n dX11_count_88 rfl 0 rfl ?_
          refine z_getR (q := 1000) ff_11_0 dX11_count_89 kt_0 (Nat.le_of_ble_eq_true rfl) fl_X11_12 rfl (hs.1 _ _ sr_1000) ?_
          refine z_getI (q := 1138) ff_7_10 dX11_count_92 kt_1 (Nat.le_of_ble_eq_true rfl) fl_X11_362 rfl ?_
          exact z_iret rfl dX11_count_95 rfl rfl rfl ⟨_, rfl, hs, h⟩
        · rw [if_neg hc3] at h
          by_cases hc4 : w a1 = 4
          · rw [if_pos hc4] at h
            refine z_tcase (tgt := 96) 4 hc4 dX11_count_1 (by decide) (by decide) rfl (by decide) ?_
            refine z_rload_n dX11_count_96 rfl 0 rfl ?_
            refine z_getR (q := 1004) ff_11_4 dX11_count_97 kt_0 (Nat.le_of_ble_eq_true rfl) fl_X11_26 rfl (hs.1 _ _ sr_1004) ?_
            refine z_getI (q := 2543) ff_6_7 dX11_count_100 kt_12 (Nat.le_of_ble_eq_true rfl) fl_X11_183 rfl ?_
            exact z_iret rfl dX11_count_103 rfl rfl rfl ⟨_, rfl, hs, h⟩
          · rw [if_neg hc4] at h
            by_cases hc5 : w a1 = 5
            · rw [if_pos hc5] at h
              refine z_tcase (tgt := 104) 5 hc5 dX11_count_1 (by decide) (by decide) rfl (by decide) ?_
              refine z_rload_n dX11_count_104 rfl 0 rfl ?_
              refine z_getR (q := 1004) ff_11_4 dX11_count_105 kt_0 (Nat.le_of_ble_eq_true rfl) fl_X11_26 rfl (hs.1 _ _ sr_1004) ?_
              refine z_getI (q := 2544) ff_6_8 dX11_count_108 kt_12 (Nat.le_of_ble_eq_true rfl) fl_X11_225 rfl ?_
              exact z_iret rfl dX11_count_111 rfl rfl rfl ⟨_, rfl, hs, h⟩
            · rw [if_neg hc5] at h
              by_cases hc6 : w a1 = 6
              · rw [if_pos hc6] at h
                refine z_tcase (tgt := 112) 6 hc6 dX11_count_1 (by decide) (by decide) rfl (by decide) ?_
                refine z_rload_n dX11_count_112 rfl 0 rfl ?_
                refine z_getR (q := 1004) ff_11_4 dX11_count_113 kt_0 (Nat.le_of_ble_eq_true rfl) fl_X11_26 rfl (hs.1 _ _ sr_1004) ?_
                refine z_getI (q := 2545) ff_6_9 dX11_count_116 kt_12 (Nat.le_of_ble_eq_true rfl) fl_X11_160 rfl ?_
                exact z_iret rfl dX11_count_119 rfl rfl rfl ⟨_, rfl, hs, h⟩
              · rw [if_neg hc6] at h
                by_cases hc7 : w a1 = 7
                · rw [if_pos hc7] at h
                  refine z_tcase (tgt := 120) 7 hc7 dX11_count_1 (by decide) (by decide) rfl (by decide) ?_
                  refine z_rload_n dX11_count_120 rfl 0 rfl ?_
                  refine z_getR (q := 1005) ff_11_5 dX11_count_121 kt_0 (Nat.le_of_ble_eq_true rfl) fl_X11_57 rfl (hs.1 _ _ sr_1005) ?_
                  refine z_getI (q := 9584) ff_3_8 dX11_count_124 kt_67 (Nat.le_of_ble_eq_true rfl) fl_X11_125 rfl ?_
                  exact z_iret rfl dX11_count_127 rfl rfl rfl ⟨_, rfl, hs, h⟩
                · rw [if_neg hc7] at h
                  by_cases hc8 : w a1 = 8
                  · rw [if_pos hc8] at h
                    refine z_tcase (tgt := 128) 8 hc8 dX11_count_1 (by decide) (by decide) rfl (by decide) ?_
                    refine z_rload_n dX11_count_128 rfl 0 rfl ?_
                    refine z_getR (q := 1007) ff_11_7 dX11_count_129 kt_0 (Nat.le_of_ble_eq_true rfl) fl_X11_75 rfl (hs.1 _ _ sr_1007) ?_
                    refine z_getI (q := 11632) ff_0_8 dX11_count_132 kt_83 (Nat.le_of_ble_eq_true rfl) fl_X11_283 rfl ?_
                    exact z_iret rfl dX11_count_135 rfl rfl rfl ⟨_, rfl, hs, h⟩
                  · rw [if_neg hc8] at h
                    by_cases hc9 : w a1 = 9
                    · rw [if_pos hc9] at h
                      refine z_tcase (tgt := 136) 9 hc9 dX11_count_1 (by decide) (by decide) rfl (by decide) ?_
                      refine z_rload_n dX11_count_136 rfl 0 rfl ?_
                      refine z_getR (q := 1001) ff_11_1 dX11_count_137 kt_0 (Nat.le_of_ble_eq_true rfl) fl_X11_19 rfl (hs.1 _ _ sr_1001) ?_
                      refine z_getI (q := 2281) ff_9_1 dX11_count_140 kt_10 (Nat.le_of_ble_eq_true rfl) fl_X11_153 rfl ?_
                      exact z_iret rfl dX11_count_143 rfl rfl rfl ⟨_, rfl, hs, h⟩
                    · rw [if_neg hc9] at h
                      by_cases hc10 : w a1 = 10
                      · rw [if_pos hc10] at h
                        refine z_tcase (tgt := 144) 10 hc10 dX11_count_1 (by decide) (by decide) rfl (by decide) ?_
                        refine z_rload_n dX11_count_144 rfl 0 rfl ?_
                        refine z_getR (q := 1005) ff_11_5 dX11_count_145 kt_0 (Nat.le_of_ble_eq_true rfl) fl_X11_57 rfl (hs.1 _ _ sr_1005) ?_
                        refine z_VI (i_Floor_openMotions  hs h) vk_X3_openMotions kt_67 (Nat.le_of_ble_eq_true rfl) rfl ml_X11_365 ⟨Nat.le_of_ble_eq_true rfl, Nat.le_of_ble_eq_true rfl⟩ ⟨Nat.zero_le _, Nat.zero_le _⟩ rfl rfl (Nat.le_of_ble_eq_true rfl) dX11_count_148 (fun r148 μ_1 hs h => ?_)
                        exact z_iret rfl dX11_count_151 rfl rfl rfl ⟨_, rfl, hs, h⟩
                      · rw [if_neg hc10] at h
                        by_cases hc11 : w a1 = 11
                        · rw [if_pos hc11] at h
                          refine z_tcase (tgt := 152) 11 hc11 dX11_count_1 (by decide) (by decide) rfl (by decide) ?_
                          refine z_rload_n dX11_count_152 rfl 0 rfl ?_
                          refine z_getR (q := 1005) ff_11_5 dX11_count_153 kt_0 (Nat.le_of_ble_eq_true rfl) fl_X11_57 rfl (hs.1 _ _ sr_1005) ?_
                          refine z_getJ (q := 9582) ff_3_6 dX11_count_156 kt_67 (Nat.le_of_ble_eq_true rfl) fl_X11_308 rfl ?_
                          refine z_rload_n dX11_count_159 rfl 0 rfl ?_
                          refine z_getR (q := 1005) ff_11_5 dX11_count_160 kt_0 (Nat.le_of_ble_eq_true rfl) fl_X11_57 rfl (hs.1 _ _ sr_1005) ?_
                          refine z_getJ (q := 9583) ff_3_7 dX11_count_163 kt_67 (Nat.le_of_ble_eq_true rfl) fl_X11_312 rfl ?_
                          refine z_lor dX11_count_166 ?_
                          refine z_SE (i_popL hs) sk_J13_bitCount_95d88 ml_X11_368 ⟨Nat.le_of_ble_eq_true rfl, Nat.le_of_ble_eq_true rfl⟩ ⟨Nat.zero_le _, Nat.zero_le _⟩ rfl rfl (Nat.le_of_ble_eq_true rfl) dX11_count_167 ?_
                          exact z_iret rfl dX11_count_170 rfl rfl rfl ⟨_, rfl, hs, h⟩
                        · rw [if_neg hc11] at h
                          refine z_tdef (tgt := 171) (by omega) dX11_count_1 (by decide) ?_
                          refine z_iconst dX11_count_171 ?_
                          exact z_iret rfl dX11_count_172 rfl rfl rfl ⟨_, rfl, hs, h⟩
