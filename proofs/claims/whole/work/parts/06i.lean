abbrev Y_Comp_keepIfBetter : Yt := (4, none, yX1_keepIfBetter.name, { frames := 1, cells := 0, slots := 0, locals := 22 }, 174, 0, 0)
def l_Comp_keepIfBetter_4 (a1 : Int) (μ : Mem) (X_4_33 : Int → Prop) : Nat → Int → Int → Prop
  | 0, _, _ => False
  | fu4 + 1, v2, v3 => if w v3 < w a1 then (∀ v2_1 : Int, v2_1 = v2 + (at' μ 97 256 (at' μ 98 9 v3)) → (l_Comp_keepIfBetter_4 a1 μ X_4_33 fu4) v2_1 (v3 + 1)) else (X_4_33 v2)
def f_Comp_keepIfBetter (a1 : Int) (μ : Mem) (k : Mem → Prop) : Prop := ∃ m4 : Nat, l_Comp_keepIfBetter_4 a1 μ (fun (v2_2 : Int) => if w (rI μ 12663 0) = w (-1) then (∀ μ_1 : Mem, μ_1 = sI μ 12663 0 v2_2 → ∀ μ_2 : Mem, μ_2 = sI μ_1 12664 0 a1 → f_H_copy 98 9 99 9 μ_2 (fun μ_3 => k μ_3)) else (if w v2_2 < w (rI μ 12663 0) then (∀ μ_4 : Mem, μ_4 = sI μ 12663 0 v2_2 → ∀ μ_5 : Mem, μ_5 = sI μ_4 12664 0 a1 → f_H_copy 98 9 99 9 μ_5 (fun μ_6 => k μ_6)) else (if w v2_2 = w (rI μ 12663 0) then (if w a1 < w (rI μ 12664 0) then (∀ μ_7 : Mem, μ_7 = sI μ 12663 0 v2_2 → ∀ μ_8 : Mem, μ_8 = sI μ_7 12664 0 a1 → f_H_copy 98 9 99 9 μ_8 (fun μ_9 => k μ_9)) else (k μ)) else (k μ)))) m4 0 0
theorem L_Comp_keepIfBetter_4 {l : Launch} {Γ : Gam} {g : Nat} {a1 : Int} {μ : Mem} {X_4_33 : Int → Prop} {k : Mem → Prop} (hs : StatR μ.2.2) (hX_4_33 : ∀ (u2 : Int), X_4_33 u2 → SW l Γ yX1_keepIfBetter.cls cX1_keepIfBetter Y_Comp_keepIfBetter (pV k) g 174 0 0 μ 33 [(0, vr Γ 91), (1, vi a1), (2, vi u2)] []) (n9 : Nat) : ∀ (v2 : Int) (v3 : Int), l_Comp_keepIfBetter_4 a1 μ X_4_33 n9 v2 v3 → SW l Γ yX1_keepIfBetter.cls cX1_keepIfBetter Y_Comp_keepIfBetter (pV k) g 174 0 0 μ 4 [(0, vr Γ 91), (1, vi a1), (2, vi v2), (3, vi v3)] [] := by
  induction n9 with
  | zero =>
    intro v2 v3 h
    exact h.elim
  | succ n9 hR_4 =>
    intro v2 v3 h
    rw [l_Comp_keepIfBetter_4] at h
    refine z_iload_n dX1_keepIfBetter_4 rfl 3 rfl ?_
    refine z_iload_n dX1_keepIfBetter_5 rfl 1 rfl ?_
    refine z_icmp_ge (tgt := 33) dX1_keepIfBetter_6 (by decide) h (fun h => ?_) (fun h => ?_)
    · refine z_iload_n dX1_keepIfBetter_9 rfl 2 rfl ?_
      refine z_rload_n dX1_keepIfBetter_10 rfl 0 rfl ?_
      refine z_getR (q := 12659) ff_1_11 dX1_keepIfBetter_11 kt_91 (Nat.le_of_ble_eq_true rfl) fl_X1_28 rfl (hs.1 _ _ sr_12659) ?_
      refine z_rload_n dX1_keepIfBetter_14 rfl 0 rfl ?_
      refine z_getR (q := 12660) ff_1_12 dX1_keepIfBetter_15 kt_91 (Nat.le_of_ble_eq_true rfl) fl_X1_31 rfl (hs.1 _ _ sr_12660) ?_
      refine z_iload_n dX1_keepIfBetter_18 rfl 3 rfl ?_
      refine z_NE (i_X11_at kt_98 (Nat.le_of_ble_eq_true rfl)) ok_X11_at nw_X1_55 ⟨Nat.le_of_ble_eq_true rfl, Nat.le_of_ble_eq_true rfl⟩ ⟨Nat.zero_le _, Nat.zero_le _⟩ rfl rfl (Nat.le_of_ble_eq_true rfl) dX1_keepIfBetter_19 ?_
      refine z_NE (i_X11_at kt_97 (Nat.le_of_ble_eq_true rfl)) ok_X11_at nw_X1_55 ⟨Nat.le_of_ble_eq_true rfl, Nat.le_of_ble_eq_true rfl⟩ ⟨Nat.zero_le _, Nat.zero_le _⟩ rfl rfl (Nat.le_of_ble_eq_true rfl) dX1_keepIfBetter_22 ?_
      refine z_iadd dX1_keepIfBetter_25 ?_
      refine z_nm (fun v2_1 ev2_1 => ?_)
      replace h := h v2_1 ev2_1
      refine z_istore_n (lv' := [(2, vi v2_1), (0, vr Γ 91), (1, vi a1), (3, vi v3)]) dX1_keepIfBetter_26 rfl (Nat.le_of_ble_eq_true rfl) rfl ?_
      refine z_iinc (j := 3) (lv' := [(3, vi (v3 + 1)), (2, vi v2_1), (0, vr Γ 91), (1, vi a1)]) dX1_keepIfBetter_27 rfl (Nat.le_of_ble_eq_true rfl) rfl ?_
      refine z_goto (tgt := 4) dX1_keepIfBetter_30 (by decide) ?_
      refine z_sub (lv' := [(0, vr Γ 91), (1, vi a1), (2, vi v2_1), (3, vi (v3 + 1))]) [2, 3, 1, 0] rfl ?_
      exact hR_4 v2_1 (v3 + 1) h
    · refine z_sub (lv' := [(0, vr Γ 91), (1, vi a1), (2, vi v2)]) [0, 1, 2] rfl ?_
      exact hX_4_33 v2 h
theorem i_Comp_keepIfBetter {l : Launch} {Γ : Gam} {g : Nat} {a1 : Int} {μ : Mem} {k : Mem → Prop} (hs : StatR μ.2.2) (h : f_Comp_keepIfBetter a1 μ k) : CT l Γ yX1_keepIfBetter cX1_keepIfBetter 4 none 1 22 0 0 [vr Γ 91, vi a1] g 174 μ (pV k) := by
  refine SW.ct (by decide) (Nat.le_of_ble_eq_true rfl) ?_
  refine z_sub (lv' := [(0, vr Γ 91), (1, vi a1)]) [0, 1] rfl ?_
  show SW l Γ yX1_keepIfBetter.cls cX1_keepIfBetter Y_Comp_keepIfBetter (pV k) g 174 0 0 μ 0 [(0, vr Γ 91), (1, vi a1)] []
  unfold f_Comp_keepIfBetter at h
  refine z_iconst dX1_keepIfBetter_0 ?_
  refine z_istore_n (lv' := [(2, vi 0), (0, vr Γ 91), (1, vi a1)]) dX1_keepIfBetter_1 rfl (Nat.le_of_ble_eq_true rfl) rfl ?_
  refine z_iconst dX1_keepIfBetter_2 ?_
  refine z_istore_n (lv' := [(3, vi 0), (2, vi 0), (0, vr Γ 91), (1, vi a1)]) dX1_keepIfBetter_3 rfl (Nat.le_of_ble_eq_true rfl) rfl ?_
  obtain ⟨m4, h⟩ := h
  refine z_sub (lv' := [(0, vr Γ 91), (1, vi a1), (2, vi 0), (3, vi 0)]) [2, 3, 1, 0] rfl ?_
  refine L_Comp_keepIfBetter_4 hs (fun v2_2 h => ?_) m4 0 0 h
  refine z_rload_n dX1_keepIfBetter_33 rfl 0 rfl ?_
  refine z_getI (q := 12663) ff_1_15 dX1_keepIfBetter_34 kt_91 (Nat.le_of_ble_eq_true rfl) fl_X1_152 rfl ?_
  refine z_iconst dX1_keepIfBetter_37 ?_
  refine z_icmp_eq (tgt := 65) dX1_keepIfBetter_38 (by decide) h (fun h => ?_) (fun h => ?_)
  · refine z_rload_n dX1_keepIfBetter_65 rfl 0 rfl ?_
    refine z_iload_n dX1_keepIfBetter_66 rfl 2 rfl ?_
    refine z_putI (q := 12663) ff_1_15 (Or.inl rfl) rfl dX1_keepIfBetter_67 kt_91 (Nat.le_of_ble_eq_true rfl) fl_X1_152 rfl ?_
    refine z_mm (fun μ_1 eμ_1 => ?_)
    replace h := h μ_1 eμ_1
    replace hs : StatR μ_1.2.2 := by rw [eμ_1]; exact hs
    refine z_rload_n dX1_keepIfBetter_70 rfl 0 rfl ?_
    refine z_iload_n dX1_keepIfBetter_71 rfl 1 rfl ?_
    refine z_putI (q := 12664) ff_1_16 (Or.inl rfl) rfl dX1_keepIfBetter_72 kt_91 (Nat.le_of_ble_eq_true rfl) fl_X1_165 rfl ?_
    refine z_mm (fun μ_2 eμ_2 => ?_)
    replace h := h μ_2 eμ_2
    replace hs : StatR μ_2.2.2 := by rw [eμ_2]; exact hs
    refine z_rload_n dX1_keepIfBetter_75 rfl 0 rfl ?_
    refine z_getR (q := 12660) ff_1_12 dX1_keepIfBetter_76 kt_91 (Nat.le_of_ble_eq_true rfl) fl_X1_31 rfl (hs.1 _ _ sr_12660) ?_
    refine z_rload_n dX1_keepIfBetter_79 rfl 0 rfl ?_
    refine z_getR (q := 12661) ff_1_13 dX1_keepIfBetter_80 kt_91 (Nat.le_of_ble_eq_true rfl) fl_X1_34 rfl (hs.1 _ _ sr_12661) ?_
    refine z_NU (i_H_copy kt_98 (Nat.le_of_ble_eq_true rfl) kt_99 (Nat.le_of_ble_eq_true rfl) hs h) sk_X11_copy nw_X1_168 ⟨Nat.le_of_ble_eq_true rfl, Nat.le_of_ble_eq_true rfl⟩ ⟨Nat.zero_le _, Nat.zero_le _⟩ rfl rfl (Nat.le_of_ble_eq_true rfl) dX1_keepIfBetter_83 (fun μ_3 hs h => ?_)
    exact z_vret rfl dX1_keepIfBetter_86 rfl rfl rfl ⟨rfl, hs, h⟩
  · refine z_iload_n dX1_keepIfBetter_41 rfl 2 rfl ?_
    refine z_rload_n dX1_keepIfBetter_42 rfl 0 rfl ?_
    refine z_getI (q := 12663) ff_1_15 dX1_keepIfBetter_43 kt_91 (Nat.le_of_ble_eq_true rfl) fl_X1_152 rfl ?_
    refine z_icmp_lt (tgt := 65) dX1_keepIfBetter_46 (by decide) h (fun h => ?_) (fun h => ?_)
    · refine z_rload_n dX1_keepIfBetter_65 rfl 0 rfl ?_
      refine z_iload_n dX1_keepIfBetter_66 rfl 2 rfl ?_
      refine z_putI (q := 12663) ff_1_15 (Or.inl rfl) rfl dX1_keepIfBetter_67 kt_91 (Nat.le_of_ble_eq_true rfl) fl_X1_152 rfl ?_
      refine z_mm (fun μ_4 eμ_4 => ?_)
      replace h := h μ_4 eμ_4
      replace hs : StatR μ_4.2.2 := by rw [eμ_4]; exact hs
      refine z_rload_n dX1_keepIfBetter_70 rfl 0 rfl ?_
      refine z_iload_n dX1_keepIfBetter_71 rfl 1 rfl ?_
      refine z_putI (q := 12664) ff_1_16 (Or.inl rfl) rfl dX1_keepIfBetter_72 kt_91 (Nat.le_of_ble_eq_true rfl) fl_X1_165 rfl ?_
      refine z_mm (fun μ_5 eμ_5 => ?_)
      replace h := h μ_5 eμ_5
      replace hs : StatR μ_5.2.2 := by rw [eμ_5]; exact hs
      refine z_rload_n dX1_keepIfBetter_75 rfl 0 rfl ?_
      refine z_getR (q := 12660) ff_1_12 dX1_keepIfBetter_76 kt_91 (Nat.le_of_ble_eq_true rfl) fl_X1_31 rfl (hs.1 _ _ sr_12660) ?_
      refine z_rload_n dX1_keepIfBetter_79 rfl 0 rfl ?_
      refine z_getR (q := 12661) ff_1_13 dX1_keepIfBetter_80 kt_91 (Nat.le_of_ble_eq_true rfl) fl_X1_34 rfl (hs.1 _ _ sr_12661) ?_
      refine z_NU (i_H_copy kt_98 (Nat.le_of_ble_eq_true rfl) kt_99 (Nat.le_of_ble_eq_true rfl) hs h) sk_X11_copy nw_X1_168 ⟨Nat.le_of_ble_eq_true rfl, Nat.le_of_ble_eq_true rfl⟩ ⟨Nat.zero_le _, Nat.zero_le _⟩ rfl rfl (Nat.le_of_ble_eq_true rfl) dX1_keepIfBetter_83 (fun μ_6 hs h => ?_)
      exact z_vret rfl dX1_keepIfBetter_86 rfl rfl rfl ⟨rfl, hs, h⟩
    · refine z_iload_n dX1_keepIfBetter_49 rfl 2 rfl ?_
      refine z_rload_n dX1_keepIfBetter_50 rfl 0 rfl ?_
      refine z_getI (q := 12663) ff_1_15 dX1_keepIfBetter_51 kt_91 (Nat.le_of_ble_eq_true rfl) fl_X1_152 rfl ?_
      refine z_icmp_ne (tgt := 86) dX1_keepIfBetter_54 (by decide) h (fun h => ?_) (fun h => ?_)
      · refine z_iload_n dX1_keepIfBetter_57 rfl 1 rfl ?_
        refine z_rload_n dX1_keepIfBetter_58 rfl 0 rfl ?_
        refine z_getI (q := 12664) ff_1_16 dX1_keepIfBetter_59 kt_91 (Nat.le_of_ble_eq_true rfl) fl_X1_165 rfl ?_
        refine z_icmp_ge (tgt := 86) dX1_keepIfBetter_62 (by decide) h (fun h => ?_) (fun h => ?_)
        · refine z_rload_n dX1_keepIfBetter_65 rfl 0 rfl ?_
          refine z_iload_n dX1_keepIfBetter_66 rfl 2 rfl ?_
          refine z_putI (q := 12663) ff_1_15 (Or.inl rfl) rfl dX1_keepIfBetter_67 kt_91 (Nat.le_of_ble_eq_true rfl) fl_X1_152 rfl ?_
          refine z_mm (fun μ_7 eμ_7 => ?_)
          replace h := h μ_7 eμ_7
          replace hs : StatR μ_7.2.2 := by rw [eμ_7]; exact hs
          refine z_rload_n dX1_keepIfBetter_70 rfl 0 rfl ?_
          refine z_iload_n dX1_keepIfBetter_71 rfl 1 rfl ?_
          refine z_putI (q := 12664) ff_1_16 (Or.inl rfl) rfl dX1_keepIfBetter_72 kt_91 (Nat.le_of_ble_eq_true rfl) fl_X1_165 rfl ?_
          refine z_mm (fun μ_8 eμ_8 => ?_)
          replace h := h μ_8 eμ_8
          replace hs : StatR μ_8.2.2 := by rw [eμ_8]; exact hs
          refine z_rload_n dX1_keepIfBetter_75 rfl 0 rfl ?_
          refine z_getR (q := 12660) ff_1_12 dX1_keepIfBetter_76 kt_91 (Nat.le_of_ble_eq_true rfl) fl_X1_31 rfl (hs.1 _ _ sr_12660) ?_
          refine z_rload_n dX1_keepIfBetter_79 rfl 0 rfl ?_
          refine z_getR (q := 12661) ff_1_13 dX1_keepIfBetter_80 kt_91 (Nat.le_of_ble_eq_true rfl) fl_X1_34 rfl (hs.1 _ _ sr_12661) ?_
          refine z_NU (i_H_copy kt_98 (Nat.le_of_ble_eq_true rfl) kt_99 (Nat.le_of_ble_eq_true rfl) hs h) sk_X11_copy nw_X1_168 ⟨Nat.le_of_ble_eq_true rfl, Nat.le_of_ble_eq_true rfl⟩ ⟨Nat.zero_le _, Nat.zero_le _⟩ rfl rfl (Nat.le_of_ble_eq_true rfl) dX1_keepIfBetter_83 (fun μ_9 hs h => ?_)
          exact z_vret rfl dX1_keepIfBetter_86 rfl rfl rfl ⟨rfl, hs, h⟩
        · exact z_vret rfl dX1_keepIfBetter_86 rfl rfl rfl ⟨rfl, hs, h⟩
      · exact z_vret rfl dX1_keepIfBetter_86 rfl rfl rfl ⟨rfl, hs, h⟩
abbrev Y_Comp_placeMotion (d : Nat) : Yt := (6, none, yX1_placeMotion.name, { frames := 10 * (d + 1) + 10, cells := 0, slots := 0, locals := 60 * (d + 1) + 300 }, 174, 0, 0)
def l_Comp_placeMotion_16 (a1 : Int) (a2 : Int) (X_16_105 : Mem → Prop) (rec : Int → Int → Mem → (Mem → Prop) → Prop) : Nat → Int → Mem → Prop
  | 0, _, _ => False
  | fu16 + 1, v3, μ_1 => if w a2 < w v3 then (X_16_105 μ_1) else (if w v3 < w (rI μ_1 12662 0) then (∀ v4 : Int, v4 = at' μ_1 98 9 v3 → ∀ v5 : Int, v5 = w_ior v4 (w_ishl 1 a1) → if w (at' μ_1 97 256 v5) = w (-1) then ((l_Comp_placeMotion_16 a1 a2 X_16_105 rec fu16) (v3 + 1) μ_1) else (∀ μ_2 : Mem, μ_2 = set' μ_1 98 9 v3 v5 → ∀ x86 : Int, x86 = (if w v3 = w a2 then (a2 + 1) else a2) → rec (a1 + 1) x86 μ_2 (fun μ_3 => ∀ μ_4 : Mem, μ_4 = set' μ_3 98 9 v3 v4 → (l_Comp_placeMotion_16 a1 a2 X_16_105 rec fu16) (v3 + 1) μ_4))) else (X_16_105 μ_1))
def f_Comp_placeMotion (rec : Int → Int → Mem → (Mem → Prop) → Prop) (a1 : Int) (a2 : Int) (μ : Mem) (k : Mem → Prop) : Prop := if w a1 < w (rI μ 12654 0) then (∃ m16 : Nat, l_Comp_placeMotion_16 a1 a2 (fun (μ_5 : Mem) => k μ_5) rec m16 0 μ) else (f_Comp_keepIfBetter a2 μ (fun μ_6 => k μ_6))
theorem L_Comp_placeMotion_16 {l : Launch} {Γ : Gam} {g : Nat} {a1 : Int} {a2 : Int} {X_16_105 : Mem → Prop} {k : Mem → Prop} {d : Nat} {rec : Int → Int → Mem → (Mem → Prop) → Prop} (H : H_Q l Γ g rec d) (hX_16_105 : ∀ (ν : Mem), StatR ν.2.2 → X_16_105 ν → SW l Γ yX1_placeMotion.cls cX1_placeMotion (Y_Comp_placeMotion d) (pV k) g 174 0 0 ν 105 [] []) (n9 : Nat) : ∀ (v3 : Int) (μ_1 : Mem), StatR μ_1.2.2 → l_Comp_placeMotion_16 a1 a2 X_16_105 rec n9 v3 μ_1 → SW l Γ yX1_placeMotion.cls cX1_placeMotion (Y_Comp_placeMotion d) (pV k) g 174 0 0 μ_1 16 [(0, vr Γ 91), (1, vi a1), (2, vi a2), (3, vi v3)] [] := by
  induction n9 with
  | zero =>
    intro v3 μ_1 hs h
    exact h.elim
  | succ n9 hR_16 =>
    intro v3 μ_1 hs h
    rw [l_Comp_placeMotion_16] at h
    refine z_iload_n dX1_placeMotion_16 rfl 3 rfl ?_
    refine z_iload_n dX1_placeMotion_17 rfl 2 rfl ?_
    refine z_icmp_gt (tgt := 105) dX1_placeMotion_18 (by decide) h (fun h => ?_) (fun h => ?_)
    · refine z_sub (lv' := []) [] rfl ?_
      exact hX_16_105 μ_1 hs h
    · refine z_iload_n dX1_placeMotion_21 rfl 3 rfl ?_
      refine z_rload_n dX1_placeMotion_22 rfl 0 rfl ?_
      refine z_getI (q := 12662) ff_1_14 dX1_placeMotion_23 kt_91 (Nat.le_of_ble_eq_true rfl) fl_X1_149 rfl ?_
      refine z_icmp_ge (tgt := 105) dX1_placeMotion_26 (by decide) h (fun h => ?_) (fun h => ?_)
      · refine z_rload_n dX1_placeMotion_29 rfl 0 rfl ?_
        refine z_getR (q := 12660) ff_1_12 dX1_placeMotion_30 kt_91 (Nat.le_of_ble_eq_true rfl) fl_X1_31 rfl (hs.1 _ _ sr_12660) ?_
        refine z_iload_n dX1_placeMotion_33 rfl 3 rfl ?_
        refine z_NE (i_X11_at kt_98 (Nat.le_of_ble_eq_true rfl)) ok_X11_at nw_X1_55 (rm_Q (by decide)) ⟨Nat.zero_le _, Nat.zero_le _⟩ rfl rfl (Nat.le_of_ble_eq_true rfl) dX1_placeMotion_34 ?_
        refine z_nm (fun v4 ev4 => ?_)
        replace h := h v4 ev4
        refine z_istore (lv' := [(4, vi v4), (0, vr Γ 91), (1, vi a1), (2, vi a2), (3, vi v3)]) dX1_placeMotion_37 (Nat.le_of_ble_eq_true rfl) rfl ?_
        refine z_iload dX1_placeMotion_39 0 rfl ?_
        refine z_iconst dX1_placeMotion_41 ?_
        refine z_iload_n dX1_placeMotion_42 rfl 2 rfl ?_
        refine z_ishl dX1_placeMotion_43 ?_
        refine z_ior dX1_placeMotion_44 ?_
        refine z_nm (fun v5 ev5 => ?_)
        replace h := h v5 ev5
        refine z_istore (lv' := [(5, vi v5), (4, vi v4), (0, vr Γ 91), (1, vi a1), (2, vi a2), (3, vi v3)]) dX1_placeMotion_45 (Nat.le_of_ble_eq_true rfl) rfl ?_
        refine z_rload_n dX1_placeMotion_47 rfl 2 rfl ?_
        refine z_getR (q := 12659) ff_1_11 dX1_placeMotion_48 kt_91 (Nat.le_of_ble_eq_true rfl) fl_X1_28 rfl (hs.1 _ _ sr_12659) ?_
        refine z_iload dX1_placeMotion_51 0 rfl ?_
        refine z_NE (i_X11_at kt_97 (Nat.le_of_ble_eq_true rfl)) ok_X11_at nw_X1_55 (rm_Q (by decide)) ⟨Nat.zero_le _, Nat.zero_le _⟩ rfl rfl (Nat.le_of_ble_eq_true rfl) dX1_placeMotion_53 ?_
        refine z_iconst dX1_placeMotion_56 ?_
        refine z_icmp_eq (tgt := 99) dX1_placeMotion_57 (by decide) h (fun h => ?_) (fun h => ?_)
        · refine z_iinc (j := 5) (lv' := [(3, vi (v3 + 1)), (5, vi v5), (4, vi v4), (0, vr Γ 91), (1, vi a1), (2, vi a2)]) dX1_placeMotion_99 rfl (Nat.le_of_ble_eq_true rfl) rfl ?_
          refine z_goto (tgt := 16) dX1_placeMotion_102 (by decide) ?_
          refine z_sub (lv' := [(0, vr Γ 91), (1, vi a1), (2, vi a2), (3, vi (v3 + 1))]) [3, 4, 5, 0] rfl ?_
          exact hR_16 (v3 + 1) μ_1 hs h
        · refine z_rload_n dX1_placeMotion_60 rfl 2 rfl ?_
          refine z_getR (q := 12660) ff_1_12 dX1_placeMotion_61 kt_91 (Nat.le_of_ble_eq_true rfl) fl_X1_31 rfl (hs.1 _ _ sr_12660) ?_
          refine z_iload_n dX1_placeMotion_64 rfl 5 rfl ?_
          refine z_iload dX1_placeMotion_65 0 rfl ?_
          refine z_NM (i_X11_set kt_98 (Nat.le_of_ble_eq_true rfl)) ok_X11_set nw_X1_146 (rm_Q (by decide)) ⟨Nat.zero_le _, Nat.zero_le _⟩ rfl rfl (Nat.le_of_ble_eq_true rfl) dX1_placeMotion_67 ?_
          refine z_mm (fun μ_2 eμ_2 => ?_)
          replace h := h μ_2 eμ_2
          replace hs : StatR μ_2.2.2 := by rw [eμ_2]; exact (StatR.set hs)
          refine z_rload_n dX1_placeMotion_70 rfl 2 rfl ?_
          refine z_iload_n dX1_placeMotion_71 rfl 3 rfl ?_
          refine z_iconst dX1_placeMotion_72 ?_
          refine z_iadd dX1_placeMotion_73 ?_
          refine z_iload_n dX1_placeMotion_74 rfl 5 rfl ?_
          refine z_iload_n dX1_placeMotion_75 rfl 4 rfl ?_
          refine z_phi 86 [vi (a1 + 1), vr Γ 91] (fun V9 hv J9 => ?_) h (fun x86 h => ?_)
          · refine z_icmp_ne (tgt := 85) dX1_placeMotion_76 (by decide) (eq_ite hv) (fun hv => ?_) (fun hv => ?_)
            · refine z_iload_n dX1_placeMotion_79 rfl 4 rfl ?_
              refine z_iconst dX1_placeMotion_80 ?_
              refine z_iadd dX1_placeMotion_81 ?_
              refine z_goto (tgt := 86) dX1_placeMotion_82 (by decide) ?_
              exact J9 _ hv.symm
            · refine z_iload_n dX1_placeMotion_85 rfl 4 rfl ?_
              exact J9 _ hv.symm
          · refine z_VU (H _ _ _ _ hs h) vk_X1_placeMotion kt_91 (Nat.le_of_ble_eq_true rfl) rfl ml_X1_159 (rm_QR (by decide)) ⟨Nat.zero_le _, Nat.zero_le _⟩ rfl rfl (Nat.le_of_ble_eq_true rfl) dX1_placeMotion_86 (fun μ_3 hs h => ?_)
            refine z_rload_n dX1_placeMotion_89 rfl 2 rfl ?_
            refine z_getR (q := 12660) ff_1_12 dX1_placeMotion_90 kt_91 (Nat.le_of_ble_eq_true rfl) fl_X1_31 rfl (hs.1 _ _ sr_12660) ?_
            refine z_iload_n dX1_placeMotion_93 rfl 5 rfl ?_
            refine z_iload dX1_placeMotion_94 1 rfl ?_
            refine z_NM (i_X11_set kt_98 (Nat.le_of_ble_eq_true rfl)) ok_X11_set nw_X1_146 (rm_Q (by decide)) ⟨Nat.zero_le _, Nat.zero_le _⟩ rfl rfl (Nat.le_of_ble_eq_true rfl) dX1_placeMotion_96 ?_
            refine z_mm (fun μ_4 eμ_4 => ?_)
            replace h := h μ_4 eμ_4
            replace hs : StatR μ_4.2.2 := by rw [eμ_4]; exact (StatR.set hs)
            refine z_iinc (j := 5) (lv' := [(3, vi (v3 + 1)), (5, vi v5), (4, vi v4), (0, vr Γ 91), (1, vi a1), (2, vi a2)]) dX1_placeMotion_99 rfl (Nat.le_of_ble_eq_true rfl) rfl ?_
            refine z_goto (tgt := 16) dX1_placeMotion_102 (by decide) ?_
            refine z_sub (lv' := [(0, vr Γ 91), (1, vi a1), (2, vi a2), (3, vi (v3 + 1))]) [3, 4, 5, 0] rfl ?_
            exact hR_16 (v3 + 1) μ_4 hs h
      · refine z_sub (lv' := []) [] rfl ?_
        exact hX_16_105 μ_1 hs h
theorem i_Comp_placeMotion {l : Launch} {Γ : Gam} {g : Nat} {a1 : Int} {a2 : Int} {μ : Mem} {d : Nat} {rec : Int → Int → Mem → (Mem → Prop) → Prop} {k : Mem → Prop} (H : H_Q l Γ g rec d) (hs : StatR μ.2.2) (h : f_Comp_placeMotion rec a1 a2 μ k) : CT l Γ yX1_placeMotion cX1_placeMotion 6 none (10 * (d + 1) + 10) (60 * (d + 1) + 300) 0 0 [vr Γ 91, vi a1, vi a2] g 174 μ (pV k) := by
  refine SW.ct (by decide) (Nat.le_of_ble_eq_true rfl) ?_
  refine z_sub (lv' := [(0, vr Γ 91), (1, vi a1), (2, vi a2)]) [0, 1, 2] rfl ?_
  show SW l Γ yX1_placeMotion.cls cX1_placeMotion (Y_Comp_placeMotion d) (pV k) g 174 0 0 μ 0 [(0, vr Γ 91), (1, vi a1), (2, vi a2)] []
  unfold f_Comp_placeMotion at h
  refine z_iload_n dX1_placeMotion_0 rfl 1 rfl ?_
  refine z_rload_n dX1_placeMotion_1 rfl 0 rfl ?_
  refine z_getI (q := 12654) ff_1_6 dX1_placeMotion_2 kt_91 (Nat.le_of_ble_eq_true rfl) fl_X1_51 rfl ?_
  refine z_icmp_lt (tgt := 14) dX1_placeMotion_5 (by decide) h (fun h => ?_) (fun h => ?_)
  · refine z_iconst dX1_placeMotion_14 ?_
    refine z_istore_n (lv' := [(3, vi 0), (0, vr Γ 91), (1, vi a1), (2, vi a2)]) dX1_placeMotion_15 rfl (Nat.le_of_ble_eq_true rfl) rfl ?_
    obtain ⟨m16, h⟩ := h
    refine z_sub (lv' := [(0, vr Γ 91), (1, vi a1), (2, vi a2), (3, vi 0)]) [1, 2, 3, 0] rfl ?_
    refine L_Comp_placeMotion_16 H (fun μ_5 hs h => ?_) m16 0 μ hs h
    exact z_vret rfl dX1_placeMotion_105 rfl rfl rfl ⟨rfl, hs, h⟩
  · refine z_rload_n dX1_placeMotion_8 rfl 0 rfl ?_
    refine z_iload_n dX1_placeMotion_9 rfl 2 rfl ?_
    refine z_VU (i_Comp_keepIfBetter  hs h) vk_X1_keepIfBetter kt_91 (Nat.le_of_ble_eq_true rfl) rfl ml_X1_162 (rm_Q (by decide)) ⟨Nat.zero_le _, Nat.zero_le _⟩ rfl rfl (Nat.le_of_ble_eq_true rfl) dX1_placeMotion_10 (fun μ_6 hs h => ?_)
    exact z_vret rfl dX1_placeMotion_13 rfl rfl rfl ⟨rfl, hs, h⟩
def R_Q : Nat → Int → Int → Mem → (Mem → Prop) → Prop
  | 0 => fun _ _ _ _ => False
  | d + 1 => fun x y μ k => f_Comp_placeMotion (R_Q d) x y μ k
theorem ok_Q {l : Launch} {Γ : Gam} {g : Nat} : ∀ d : Nat, H_Q l Γ g (R_Q d) d
  | 0 => fun _ _ _ _ _ h => h.elim
  | d + 1 => fun x y μ k hs h => i_Comp_placeMotion (ok_Q d) hs h
abbrev Y_Comp_groupUp : Yt := (4, (some .int), yX1_groupUp.name, { frames := 131, cells := 0, slots := 0, locals := 1045 }, 174, 0, 0)
def l_Comp_groupUp_29 (a2 : Int) (X_29_70 : Mem → Prop) : Nat → Int → Mem → Prop
  | 0, _, _ => False
  | fu29 + 1, v3, μ_2 => if w v3 < w (w_ishl 1 (rI μ_2 12654 0)) then (if w (v_popI v3) = w 1 then (∀ μ_3 : Mem, μ_3 = set' μ_2 97 256 v3 0 → (l_Comp_groupUp_29 a2 X_29_70 fu29) (v3 + 1) μ_3) else (f_Comp_compose v3 μ_2 (fun r58 μ_4 => ∀ μ_5 : Mem, μ_5 = set' μ_4 97 256 v3 r58 → (l_Comp_groupUp_29 a2 X_29_70 fu29) (v3 + 1) μ_5))) else (X_29_70 μ_2)
def f_Comp_groupUp (a1 : Int) (a2 : Int) (μ : Mem) (k : Int → Mem → Prop) : Prop := if w a2 < w 1 then (k (-1) μ) else (if w 8 < w a2 then (k (-1) μ) else (f_Comp_choose a1 μ (fun μ_1 => if w (rI μ_1 12654 0) = 0 then (k (-1) μ_1) else (∃ m29 : Nat, l_Comp_groupUp_29 a2 (fun (μ_6 : Mem) => ∀ μ_7 : Mem, μ_7 = sI μ_6 12662 0 a2 → ∀ μ_8 : Mem, μ_8 = sI μ_7 12663 0 (-1) → f_H_fill 98 9 0 μ_8 (fun μ_9 => R_Q 12 0 0 μ_9 (fun μ_10 => k (rI μ_10 12663 0) μ_10))) m29 1 μ_1))))
theorem L_Comp_groupUp_29 {l : Launch} {Γ : Gam} {g : Nat} {a2 : Int} {X_29_70 : Mem → Prop} {k : Int → Mem → Prop} (hX_29_70 : ∀ (ν : Mem), StatR ν.2.2 → X_29_70 ν → SW l Γ yX1_groupUp.cls cX1_groupUp Y_Comp_groupUp (pI k) g 174 0 0 ν 70 [(0, vr Γ 91), (2, vi a2)] []) (n9 : Nat) : ∀ (v3 : Int) (μ_2 : Mem), StatR μ_2.2.2 → l_Comp_groupUp_29 a2 X_29_70 n9 v3 μ_2 → SW l Γ yX1_groupUp.cls cX1_groupUp Y_Comp_groupUp (pI k) g 174 0 0 μ_2 29 [(0, vr Γ 91), (2, vi a2), (3, vi v3)] [] := by
  induction n9 with
  | zero =>
    intro v3 μ_2 hs h
    exact h.elim
  | succ n9 hR_29 =>
    intro v3 μ_2 hs h
    rw [l_Comp_groupUp_29] at h
    refine z_iload_n dX1_groupUp_29 rfl 2 rfl ?_
    refine z_iconst dX1_groupUp_30 ?_
    refine z_rload_n dX1_groupUp_31 rfl 0 rfl ?_
    refine z_getI (q := 12654) ff_1_6 dX1_groupUp_32 kt_91 (Nat.le_of_ble_eq_true rfl) fl_X1_51 rfl ?_
    refine z_ishl dX1_groupUp_35 ?_
    refine z_icmp_ge (tgt := 70) dX1_groupUp_36 (by decide) h (fun h => ?_) (fun h => ?_)
    · refine z_rload_n dX1_groupUp_39 rfl 0 rfl ?_
      refine z_getR (q := 12659) ff_1_11 dX1_groupUp_40 kt_91 (Nat.le_of_ble_eq_true rfl) fl_X1_28 rfl (hs.1 _ _ sr_12659) ?_
      refine z_iload_n dX1_groupUp_43 rfl 2 rfl ?_
      refine z_iload_n dX1_groupUp_44 rfl 2 rfl ?_
      refine z_SE (i_popI hs) sk_J6_bitCount_0f7a4 ml_X1_142 ⟨Nat.le_of_ble_eq_true rfl, Nat.le_of_ble_eq_true rfl⟩ ⟨Nat.zero_le _, Nat.zero_le _⟩ rfl rfl (Nat.le_of_ble_eq_true rfl) dX1_groupUp_45 ?_
      refine z_iconst dX1_groupUp_48 ?_
      refine z_icmp_ne (tgt := 56) dX1_groupUp_49 (by decide) h (fun h => ?_) (fun h => ?_)
      · refine z_iconst dX1_groupUp_52 ?_
        refine z_goto (tgt := 61) dX1_groupUp_53 (by decide) ?_
        refine z_NM (i_X11_set kt_97 (Nat.le_of_ble_eq_true rfl)) ok_X11_set nw_X1_146 ⟨Nat.le_of_ble_eq_true rfl, Nat.le_of_ble_eq_true rfl⟩ ⟨Nat.zero_le _, Nat.zero_le _⟩ rfl rfl (Nat.le_of_ble_eq_true rfl) dX1_groupUp_61 ?_
        refine z_mm (fun μ_3 eμ_3 => ?_)
        replace h := h μ_3 eμ_3
        replace hs : StatR μ_3.2.2 := by rw [eμ_3]; exact (StatR.set hs)
        refine z_iinc (j := 2) (lv' := [(3, vi (v3 + 1)), (0, vr Γ 91), (2, vi a2)]) dX1_groupUp_64 rfl (Nat.le_of_ble_eq_true rfl) rfl ?_
        refine z_goto (tgt := 29) dX1_groupUp_67 (by decide) ?_
        refine z_sub (lv' := [(0, vr Γ 91), (2, vi a2), (3, vi (v3 + 1))]) [1, 2, 0] rfl ?_
        exact hR_29 (v3 + 1) μ_3 hs h
      · refine z_rload_n dX1_groupUp_56 rfl 0 rfl ?_
        refine z_iload_n dX1_groupUp_57 rfl 2 rfl ?_
        refine z_VI (i_Comp_compose  hs h) vk_X1_compose kt_91 (Nat.le_of_ble_eq_true rfl) rfl ml_X1_75 ⟨Nat.le_of_ble_eq_true rfl, Nat.le_of_ble_eq_true rfl⟩ ⟨Nat.zero_le _, Nat.zero_le _⟩ rfl rfl (Nat.le_of_ble_eq_true rfl) dX1_groupUp_58 (fun r58 μ_4 hs h => ?_)
        refine z_NM (i_X11_set kt_97 (Nat.le_of_ble_eq_true rfl)) ok_X11_set nw_X1_146 ⟨Nat.le_of_ble_eq_true rfl, Nat.le_of_ble_eq_true rfl⟩ ⟨Nat.zero_le _, Nat.zero_le _⟩ rfl rfl (Nat.le_of_ble_eq_true rfl) dX1_groupUp_61 ?_
        refine z_mm (fun μ_5 eμ_5 => ?_)
        replace h := h μ_5 eμ_5
        replace hs : StatR μ_5.2.2 := by rw [eμ_5]; exact (StatR.set hs)
        refine z_iinc (j := 2) (lv' := [(3, vi (v3 + 1)), (0, vr Γ 91), (2, vi a2)]) dX1_groupUp_64 rfl (Nat.le_of_ble_eq_true rfl) rfl ?_
        refine z_goto (tgt := 29) dX1_groupUp_67 (by decide) ?_
        refine z_sub (lv' := [(0, vr Γ 91), (2, vi a2), (3, vi (v3 + 1))]) [1, 2, 0] rfl ?_
        exact hR_29 (v3 + 1) μ_5 hs h
    · refine z_sub (lv' := [(0, vr Γ 91), (2, vi a2)]) [0, 1] rfl ?_
      exact hX_29_70 μ_2 hs h
theorem i_Comp_groupUp {l : Launch} {Γ : Gam} {g : Nat} {a1 : Int} {a2 : Int} {μ : Mem} {k : Int → Mem → Prop} (hs : StatR μ.2.2) (h : f_Comp_groupUp a1 a2 μ k) : CT l Γ yX1_groupUp cX1_groupUp 4 (some .int) 131 1045 0 0 [vr Γ 91, vi a1, vi a2] g 174 μ (pI k) := by
  refine SW.ct (by decide) (Nat.le_of_ble_eq_true rfl) ?_
  refine z_sub (lv' := [(0, vr Γ 91), (1, vi a1), (2, vi a2)]) [0, 1, 2] rfl ?_
  show SW l Γ yX1_groupUp.cls cX1_groupUp Y_Comp_groupUp (pI k) g 174 0 0 μ 0 [(0, vr Γ 91), (1, vi a1), (2, vi a2)] []
  unfold f_Comp_groupUp at h
  refine z_iload_n dX1_groupUp_0 rfl 2 rfl ?_
  refine z_iconst dX1_groupUp_1 ?_
  refine z_icmp_lt (tgt := 11) dX1_groupUp_2 (by decide) h (fun h => ?_) (fun h => ?_)
  · refine z_iconst dX1_groupUp_11 ?_
    exact z_iret rfl dX1_groupUp_12 rfl rfl rfl ⟨_, rfl, hs, h⟩
  · refine z_iload_n dX1_groupUp_5 rfl 2 rfl ?_
    refine z_bipush dX1_groupUp_6 (by decide) ?_
    refine z_icmp_le (tgt := 13) dX1_groupUp_8 (by decide) h (fun h => ?_) (fun h => ?_)
    · refine z_iconst dX1_groupUp_11 ?_
      exact z_iret rfl dX1_groupUp_12 rfl rfl rfl ⟨_, rfl, hs, h⟩
    · refine z_rload_n dX1_groupUp_13 rfl 0 rfl ?_
      refine z_iload_n dX1_groupUp_14 rfl 1 rfl ?_
      refine z_VU (i_Comp_choose  hs h) vk_X1_choose kt_91 (Nat.le_of_ble_eq_true rfl) rfl ml_X1_71 ⟨Nat.le_of_ble_eq_true rfl, Nat.le_of_ble_eq_true rfl⟩ ⟨Nat.zero_le _, Nat.zero_le _⟩ rfl rfl (Nat.le_of_ble_eq_true rfl) dX1_groupUp_15 (fun μ_1 hs h => ?_)
      refine z_rload_n dX1_groupUp_18 rfl 0 rfl ?_
      refine z_getI (q := 12654) ff_1_6 dX1_groupUp_19 kt_91 (Nat.le_of_ble_eq_true rfl) fl_X1_51 rfl ?_
      refine z_if_ne (tgt := 27) dX1_groupUp_22 (by decide) h (fun h => ?_) (fun h => ?_)
      · refine z_iconst dX1_groupUp_25 ?_
        exact z_iret rfl dX1_groupUp_26 rfl rfl rfl ⟨_, rfl, hs, h⟩
      · refine z_iconst dX1_groupUp_27 ?_
        refine z_istore_n (lv' := [(3, vi 1), (0, vr Γ 91), (1, vi a1), (2, vi a2)]) dX1_groupUp_28 rfl (Nat.le_of_ble_eq_true rfl) rfl ?_
        obtain ⟨m29, h⟩ := h
        refine z_sub (lv' := [(0, vr Γ 91), (2, vi a2), (3, vi 1)]) [1, 3, 0] rfl ?_
        refine L_Comp_groupUp_29 (fun μ_6 hs h => ?_) m29 1 μ_1 hs h
        refine z_rload_n dX1_groupUp_70 rfl 0 rfl ?_
        refine z_iload_n dX1_groupUp_71 rfl 1 rfl ?_
        refine z_putI (q := 12662) ff_1_14 (Or.inl rfl) rfl dX1_groupUp_72 kt_91 (Nat.le_of_ble_eq_true rfl) fl_X1_149 rfl ?_
        refine z_mm (fun μ_7 eμ_7 => ?_)
        replace h := h μ_7 eμ_7
        replace hs : StatR μ_7.2.2 := by rw [eμ_7]; exact hs
        refine z_rload_n dX1_groupUp_75 rfl 0 rfl ?_
        refine z_iconst dX1_groupUp_76 ?_
        refine z_putI (q := 12663) ff_1_15 (Or.inl rfl) rfl dX1_groupUp_77 kt_91 (Nat.le_of_ble_eq_true rfl) fl_X1_152 rfl ?_
        refine z_mm (fun μ_8 eμ_8 => ?_)
        replace h := h μ_8 eμ_8
        replace hs : StatR μ_8.2.2 := by rw [eμ_8]; exact hs
        refine z_rload_n dX1_groupUp_80 rfl 0 rfl ?_
        refine z_getR (q := 12660) ff_1_12 dX1_groupUp_81 kt_91 (Nat.le_of_ble_eq_true rfl) fl_X1_31 rfl (hs.1 _ _ sr_12660) ?_
        refine z_iconst dX1_groupUp_84 ?_
        refine z_NU (i_H_fill kt_98 (Nat.le_of_ble_eq_true rfl) hs h) sk_X11_fill nw_X1_155 ⟨Nat.le_of_ble_eq_true rfl, Nat.le_of_ble_eq_true rfl⟩ ⟨Nat.zero_le _, Nat.zero_le _⟩ rfl rfl (Nat.le_of_ble_eq_true rfl) dX1_groupUp_85 (fun μ_9 hs h => ?_)
        refine z_rload_n dX1_groupUp_88 rfl 0 rfl ?_
        refine z_iconst dX1_groupUp_89 ?_
        refine z_iconst dX1_groupUp_90 ?_
        refine z_VU (ok_Q 12 _ _ _ _ hs h) vk_X1_placeMotion kt_91 (Nat.le_of_ble_eq_true rfl) rfl ml_X1_159 ⟨Nat.le_of_ble_eq_true rfl, Nat.le_of_ble_eq_true rfl⟩ ⟨Nat.zero_le _, Nat.zero_le _⟩ rfl rfl (Nat.le_of_ble_eq_true rfl) dX1_groupUp_91 (fun μ_10 hs h => ?_)
        refine z_rload_n dX1_groupUp_94 rfl 0 rfl ?_
        refine z_getI (q := 12663) ff_1_15 dX1_groupUp_95 kt_91 (Nat.le_of_ble_eq_true rfl) fl_X1_152 rfl ?_
        exact z_iret rfl dX1_groupUp_98 rfl rfl rfl ⟨_, rfl, hs, h⟩
abbrev Y_H_group : Yt := (3, (some .int), yX11_group.name, { frames := 132, cells := 0, slots := 0, locals := 1068 }, 174, 0, 0)
def f_H_group (a1 : Int) (a2 : Int) (μ : Mem) (k : Int → Mem → Prop) : Prop := f_Comp_groupUp a1 a2 μ (fun r6 μ_1 => k r6 μ_1)
theorem i_H_group {l : Launch} {Γ : Gam} {g : Nat} {a1 : Int} {a2 : Int} {μ : Mem} {k : Int → Mem → Prop} (hs : StatR μ.2.2) (h : f_H_group a1 a2 μ k) : CT l Γ yX11_group cX11_group 3 (some .int) 132 1068 0 0 [vr Γ 0, vi a1, vi a2] g 174 μ (pI k) := by
  refine SW.ct (by decide) (Nat.le_of_ble_eq_true rfl) ?_
  refine z_sub (lv' := [(0, vr Γ 0), (1, vi a1), (2, vi a2)]) [0, 1, 2] rfl ?_
  show SW l Γ yX11_group.cls cX11_group Y_H_group (pI k) g 174 0 0 μ 0 [(0, vr Γ 0), (1, vi a1), (2, vi a2)] []
  unfold f_H_group at h
  refine z_rload_n dX11_group_0 rfl 0 rfl ?_
  refine z_getR (q := 1008) ff_11_8 dX11_group_1 kt_0 (Nat.le_of_ble_eq_true rfl) fl_X11_84 rfl (hs.1 _ _ sr_1008) ?_
  refine z_iload_n dX11_group_4 rfl 1 rfl ?_
  refine z_iload_n dX11_group_5 rfl 2 rfl ?_
  refine z_VI (i_Comp_groupUp  hs h) vk_X1_groupUp kt_91 (Nat.le_of_ble_eq_true rfl) rfl ml_X11_321 ⟨Nat.le_of_ble_eq_true rfl, Nat.le_of_ble_eq_true rfl⟩ ⟨Nat.zero_le _, Nat.zero_le _⟩ rfl rfl (Nat.le_of_ble_eq_true rfl) dX11_group_6 (fun r6 μ_1 hs h => ?_)
  exact z_iret rfl dX11_group_9 rfl rfl rfl ⟨_, rfl, hs, h⟩
abbrev Y_Comp_groupOf : Yt := (4, (some .int), yX1_groupOf.name, { frames := 1, cells := 0, slots := 0, locals := 21 }, 174, 0, 0)
def l_Comp_groupOf_12 (a1 : Int) (μ : Mem) (v2 : Int) (X_12_55 : Prop) (k : Int → Mem → Prop) : Nat → Int → Prop
  | 0, _ => False
  | fu12 + 1, v3 => if w v3 < w (rI μ 12654 0) then (if w (at' μ 92 8 v3) = w a1 then (if w (w_iand (w_iushr (at' μ 99 9 v2) v3) 1) = 0 then ((l_Comp_groupOf_12 a1 μ v2 X_12_55 k fu12) (v3 + 1)) else (k v2 μ)) else ((l_Comp_groupOf_12 a1 μ v2 X_12_55 k fu12) (v3 + 1))) else X_12_55
def l_Comp_groupOf_2 (a1 : Int) (μ : Mem) (k : Int → Mem → Prop) : Nat → Int → Prop
  | 0, _ => False
  | fu2 + 1, v2 => if w v2 < w (rI μ 12664 0) then (∃ m12 : Nat, l_Comp_groupOf_12 a1 μ v2 ((l_Comp_groupOf_2 a1 μ k fu2) (v2 + 1)) k m12 0) else (k (-1) μ)
def f_Comp_groupOf (a1 : Int) (μ : Mem) (k : Int → Mem → Prop) : Prop := ∃ m2 : Nat, l_Comp_groupOf_2 a1 μ k m2 0
theorem L_Comp_groupOf_12 {l : Launch} {Γ : Gam} {g : Nat} {a1 : Int} {μ : Mem} {v2 : Int} {X_12_55 : Prop} {k : Int → Mem → Prop} (hs : StatR μ.2.2) (hX_12_55 : X_12_55 → SW l Γ yX1_groupOf.cls cX1_groupOf Y_Comp_groupOf (pI k) g 174 0 0 μ 55 [(0, vr Γ 91), (1, vi a1), (2, vi v2)] []) (n9 : Nat) : ∀ (v3 : Int), l_Comp_groupOf_12 a1 μ v2 X_12_55 k n9 v3 → SW l Γ yX1_groupOf.cls cX1_groupOf Y_Comp_groupOf (pI k) g 174 0 0 μ 12 [(0, vr Γ 91), (1, vi a1), (2, vi v2), (3, vi v3)] [] := by
  induction n9 with
  | zero =>
    intro v3 h
    exact h.elim
  | succ n9 hR_12 =>
    intro v3 h
    rw [l_Comp_groupOf_12] at h
    refine z_iload_n dX1_groupOf_12 rfl 3 rfl ?_
    refine z_rload_n dX1_groupOf_13 rfl 0 rfl ?_
    refine z_getI (q := 12654) ff_1_6 dX1_groupOf_14 kt_91 (Nat.le_of_ble_eq_true rfl) fl_X1_51 rfl ?_
    refine z_icmp_ge (tgt := 55) dX1_groupOf_17 (by decide) h (fun h => ?_) (fun h => ?_)
    · refine z_rload_n dX1_groupOf_20 rfl 0 rfl ?_
      refine z_getR (q := 12650) ff_1_2 dX1_groupOf_21 kt_91 (Nat.le_of_ble_eq_true rfl) fl_X1_9 rfl (hs.1 _ _ sr_12650) ?_
      refine z_iload_n dX1_groupOf_24 rfl 3 rfl ?_
      refine z_NE (i_X11_at kt_92 (Nat.le_of_ble_eq_true rfl)) ok_X11_at nw_X1_55 ⟨Nat.le_of_ble_eq_true rfl, Nat.le_of_ble_eq_true rfl⟩ ⟨Nat.zero_le _, Nat.zero_le _⟩ rfl rfl (Nat.le_of_ble_eq_true rfl) dX1_groupOf_25 ?_
      refine z_iload_n dX1_groupOf_28 rfl 1 rfl ?_
      refine z_icmp_ne (tgt := 49) dX1_groupOf_29 (by decide) h (fun h => ?_) (fun h => ?_)
      · refine z_rload_n dX1_groupOf_32 rfl 0 rfl ?_
        refine z_getR (q := 12661) ff_1_13 dX1_groupOf_33 kt_91 (Nat.le_of_ble_eq_true rfl) fl_X1_34 rfl (hs.1 _ _ sr_12661) ?_
        refine z_iload_n dX1_groupOf_36 rfl 2 rfl ?_
        refine z_NE (i_X11_at kt_99 (Nat.le_of_ble_eq_true rfl)) ok_X11_at nw_X1_55 ⟨Nat.le_of_ble_eq_true rfl, Nat.le_of_ble_eq_true rfl⟩ ⟨Nat.zero_le _, Nat.zero_le _⟩ rfl rfl (Nat.le_of_ble_eq_true rfl) dX1_groupOf_37 ?_
        refine z_iload_n dX1_groupOf_40 rfl 3 rfl ?_
        refine z_iushr dX1_groupOf_41 ?_
        refine z_iconst dX1_groupOf_42 ?_
        refine z_iand dX1_groupOf_43 ?_
        refine z_if_eq (tgt := 49) dX1_groupOf_44 (by decide) h (fun h => ?_) (fun h => ?_)
        · refine z_iinc (j := 3) (lv' := [(3, vi (v3 + 1)), (0, vr Γ 91), (1, vi a1), (2, vi v2)]) dX1_groupOf_49 rfl (Nat.le_of_ble_eq_true rfl) rfl ?_
          refine z_goto (tgt := 12) dX1_groupOf_52 (by decide) ?_
          refine z_sub (lv' := [(0, vr Γ 91), (1, vi a1), (2, vi v2), (3, vi (v3 + 1))]) [1, 2, 3, 0] rfl ?_
          exact hR_12 (v3 + 1) h
        · refine z_iload_n dX1_groupOf_47 rfl 2 rfl ?_
          exact z_iret rfl dX1_groupOf_48 rfl rfl rfl ⟨_, rfl, hs, h⟩
      · refine z_iinc (j := 3) (lv' := [(3, vi (v3 + 1)), (0, vr Γ 91), (1, vi a1), (2, vi v2)]) dX1_groupOf_49 rfl (Nat.le_of_ble_eq_true rfl) rfl ?_
        refine z_goto (tgt := 12) dX1_groupOf_52 (by decide) ?_
        refine z_sub (lv' := [(0, vr Γ 91), (1, vi a1), (2, vi v2), (3, vi (v3 + 1))]) [1, 2, 3, 0] rfl ?_
        exact hR_12 (v3 + 1) h
    · refine z_sub (lv' := [(0, vr Γ 91), (1, vi a1), (2, vi v2)]) [0, 1, 2] rfl ?_
      exact hX_12_55 h
theorem L_Comp_groupOf_2 {l : Launch} {Γ : Gam} {g : Nat} {a1 : Int} {μ : Mem} {k : Int → Mem → Prop} (hs : StatR μ.2.2) (n9 : Nat) : ∀ (v2 : Int), l_Comp_groupOf_2 a1 μ k n9 v2 → SW l Γ yX1_groupOf.cls cX1_groupOf Y_Comp_groupOf (pI k) g 174 0 0 μ 2 [(0, vr Γ 91), (1, vi a1), (2, vi v2)] [] := by
  induction n9 with
  | zero =>
    intro v2 h
    exact h.elim
  | succ n9 hR_2 =>
    intro v2 h
    rw [l_Comp_groupOf_2] at h
    refine z_iload_n dX1_groupOf_2 rfl 2 rfl ?_
    refine z_rload_n dX1_groupOf_3 rfl 0 rfl ?_
    refine z_getI (q := 12664) ff_1_16 dX1_groupOf_4 kt_91 (Nat.le_of_ble_eq_true rfl) fl_X1_165 rfl ?_
    refine z_icmp_ge (tgt := 61) dX1_groupOf_7 (by decide) h (fun h => ?_) (fun h => ?_)
    · refine z_iconst dX1_groupOf_10 ?_
      refine z_istore_n (lv' := [(3, vi 0), (0, vr Γ 91), (1, vi a1), (2, vi v2)]) dX1_groupOf_11 rfl (Nat.le_of_ble_eq_true rfl) rfl ?_
      obtain ⟨m12, h⟩ := h
      refine z_sub (lv' := [(0, vr Γ 91), (1, vi a1), (2, vi v2), (3, vi 0)]) [1, 2, 3, 0] rfl ?_
      refine L_Comp_groupOf_12 hs (fun h => ?_) m12 0 h
      refine z_iinc (j := 2) (lv' := [(2, vi (v2 + 1)), (0, vr Γ 91), (1, vi a1)]) dX1_groupOf_55 rfl (Nat.le_of_ble_eq_true rfl) rfl ?_
      refine z_goto (tgt := 2) dX1_groupOf_58 (by decide) ?_
      refine z_sub (lv' := [(0, vr Γ 91), (1, vi a1), (2, vi (v2 + 1))]) [1, 2, 0] rfl ?_
      exact hR_2 (v2 + 1) h
    · refine z_iconst dX1_groupOf_61 ?_
      exact z_iret rfl dX1_groupOf_62 rfl rfl rfl ⟨_, rfl, hs, h⟩
theorem i_Comp_groupOf {l : Launch} {Γ : Gam} {g : Nat} {a1 : Int} {μ : Mem} {k : Int → Mem → Prop} (hs : StatR μ.2.2) (h : f_Comp_groupOf a1 μ k) : CT l Γ yX1_groupOf cX1_groupOf 4 (some .int) 1 21 0 0 [vr Γ 91, vi a1] g 174 μ (pI k) := by
  refine SW.ct (by decide) (Nat.le_of_ble_eq_true rfl) ?_
  refine z_sub (lv' := [(0, vr Γ 91), (1, vi a1)]) [0, 1] rfl ?_
  show SW l Γ yX1_groupOf.cls cX1_groupOf Y_Comp_groupOf (pI k) g 174 0 0 μ 0 [(0, vr Γ 91), (1, vi a1)] []
  unfold f_Comp_groupOf at h
  refine z_iconst dX1_groupOf_0 ?_
  refine z_istore_n (lv' := [(2, vi 0), (0, vr Γ 91), (1, vi a1)]) dX1_groupOf_1 rfl (Nat.le_of_ble_eq_true rfl) rfl ?_
  obtain ⟨m2, h⟩ := h
  refine z_sub (lv' := [(0, vr Γ 91), (1, vi a1), (2, vi 0)]) [1, 2, 0] rfl ?_
  refine L_Comp_groupOf_2 hs  m2 0 h
abbrev Y_H_grouped : Yt := (4, (some .int), yX11_grouped.name, { frames := 132, cells := 0, slots := 0, locals := 1068 }, 174, 0, 0)
def f_H_grouped (a1 : Int) (a2 : Int) (a3 : Int) (μ : Mem) (k : Int → Mem → Prop) : Prop := f_Comp_groupUp a1 a2 μ (fun r6 μ_1 => if w r6 = w (-1) then (k (-1) μ_1) else (f_Comp_groupOf a3 μ_1 (fun r22 μ_2 => k r22 μ_2)))
theorem i_H_grouped {l : Launch} {Γ : Gam} {g : Nat} {a1 : Int} {a2 : Int} {a3 : Int} {μ : Mem} {k : Int → Mem → Prop} (hs : StatR μ.2.2) (h : f_H_grouped a1 a2 a3 μ k) : CT l Γ yX11_grouped cX11_grouped 4 (some .int) 132 1068 0 0 [vr Γ 0, vi a1, vi a2, vi a3] g 174 μ (pI k) := by
  refine SW.ct (by decide) (Nat.le_of_ble_eq_true rfl) ?_
  refine z_sub (lv' := [(0, vr Γ 0), (1, vi a1), (2, vi a2), (3, vi a3)]) [0, 1, 2, 3] rfl ?_
  show SW l Γ yX11_grouped.cls cX11_grouped Y_H_grouped (pI k) g 174 0 0 μ 0 [(0, vr Γ 0), (1, vi a1), (2, vi a2), (3, vi a3)] []
  unfold f_H_grouped at h
  refine z_rload_n dX11_grouped_0 rfl 0 rfl ?_
  refine z_getR (q := 1008) ff_11_8 dX11_grouped_1 kt_0 (Nat.le_of_ble_eq_true rfl) fl_X11_84 rfl (hs.1 _ _ sr_1008) ?_
  refine z_iload_n dX11_grouped_4 rfl 1 rfl ?_
  refine z_iload_n dX11_grouped_5 rfl 2 rfl ?_
  refine z_VI (i_Comp_groupUp  hs h) vk_X1_groupUp kt_91 (Nat.le_of_ble_eq_true rfl) rfl ml_X11_321 ⟨Nat.le_of_ble_eq_true rfl, Nat.le_of_ble_eq_true rfl⟩ ⟨Nat.zero_le _, Nat.zero_le _⟩ rfl rfl (Nat.le_of_ble_eq_true rfl) dX11_grouped_6 (fun r6 μ_1 hs h => ?_)
  refine z_iconst dX11_grouped_9 ?_
  refine z_icmp_ne (tgt := 17) dX11_grouped_10 (by decide) h (fun h => ?_) (fun h => ?_)
  · refine z_iconst dX11_grouped_13 ?_
    refine z_goto (tgt := 25) dX11_grouped_14 (by decide) ?_
    exact z_iret rfl dX11_grouped_25 rfl rfl rfl ⟨_, rfl, hs, h⟩
  · refine z_rload_n dX11_grouped_17 rfl 0 rfl ?_
    refine z_getR (q := 1008) ff_11_8 dX11_grouped_18 kt_0 (Nat.le_of_ble_eq_true rfl) fl_X11_84 rfl (hs.1 _ _ sr_1008) ?_
    refine z_iload_n dX11_grouped_21 rfl 3 rfl ?_
    refine z_VI (i_Comp_groupOf  hs h) vk_X1_groupOf kt_91 (Nat.le_of_ble_eq_true rfl) rfl ml_X11_324 ⟨Nat.le_of_ble_eq_true rfl, Nat.le_of_ble_eq_true rfl⟩ ⟨Nat.zero_le _, Nat.zero_le _⟩ rfl rfl (Nat.le_of_ble_eq_true rfl) dX11_grouped_22 (fun r22 μ_2 hs h => ?_)
    exact z_iret rfl dX11_grouped_25 rfl rfl rfl ⟨_, rfl, hs, h⟩
abbrev Y_Count_sumUpBranches : Yt := (2, none, yX2_sumUpBranches.name, { frames := 2, cells := 0, slots := 0, locals := 42 }, 174, 0, 0)
def l_Count_sumUpBranches_6 (X_6_57 : Mem → Prop) : Nat → Int → Mem → Prop
  | 0, _, _ => False
  | fu6 + 1, v1, μ_2 => if w v1 < w (rI μ_2 1137 0) then (f_Count_add (at' μ_2 2 12 (at' μ_2 3 48 v1)) (at' μ_2 77 48 v1) 1 μ_2 (fun μ_3 => (l_Count_sumUpBranches_6 X_6_57 fu6) (v1 + 1) μ_3)) else (X_6_57 μ_2)
def f_Count_sumUpBranches  (μ : Mem) (k : Mem → Prop) : Prop := f_Count_beginSum  μ (fun μ_1 => ∃ m6 : Nat, l_Count_sumUpBranches_6 (fun (μ_4 : Mem) => f_Count_endSum  μ_4 (fun μ_5 => k μ_5)) m6 0 μ_1)
theorem L_Count_sumUpBranches_6 {l : Launch} {Γ : Gam} {g : Nat} {X_6_57 : Mem → Prop} {k : Mem → Prop} (hX_6_57 : ∀ (ν : Mem), StatR ν.2.2 → X_6_57 ν → SW l Γ yX2_sumUpBranches.cls cX2_sumUpBranches Y_Count_sumUpBranches (pV k) g 174 0 0 ν 57 [(0, vr Γ 73)] []) (n9 : Nat) : ∀ (v1 : Int) (μ_2 : Mem), StatR μ_2.2.2 → l_Count_sumUpBranches_6 X_6_57 n9 v1 μ_2 → SW l Γ yX2_sumUpBranches.cls cX2_sumUpBranches Y_Count_sumUpBranches (pV k) g 174 0 0 μ_2 6 [(0, vr Γ 73), (1, vi v1)] [] := by
  induction n9 with
  | zero =>
    intro v1 μ_2 hs h
    exact h.elim
  | succ n9 hR_6 =>
    intro v1 μ_2 hs h
    rw [l_Count_sumUpBranches_6] at h
    refine z_iload_n dX2_sumUpBranches_6 rfl 1 rfl ?_
    refine z_rload_n dX2_sumUpBranches_7 rfl 0 rfl ?_
    refine z_getR (q := 10344) ff_2_0 dX2_sumUpBranches_8 kt_73 (Nat.le_of_ble_eq_true rfl) fl_X2_42 rfl (hs.1 _ _ sr_10344) ?_
    refine z_getI (q := 1137) ff_7_9 dX2_sumUpBranches_11 kt_1 (Nat.le_of_ble_eq_true rfl) fl_X2_90 rfl ?_
    refine z_icmp_ge (tgt := 57) dX2_sumUpBranches_14 (by decide) h (fun h => ?_) (fun h => ?_)
    · refine z_rload_n dX2_sumUpBranches_17 rfl 0 rfl ?_
      refine z_rload_n dX2_sumUpBranches_18 rfl 0 rfl ?_
      refine z_getR (q := 10344) ff_2_0 dX2_sumUpBranches_19 kt_73 (Nat.le_of_ble_eq_true rfl) fl_X2_42 rfl (hs.1 _ _ sr_10344) ?_
      refine z_getR (q := 1128) ff_7_0 dX2_sumUpBranches_22 kt_1 (Nat.le_of_ble_eq_true rfl) fl_X2_124 rfl (hs.1 _ _ sr_1128) ?_
      refine z_rload_n dX2_sumUpBranches_25 rfl 0 rfl ?_
      refine z_getR (q := 10344) ff_2_0 dX2_sumUpBranches_26 kt_73 (Nat.le_of_ble_eq_true rfl) fl_X2_42 rfl (hs.1 _ _ sr_10344) ?_
      refine z_getR (q := 1129) ff_7_1 dX2_sumUpBranches_29 kt_1 (Nat.le_of_ble_eq_true rfl) fl_X2_93 rfl (hs.1 _ _ sr_1129) ?_
      refine z_iload_n dX2_sumUpBranches_32 rfl 1 rfl ?_
      refine z_NE (i_X11_at kt_3 (Nat.le_of_ble_eq_true rfl)) ok_X11_at nw_X2_59 ⟨Nat.le_of_ble_eq_true rfl, Nat.le_of_ble_eq_true rfl⟩ ⟨Nat.zero_le _, Nat.zero_le _⟩ rfl rfl (Nat.le_of_ble_eq_true rfl) dX2_sumUpBranches_33 ?_
      refine z_NE (i_X11_at kt_2 (Nat.le_of_ble_eq_true rfl)) ok_X11_at nw_X2_59 ⟨Nat.le_of_ble_eq_true rfl, Nat.le_of_ble_eq_true rfl⟩ ⟨Nat.zero_le _, Nat.zero_le _⟩ rfl rfl (Nat.le_of_ble_eq_true rfl) dX2_sumUpBranches_36 ?_
      refine z_rload_n dX2_sumUpBranches_39 rfl 0 rfl ?_
      refine z_getR (q := 10348) ff_2_4 dX2_sumUpBranches_40 kt_73 (Nat.le_of_ble_eq_true rfl) fl_X2_21 rfl (hs.1 _ _ sr_10348) ?_
      refine z_iload_n dX2_sumUpBranches_43 rfl 1 rfl ?_
      refine z_NE (i_X11_at kt_77 (Nat.le_of_ble_eq_true rfl)) ok_X11_at nw_X2_59 ⟨Nat.le_of_ble_eq_true rfl, Nat.le_of_ble_eq_true rfl⟩ ⟨Nat.zero_le _, Nat.zero_le _⟩ rfl rfl (Nat.le_of_ble_eq_true rfl) dX2_sumUpBranches_44 ?_
      refine z_iconst dX2_sumUpBranches_47 ?_
      refine z_VU (i_Count_add  hs h) vk_X2_add kt_73 (Nat.le_of_ble_eq_true rfl) rfl ml_X2_140 ⟨Nat.le_of_ble_eq_true rfl, Nat.le_of_ble_eq_true rfl⟩ ⟨Nat.zero_le _, Nat.zero_le _⟩ rfl rfl (Nat.le_of_ble_eq_true rfl) dX2_sumUpBranches_48 (fun μ_3 hs h => ?_)
      refine z_iinc (j := 1) (lv' := [(1, vi (v1 + 1)), (0, vr Γ 73)]) dX2_sumUpBranches_51 rfl (Nat.le_of_ble_eq_true rfl) rfl ?_
      refine z_goto (tgt := 6) dX2_sumUpBranches_54 (by decide) ?_
      refine z_sub (lv' := [(0, vr Γ 73), (1, vi (v1 + 1))]) [1, 0] rfl ?_
      exact hR_6 (v1 + 1) μ_3 hs h
    · refine z_sub (lv' := [(0, vr Γ 73)]) [0] rfl ?_
      exact hX_6_57 μ_2 hs h
theorem i_Count_sumUpBranches {l : Launch} {Γ : Gam} {g : Nat} {μ : Mem} {k : Mem → Prop} (hs : StatR μ.2.2) (h : f_Count_sumUpBranches  μ k) : CT l Γ yX2_sumUpBranches cX2_sumUpBranches 2 none 2 42 0 0 [vr Γ 73] g 174 μ (pV k) := by
  refine SW.ct (by decide) (Nat.le_of_ble_eq_true rfl) ?_
  refine z_sub (lv' := [(0, vr Γ 73)]) [0] rfl ?_
  show SW l Γ yX2_sumUpBranches.cls cX2_sumUpBranches Y_Count_sumUpBranches (pV k) g 174 0 0 μ 0 [(0, vr Γ 73)] []
  unfold f_Count_sumUpBranches at h
  refine z_rload_n dX2_sumUpBranches_0 rfl 0 rfl ?_
  refine z_VU (i_Count_beginSum  hs h) vk_X2_beginSum kt_73 (Nat.le_of_ble_eq_true rfl) rfl ml_X2_137 ⟨Nat.le_of_ble_eq_true rfl, Nat.le_of_ble_eq_true rfl⟩ ⟨Nat.zero_le _, Nat.zero_le _⟩ rfl rfl (Nat.le_of_ble_eq_true rfl) dX2_sumUpBranches_1 (fun μ_1 hs h => ?_)
  refine z_iconst dX2_sumUpBranches_4 ?_
  refine z_istore_n (lv' := [(1, vi 0), (0, vr Γ 73)]) dX2_sumUpBranches_5 rfl (Nat.le_of_ble_eq_true rfl) rfl ?_
  obtain ⟨m6, h⟩ := h
  refine z_sub (lv' := [(0, vr Γ 73), (1, vi 0)]) [1, 0] rfl ?_
  refine L_Count_sumUpBranches_6 (fun μ_4 hs h => ?_) m6 0 μ_1 hs h
  refine z_rload_n dX2_sumUpBranches_57 rfl 0 rfl ?_
  refine z_VU (i_Count_endSum  hs h) vk_X2_endSum kt_73 (Nat.le_of_ble_eq_true rfl) rfl ml_X2_144 ⟨Nat.le_of_ble_eq_true rfl, Nat.le_of_ble_eq_true rfl⟩ ⟨Nat.zero_le _, Nat.zero_le _⟩ rfl rfl (Nat.le_of_ble_eq_true rfl) dX2_sumUpBranches_58 (fun μ_5 hs h => ?_)
  exact z_vret rfl dX2_sumUpBranches_61 rfl rfl rfl ⟨rfl, hs, h⟩
abbrev Y_Chair_wouldPass : Yt := (4, (some .boolean), yX0_wouldPass.name, { frames := 4, cells := 0, slots := 0, locals := 98 }, 174, 0, 0)
def f_Chair_wouldPass (a1 : Int) (a2 : Int) (μ : Mem) (k : Bool → Mem → Prop) : Prop := f_Papers_inForce (rI μ 9584 0) μ (fun r11 μ_1 => isRu r11 = true ∧ f_Count_take a1 (rI μ_1 1139 0) μ_1 (fun μ_2 => if w a2 = w 3 then (f_Count_sumUpBranches  μ_2 (fun μ_3 => f_Floor_against a1 μ_3 (fun r76 μ_4 => f_Count_passes r11 (v_H_kindOf a1) r76 (rI μ_4 1139 0) μ_4 (fun r86 μ_5 => k r86 μ_5)))) else (f_Count_weigh r11 a2 μ_2 (fun μ_6 => f_Count_sumUp (-1) μ_6 (fun μ_7 => f_Floor_against a1 μ_7 (fun r76_1 μ_8 => f_Count_passes r11 (v_H_kindOf a1) r76_1 (rI μ_8 1139 0) μ_8 (fun r86_1 μ_9 => k r86_1 μ_9)))))))
theorem i_Chair_wouldPass {l : Launch} {Γ : Gam} {g : Nat} {a1 : Int} {a2 : Int} {μ : Mem} {k : Bool → Mem → Prop} (hs : StatR μ.2.2) (h : f_Chair_wouldPass a1 a2 μ k) : CT l Γ yX0_wouldPass cX0_wouldPass 4 (some .boolean) 4 98 0 0 [vr Γ 83, vi a1, vi a2] g 174 μ (pB k) := by
  refine SW.ct (by decide) (Nat.le_of_ble_eq_true rfl) ?_
  refine z_sub (lv' := [(0, vr Γ 83), (1, vi a1), (2, vi a2)]) [0, 1, 2] rfl ?_
  show SW l Γ yX0_wouldPass.cls cX0_wouldPass Y_Chair_wouldPass (pB k) g 174 0 0 μ 0 [(0, vr Γ 83), (1, vi a1), (2, vi a2)] []
  unfold f_Chair_wouldPass at h
  refine z_rload_n dX0_wouldPass_0 rfl 0 rfl ?_
  refine z_getR (q := 11625) ff_0_1 dX0_wouldPass_1 kt_83 (Nat.le_of_ble_eq_true rfl) fl_X0_19 rfl (hs.1 _ _ sr_11625) ?_
  refine z_rload_n dX0_wouldPass_4 rfl 0 rfl ?_
  refine z_getR (q := 11626) ff_0_2 dX0_wouldPass_5 kt_83 (Nat.le_of_ble_eq_true rfl) fl_X0_23 rfl (hs.1 _ _ sr_11626) ?_
  refine z_getI (q := 9584) ff_3_8 dX0_wouldPass_8 kt_67 (Nat.le_of_ble_eq_true rfl) fl_X0_87 rfl ?_
  refine z_VA (i_Papers_inForce  hs h) vk_X6_inForce kt_12 (Nat.le_of_ble_eq_true rfl) rfl ml_X0_90 ⟨Nat.le_of_ble_eq_true rfl, Nat.le_of_ble_eq_true rfl⟩ ⟨Nat.zero_le _, Nat.zero_le _⟩ rfl rfl (Nat.le_of_ble_eq_true rfl) dX0_wouldPass_11 (fun r11 μ_1 hs h => ?_)
  obtain ⟨hr_r11, h⟩ := h
  refine z_rstore_n (lv' := [(3, vr Γ r11), (0, vr Γ 83), (1, vi a1), (2, vi a2)]) dX0_wouldPass_14 rfl (Nat.le_of_ble_eq_true rfl) rfl ?_
  refine z_rload_n dX0_wouldPass_15 rfl 1 rfl ?_
  refine z_getR (q := 11628) ff_0_4 dX0_wouldPass_16 kt_83 (Nat.le_of_ble_eq_true rfl) fl_X0_27 rfl (hs.1 _ _ sr_11628) ?_
  refine z_iload_n dX0_wouldPass_19 rfl 2 rfl ?_
  refine z_rload_n dX0_wouldPass_20 rfl 1 rfl ?_
  refine z_getR (q := 11624) ff_0_0 dX0_wouldPass_21 kt_83 (Nat.le_of_ble_eq_true rfl) fl_X0_15 rfl (hs.1 _ _ sr_11624) ?_
  refine z_getI (q := 1139) ff_7_11 dX0_wouldPass_24 kt_1 (Nat.le_of_ble_eq_true rfl) fl_X0_62 rfl ?_
  refine z_VU (i_Count_take  hs h) vk_X2_take kt_73 (Nat.le_of_ble_eq_true rfl) rfl ml_X0_78 ⟨Nat.le_of_ble_eq_true rfl, Nat.le_of_ble_eq_true rfl⟩ ⟨Nat.zero_le _, Nat.zero_le _⟩ rfl rfl (Nat.le_of_ble_eq_true rfl) dX0_wouldPass_27 (fun μ_2 hs h => ?_)
  refine z_iload_n dX0_wouldPass_30 rfl 3 rfl ?_
  refine z_iconst dX0_wouldPass_31 ?_
  refine z_icmp_ne (tgt := 45) dX0_wouldPass_32 (by decide) h (fun h => ?_) (fun h => ?_)
  · refine z_rload_n dX0_wouldPass_35 rfl 1 rfl ?_
    refine z_getR (q := 11628) ff_0_4 dX0_wouldPass_36 kt_83 (Nat.le_of_ble_eq_true rfl) fl_X0_27 rfl (hs.1 _ _ sr_11628) ?_
    refine z_VU (i_Count_sumUpBranches  hs h) vk_X2_sumUpBranches kt_73 (Nat.le_of_ble_eq_true rfl) rfl ml_X0_158 ⟨Nat.le_of_ble_eq_true rfl, Nat.le_of_ble_eq_true rfl⟩ ⟨Nat.zero_le _, Nat.zero_le _⟩ rfl rfl (Nat.le_of_ble_eq_true rfl) dX0_wouldPass_39 (fun μ_3 hs h => ?_)
    refine z_goto (tgt := 62) dX0_wouldPass_42 (by decide) ?_
    refine z_rload_n dX0_wouldPass_62 rfl 1 rfl ?_
    refine z_getR (q := 11628) ff_0_4 dX0_wouldPass_63 kt_83 (Nat.le_of_ble_eq_true rfl) fl_X0_27 rfl (hs.1 _ _ sr_11628) ?_
    refine z_rload_n dX0_wouldPass_66 rfl 0 rfl ?_
    refine z_iload_n dX0_wouldPass_67 rfl 2 rfl ?_
    refine z_NE (i_H_kindOf ) sk_X11_kindOf nw_X0_107 ⟨Nat.le_of_ble_eq_true rfl, Nat.le_of_ble_eq_true rfl⟩ ⟨Nat.zero_le _, Nat.zero_le _⟩ rfl rfl (Nat.le_of_ble_eq_true rfl) dX0_wouldPass_68 ?_
    refine z_rload_n dX0_wouldPass_71 rfl 1 rfl ?_
    refine z_getR (q := 11626) ff_0_2 dX0_wouldPass_72 kt_83 (Nat.le_of_ble_eq_true rfl) fl_X0_23 rfl (hs.1 _ _ sr_11626) ?_
    refine z_iload_n dX0_wouldPass_75 rfl 2 rfl ?_
    refine z_VI (i_Floor_against  hs h) vk_X3_against kt_67 (Nat.le_of_ble_eq_true rfl) rfl ml_X0_110 ⟨Nat.le_of_ble_eq_true rfl, Nat.le_of_ble_eq_true rfl⟩ ⟨Nat.zero_le _, Nat.zero_le _⟩ rfl rfl (Nat.le_of_ble_eq_true rfl) dX0_wouldPass_76 (fun r76 μ_4 hs h => ?_)
    refine z_rload_n dX0_wouldPass_79 rfl 1 rfl ?_
    refine z_getR (q := 11624) ff_0_0 dX0_wouldPass_80 kt_83 (Nat.le_of_ble_eq_true rfl) fl_X0_15 rfl (hs.1 _ _ sr_11624) ?_
    refine z_getI (q := 1139) ff_7_11 dX0_wouldPass_83 kt_1 (Nat.le_of_ble_eq_true rfl) fl_X0_62 rfl ?_
    refine z_VB (i_Count_passes hr_r11 hs h) vk_X2_passes kt_73 (Nat.le_of_ble_eq_true rfl) rfl ml_X0_113 ⟨Nat.le_of_ble_eq_true rfl, Nat.le_of_ble_eq_true rfl⟩ ⟨Nat.zero_le _, Nat.zero_le _⟩ rfl rfl (Nat.le_of_ble_eq_true rfl) dX0_wouldPass_86 (fun r86 μ_5 hs h => ?_)
    exact z_zret (b := r86) rfl dX0_wouldPass_89 rfl rfl rfl ⟨_, rfl, hs, h⟩
  · refine z_rload_n dX0_wouldPass_45 rfl 1 rfl ?_
    refine z_getR (q := 11628) ff_0_4 dX0_wouldPass_46 kt_83 (Nat.le_of_ble_eq_true rfl) fl_X0_27 rfl (hs.1 _ _ sr_11628) ?_
    refine z_rload_n dX0_wouldPass_49 rfl 0 rfl ?_
    refine z_iload_n dX0_wouldPass_50 rfl 3 rfl ?_
    refine z_VU (i_Count_weigh hr_r11 hs h) vk_X2_weigh kt_73 (Nat.le_of_ble_eq_true rfl) rfl ml_X0_96 ⟨Nat.le_of_ble_eq_true rfl, Nat.le_of_ble_eq_true rfl⟩ ⟨Nat.zero_le _, Nat.zero_le _⟩ rfl rfl (Nat.le_of_ble_eq_true rfl) dX0_wouldPass_51 (fun μ_6 hs h => ?_)
    refine z_rload_n dX0_wouldPass_54 rfl 1 rfl ?_
    refine z_getR (q := 11628) ff_0_4 dX0_wouldPass_55 kt_83 (Nat.le_of_ble_eq_true rfl) fl_X0_27 rfl (hs.1 _ _ sr_11628) ?_
    refine z_iconst dX0_wouldPass_58 ?_
    refine z_VU (i_Count_sumUp  hs h) vk_X2_sumUp kt_73 (Nat.le_of_ble_eq_true rfl) rfl ml_X0_104 ⟨Nat.le_of_ble_eq_true rfl, Nat.le_of_ble_eq_true rfl⟩ ⟨Nat.zero_le _, Nat.zero_le _⟩ rfl rfl (Nat.le_of_ble_eq_true rfl) dX0_wouldPass_59 (fun μ_7 hs h => ?_)
    refine z_rload_n dX0_wouldPass_62 rfl 1 rfl ?_
    refine z_getR (q := 11628) ff_0_4 dX0_wouldPass_63 kt_83 (Nat.le_of_ble_eq_true rfl) fl_X0_27 rfl (hs.1 _ _ sr_11628) ?_
    refine z_rload_n dX0_wouldPass_66 rfl 0 rfl ?_
    refine z_iload_n dX0_wouldPass_67 rfl 2 rfl ?_
    refine z_NE (i_H_kindOf ) sk_X11_kindOf nw_X0_107 ⟨Nat.le_of_ble_eq_true rfl, Nat.le_of_ble_eq_true rfl⟩ ⟨Nat.zero_le _, Nat.zero_le _⟩ rfl rfl (Nat.le_of_ble_eq_true rfl) dX0_wouldPass_68 ?_
    refine z_rload_n dX0_wouldPass_71 rfl 1 rfl ?_
    refine z_getR (q := 11626) ff_0_2 dX0_wouldPass_72 kt_83 (Nat.le_of_ble_eq_true rfl) fl_X0_23 rfl (hs.1 _ _ sr_11626) ?_
    refine z_iload_n dX0_wouldPass_75 rfl 2 rfl ?_
    refine z_VI (i_Floor_against  hs h) vk_X3_against kt_67 (Nat.le_of_ble_eq_true rfl) rfl ml_X0_110 ⟨Nat.le_of_ble_eq_true rfl, Nat.le_of_ble_eq_true rfl⟩ ⟨Nat.zero_le _, Nat.zero_le _⟩ rfl rfl (Nat.le_of_ble_eq_true rfl) dX0_wouldPass_76 (fun r76_1 μ_8 hs h => ?_)
    refine z_rload_n dX0_wouldPass_79 rfl 1 rfl ?_
    refine z_getR (q := 11624) ff_0_0 dX0_wouldPass_80 kt_83 (Nat.le_of_ble_eq_true rfl) fl_X0_15 rfl (hs.1 _ _ sr_11624) ?_
    refine z_getI (q := 1139) ff_7_11 dX0_wouldPass_83 kt_1 (Nat.le_of_ble_eq_true rfl) fl_X0_62 rfl ?_
    refine z_VB (i_Count_passes hr_r11 hs h) vk_X2_passes kt_73 (Nat.le_of_ble_eq_true rfl) rfl ml_X0_113 ⟨Nat.le_of_ble_eq_true rfl, Nat.le_of_ble_eq_true rfl⟩ ⟨Nat.zero_le _, Nat.zero_le _⟩ rfl rfl (Nat.le_of_ble_eq_true rfl) dX0_wouldPass_86 (fun r86_1 μ_9 hs h => ?_)
    exact z_zret (b := r86_1) rfl dX0_wouldPass_89 rfl rfl rfl ⟨_, rfl, hs, h⟩
abbrev Y_H_would : Yt := (3, (some .int), yX11_would.name, { frames := 5, cells := 0, slots := 0, locals := 121 }, 174, 0, 0)
def f_H_would (a1 : Int) (a2 : Int) (μ : Mem) (k : Int → Mem → Prop) : Prop := if w (v_Floor_stateOf a1 μ) = 0 then (if w a2 < 0 then (k (-1) μ) else (if w 3 < w a2 then (k (-1) μ) else (f_Chair_wouldPass a1 a2 μ (fun r28 μ_1 => ∀ x39 : Int, x39 = (if r28 = true then 1 else 0) → k x39 μ_1)))) else (k (-1) μ)
theorem i_H_would {l : Launch} {Γ : Gam} {g : Nat} {a1 : Int} {a2 : Int} {μ : Mem} {k : Int → Mem → Prop} (hs : StatR μ.2.2) (h : f_H_would a1 a2 μ k) : CT l Γ yX11_would cX11_would 3 (some .int) 5 121 0 0 [vr Γ 0, vi a1, vi a2] g 174 μ (pI k) := by
  refine SW.ct (by decide) (Nat.le_of_ble_eq_true rfl) ?_
  refine z_sub (lv' := [(0, vr Γ 0), (1, vi a1), (2, vi a2)]) [0, 1, 2] rfl ?_
  show SW l Γ yX11_would.cls cX11_would Y_H_would (pI k) g 174 0 0 μ 0 [(0, vr Γ 0), (1, vi a1), (2, vi a2)] []
  unfold f_H_would at h
  refine z_rload_n dX11_would_0 rfl 0 rfl ?_
  refine z_getR (q := 1005) ff_11_5 dX11_would_1 kt_0 (Nat.le_of_ble_eq_true rfl) fl_X11_57 rfl (hs.1 _ _ sr_1005) ?_
  refine z_iload_n dX11_would_4 rfl 1 rfl ?_
  refine z_VE (i_Floor_stateOf hs) vk_X3_stateOf kt_67 (Nat.le_of_ble_eq_true rfl) rfl ml_X11_118 ⟨Nat.le_of_ble_eq_true rfl, Nat.le_of_ble_eq_true rfl⟩ ⟨Nat.zero_le _, Nat.zero_le _⟩ rfl rfl (Nat.le_of_ble_eq_true rfl) dX11_would_5 ?_
  refine z_if_ne (tgt := 20) dX11_would_8 (by decide) h (fun h => ?_) (fun h => ?_)
  · refine z_iload_n dX11_would_11 rfl 2 rfl ?_
    refine z_if_lt (tgt := 20) dX11_would_12 (by decide) h (fun h => ?_) (fun h => ?_)
    · refine z_iconst dX11_would_20 ?_
      exact z_iret rfl dX11_would_21 rfl rfl rfl ⟨_, rfl, hs, h⟩
    · refine z_iload_n dX11_would_15 rfl 2 rfl ?_
      refine z_iconst dX11_would_16 ?_
      refine z_icmp_le (tgt := 22) dX11_would_17 (by decide) h (fun h => ?_) (fun h => ?_)
      · refine z_iconst dX11_would_20 ?_
        exact z_iret rfl dX11_would_21 rfl rfl rfl ⟨_, rfl, hs, h⟩
      · refine z_rload_n dX11_would_22 rfl 0 rfl ?_
        refine z_getR (q := 1007) ff_11_7 dX11_would_23 kt_0 (Nat.le_of_ble_eq_true rfl) fl_X11_75 rfl (hs.1 _ _ sr_1007) ?_
        refine z_iload_n dX11_would_26 rfl 1 rfl ?_
        refine z_iload_n dX11_would_27 rfl 2 rfl ?_
        refine z_VB (i_Chair_wouldPass  hs h) vk_X0_wouldPass kt_83 (Nat.le_of_ble_eq_true rfl) rfl ml_X11_327 ⟨Nat.le_of_ble_eq_true rfl, Nat.le_of_ble_eq_true rfl⟩ ⟨Nat.zero_le _, Nat.zero_le _⟩ rfl rfl (Nat.le_of_ble_eq_true rfl) dX11_would_28 (fun r28 μ_1 hs h => ?_)
        refine z_phi 39 [] (fun V9 hv J9 => ?_) h (fun x39 h => ?_)
        · refine z_ifeq_b (tgt := 38) dX11_would_31 (by decide) (eq_ite hv) (fun hv => ?_) (fun hv => ?_)
          · refine z_iconst dX11_would_34 ?_
            refine z_goto (tgt := 39) dX11_would_35 (by decide) ?_
            exact J9 _ hv.symm
          · refine z_iconst dX11_would_38 ?_
            exact J9 _ hv.symm
        · exact z_iret rfl dX11_would_39 rfl rfl rfl ⟨_, rfl, hs, h⟩
  · refine z_iconst dX11_would_20 ?_
    exact z_iret rfl dX11_would_21 rfl rfl rfl ⟨_, rfl, hs, h⟩
abbrev Y_Worths_tell : Yt := (4, (some .boolean), yX10_tell.name, { frames := 1, cells := 0, slots := 0, locals := 22 }, 174, 0, 0)
def f_Worths_tell (a1 : Int) (a2 : Int) (a3 : Int) (μ : Mem) (k : Bool → Mem → Prop) : Prop := ∀ μ_1 : Mem, μ_1 = set' μ 101 288 ((a1 * 24) + a2) a3 → k true μ_1
theorem i_Worths_tell {l : Launch} {Γ : Gam} {g : Nat} {a1 : Int} {a2 : Int} {a3 : Int} {μ : Mem} {k : Bool → Mem → Prop} (hs : StatR μ.2.2) (h : f_Worths_tell a1 a2 a3 μ k) : CT l Γ yX10_tell cX10_tell 4 (some .boolean) 1 22 0 0 [vr Γ 100, vi a1, vi a2, vi a3] g 174 μ (pB k) := by
  refine SW.ct (by decide) (Nat.le_of_ble_eq_true rfl) ?_
  refine z_sub (lv' := [(0, vr Γ 100), (1, vi a1), (2, vi a2), (3, vi a3)]) [0, 1, 2, 3] rfl ?_
  show SW l Γ yX10_tell.cls cX10_tell Y_Worths_tell (pB k) g 174 0 0 μ 0 [(0, vr Γ 100), (1, vi a1), (2, vi a2), (3, vi a3)] []
  unfold f_Worths_tell at h
  refine z_rload_n dX10_tell_0 rfl 0 rfl ?_
  refine z_getR (q := 13804) ff_10_4 dX10_tell_1 kt_100 (Nat.le_of_ble_eq_true rfl) fl_X10_9 rfl (hs.1 _ _ sr_13804) ?_
  refine z_iload_n dX10_tell_4 rfl 1 rfl ?_
  refine z_bipush dX10_tell_5 (by decide) ?_
  refine z_imul dX10_tell_7 ?_
  refine z_iload_n dX10_tell_8 rfl 2 rfl ?_
  refine z_iadd dX10_tell_9 ?_
  refine z_iload_n dX10_tell_10 rfl 3 rfl ?_
  refine z_NM (i_X11_set kt_101 (Nat.le_of_ble_eq_true rfl)) ok_X11_set nw_X10_62 ⟨Nat.le_of_ble_eq_true rfl, Nat.le_of_ble_eq_true rfl⟩ ⟨Nat.zero_le _, Nat.zero_le _⟩ rfl rfl (Nat.le_of_ble_eq_true rfl) dX10_tell_11 ?_
  refine z_mm (fun μ_1 eμ_1 => ?_)
  replace h := h μ_1 eμ_1
  replace hs : StatR μ_1.2.2 := by rw [eμ_1]; exact (StatR.set hs)
  refine z_iconst dX10_tell_14 ?_
  exact z_zret (b := true) rfl dX10_tell_15 rfl rfl rfl ⟨_, rfl, hs, h⟩
abbrev Y_H_worth : Yt := (4, (some .boolean), yX11_worth.name, { frames := 2, cells := 0, slots := 0, locals := 45 }, 174, 0, 0)
def f_H_worth (a1 : Int) (a2 : Int) (a3 : Int) (μ : Mem) (k : Bool → Mem → Prop) : Prop := if (v_Reg_hasAffiliate a1 μ) = true then (if (v_Papers_hasMotion a2 μ) = true then (if w a3 < w (-9) then (k false μ) else (if w 9 < w a3 then (k false μ) else (f_Worths_tell a1 a2 a3 μ (fun r41 μ_1 => ∀ x52 : Bool, x52 = (if r41 = true then true else false) → k x52 μ_1)))) else (k false μ)) else (k false μ)
theorem i_H_worth {l : Launch} {Γ : Gam} {g : Nat} {a1 : Int} {a2 : Int} {a3 : Int} {μ : Mem} {k : Bool → Mem → Prop} (hs : StatR μ.2.2) (h : f_H_worth a1 a2 a3 μ k) : CT l Γ yX11_worth cX11_worth 4 (some .boolean) 2 45 0 0 [vr Γ 0, vi a1, vi a2, vi a3] g 174 μ (pB k) := by
  refine SW.ct (by decide) (Nat.le_of_ble_eq_true rfl) ?_
  refine z_sub (lv' := [(0, vr Γ 0), (1, vi a1), (2, vi a2), (3, vi a3)]) [0, 1, 2, 3] rfl ?_
  show SW l Γ yX11_worth.cls cX11_worth Y_H_worth (pB k) g 174 0 0 μ 0 [(0, vr Γ 0), (1, vi a1), (2, vi a2), (3, vi a3)] []
  unfold f_H_worth at h
  refine z_rload_n dX11_worth_0 rfl 0 rfl ?_
  refine z_getR (q := 1000) ff_11_0 dX11_worth_1 kt_0 (Nat.le_of_ble_eq_true rfl) fl_X11_12 rfl (hs.1 _ _ sr_1000) ?_
  refine z_iload_n dX11_worth_4 rfl 1 rfl ?_
  refine z_VE (i_Reg_hasAffiliate ) vk_X7_hasAffiliate kt_1 (Nat.le_of_ble_eq_true rfl) rfl ml_X11_103 ⟨Nat.le_of_ble_eq_true rfl, Nat.le_of_ble_eq_true rfl⟩ ⟨Nat.zero_le _, Nat.zero_le _⟩ rfl rfl (Nat.le_of_ble_eq_true rfl) dX11_worth_5 ?_
  refine z_ifeq_b (tgt := 51) dX11_worth_8 (by decide) h (fun h => ?_) (fun h => ?_)
  · refine z_rload_n dX11_worth_11 rfl 0 rfl ?_
    refine z_getR (q := 1004) ff_11_4 dX11_worth_12 kt_0 (Nat.le_of_ble_eq_true rfl) fl_X11_26 rfl (hs.1 _ _ sr_1004) ?_
    refine z_iload_n dX11_worth_15 rfl 2 rfl ?_
    refine z_VE (i_Papers_hasMotion ) vk_X6_hasMotion kt_12 (Nat.le_of_ble_eq_true rfl) rfl ml_X11_222 ⟨Nat.le_of_ble_eq_true rfl, Nat.le_of_ble_eq_true rfl⟩ ⟨Nat.zero_le _, Nat.zero_le _⟩ rfl rfl (Nat.le_of_ble_eq_true rfl) dX11_worth_16 ?_
    refine z_ifeq_b (tgt := 51) dX11_worth_19 (by decide) h (fun h => ?_) (fun h => ?_)
    · refine z_iload_n dX11_worth_22 rfl 3 rfl ?_
      refine z_bipush dX11_worth_23 (by decide) ?_
      refine z_icmp_lt (tgt := 51) dX11_worth_25 (by decide) h (fun h => ?_) (fun h => ?_)
      · refine z_iconst dX11_worth_51 ?_
        exact z_zret (b := false) rfl dX11_worth_52 rfl rfl rfl ⟨_, rfl, hs, h⟩
      · refine z_iload_n dX11_worth_28 rfl 3 rfl ?_
        refine z_bipush dX11_worth_29 (by decide) ?_
        refine z_icmp_gt (tgt := 51) dX11_worth_31 (by decide) h (fun h => ?_) (fun h => ?_)
        · refine z_iconst dX11_worth_51 ?_
          exact z_zret (b := false) rfl dX11_worth_52 rfl rfl rfl ⟨_, rfl, hs, h⟩
        · refine z_rload_n dX11_worth_34 rfl 0 rfl ?_
          refine z_getR (q := 1009) ff_11_9 dX11_worth_35 kt_0 (Nat.le_of_ble_eq_true rfl) fl_X11_91 rfl (hs.1 _ _ sr_1009) ?_
          refine z_iload_n dX11_worth_38 rfl 1 rfl ?_
          refine z_iload_n dX11_worth_39 rfl 2 rfl ?_
          refine z_iload_n dX11_worth_40 rfl 3 rfl ?_
          refine z_VB (i_Worths_tell  hs h) vk_X10_tell kt_100 (Nat.le_of_ble_eq_true rfl) rfl ml_X11_330 ⟨Nat.le_of_ble_eq_true rfl, Nat.le_of_ble_eq_true rfl⟩ ⟨Nat.zero_le _, Nat.zero_le _⟩ rfl rfl (Nat.le_of_ble_eq_true rfl) dX11_worth_41 (fun r41 μ_1 hs h => ?_)
          refine z_phiB 52 [] (fun V9 hv J9 => ?_) h (fun x52 h => ?_)
          · refine z_ifeq_b (tgt := 51) dX11_worth_44 (by decide) (eq_ite hv) (fun hv => ?_) (fun hv => ?_)
            · refine z_iconst dX11_worth_47 ?_
              refine z_goto (tgt := 52) dX11_worth_48 (by decide) ?_
              exact J9 true hv.symm
            · refine z_iconst dX11_worth_51 ?_
              exact J9 false hv.symm
          · exact z_zret (b := x52) rfl dX11_worth_52 rfl rfl rfl ⟨_, rfl, hs, h⟩
    · refine z_iconst dX11_worth_51 ?_
      exact z_zret (b := false) rfl dX11_worth_52 rfl rfl rfl ⟨_, rfl, hs, h⟩
  · refine z_iconst dX11_worth_51 ?_
    exact z_zret (b := false) rfl dX11_worth_52 rfl rfl rfl ⟨_, rfl, hs, h⟩
def v_Worths_worthFor (a1 : Int) (a2 : Int) (μ : Mem) : Int := at' μ 101 288 ((a1 * 24) + a2)
theorem i_Worths_worthFor {l : Launch} {Γ : Gam} {g : Nat} {μ : Mem} {a1 : Int} {a2 : Int} (hs : StatR μ.2.2) : CT l Γ yX10_worthFor cX10_worthFor 3 (some .int) 1 21 0 0 [vr Γ 100, vi a1, vi a2] g 174 μ (pE (vi (v_Worths_worthFor a1 a2 μ)) μ) := by
  refine SW.ct (by decide) (Nat.le_of_ble_eq_true rfl) ?_
  refine z_sub (lv' := [(0, vr Γ 100), (1, vi a1), (2, vi a2)]) [0, 1, 2] rfl ?_
  have hv : v_Worths_worthFor a1 a2 μ = v_Worths_worthFor a1 a2 μ := rfl
  refine z_rload_n dX10_worthFor_0 rfl 0 rfl ?_
  refine z_getR (q := 13804) ff_10_4 dX10_worthFor_1 kt_100 (Nat.le_of_ble_eq_true rfl) fl_X10_9 rfl (hs.1 _ _ sr_13804) ?_
  refine z_iload_n dX10_worthFor_4 rfl 1 rfl ?_
  refine z_bipush dX10_worthFor_5 (by decide) ?_
  refine z_imul dX10_worthFor_7 ?_
  refine z_iload_n dX10_worthFor_8 rfl 2 rfl ?_
  refine z_iadd dX10_worthFor_9 ?_
  refine z_NE (i_X11_at kt_101 (Nat.le_of_ble_eq_true rfl)) ok_X11_at nw_X10_66 ⟨Nat.le_of_ble_eq_true rfl, Nat.le_of_ble_eq_true rfl⟩ ⟨Nat.zero_le _, Nat.zero_le _⟩ rfl rfl (Nat.le_of_ble_eq_true rfl) dX10_worthFor_10 ?_
  exact z_iret rfl dX10_worthFor_13 rfl rfl rfl ⟨by first | (rw [hv]; done) | rfl, rfl⟩
abbrev Y_Worths_along : Yt := (15, (some .int), yX10_along.name, { frames := 2, cells := 0, slots := 0, locals := 43 }, 174, 0, 0)
def l_Worths_along_26 (a1 : Int) (μ : Mem) (X_26_190 : Int → Prop) : Nat → Int64 → Int64 → Int → Int → Int → Prop
  | 0, _, _, _, _, _ => False
  | fu26 + 1, v2_1, v4_1, v6, v7, v8 => if w v8 < w (rI μ 13806 0) then (∀ v9 : Int, v9 = at' μ 108 6 v8 → ∀ v10 : Int64, v10 = atL' μ 106 6 v9 → ∀ v12 : Int64, v12 = atL' μ 107 6 v9 → ∀ x88 : Bool, x88 = (if ((v10 &&& v4_1) ||| (v12 &&& v2_1)) = 0 then false else true) → if w (w_iand (w_iushr v6 v9) 1) = 0 then (if x88 = true then (if w (at' μ 104 6 v9) = w 1 then (∀ v7_1 : Int, v7_1 = v7 + (v_Worths_worthFor a1 (at' μ 102 6 v9) μ) → ∀ v2_2 : Int64, v2_2 = (v2_1 &&& (v12 ^^^ (-1))) ||| v10 → ∀ v4_2 : Int64, v4_2 = (v4_1 &&& (v10 ^^^ (-1))) ||| v12 → ∀ v6_1 : Int, v6_1 = w_ior v6 (at' μ 105 6 v9) → (l_Worths_along_26 a1 μ X_26_190 fu26) v2_2 v4_2 v6_1 v7_1 (v8 + 1)) else ((l_Worths_along_26 a1 μ X_26_190 fu26) v2_1 v4_1 v6 v7 (v8 + 1))) else (if w (at' μ 103 6 v9) = w 1 then (∀ v7_2 : Int, v7_2 = v7 + (v_Worths_worthFor a1 (at' μ 102 6 v9) μ) → ∀ v2_3 : Int64, v2_3 = (v2_1 &&& (v12 ^^^ (-1))) ||| v10 → ∀ v4_3 : Int64, v4_3 = (v4_1 &&& (v10 ^^^ (-1))) ||| v12 → ∀ v6_2 : Int, v6_2 = w_ior v6 (at' μ 105 6 v9) → (l_Worths_along_26 a1 μ X_26_190 fu26) v2_3 v4_3 v6_2 v7_2 (v8 + 1)) else ((l_Worths_along_26 a1 μ X_26_190 fu26) v2_1 v4_1 v6 v7 (v8 + 1)))) else ((l_Worths_along_26 a1 μ X_26_190 fu26) v2_1 v4_1 v6 v7 (v8 + 1))) else (X_26_190 v7)
def f_Worths_along (a1 : Int) (μ : Mem) (k : Int → Mem → Prop) : Prop := ∀ v2 : Int64, v2 = rL μ 9582 0 → ∀ v4 : Int64, v4 = rL μ 9583 0 → ∃ m26 : Nat, l_Worths_along_26 a1 μ (fun (v7_3 : Int) => k v7_3 μ) m26 v2 v4 0 0 0
theorem L_Worths_along_26 {l : Launch} {Γ : Gam} {g : Nat} {a1 : Int} {μ : Mem} {X_26_190 : Int → Prop} {k : Int → Mem → Prop} (hs : StatR μ.2.2) (hX_26_190 : ∀ (u7 : Int), X_26_190 u7 → SW l Γ yX10_along.cls cX10_along Y_Worths_along (pI k) g 174 0 0 μ 190 [(7, vi u7)] []) (n9 : Nat) : ∀ (v2_1 : Int64) (v4_1 : Int64) (v6 : Int) (v7 : Int) (v8 : Int), l_Worths_along_26 a1 μ X_26_190 n9 v2_1 v4_1 v6 v7 v8 → SW l Γ yX10_along.cls cX10_along Y_Worths_along (pI k) g 174 0 0 μ 26 [(0, vr Γ 100), (1, vi a1), (2, vl v2_1), (4, vl v4_1), (6, vi v6), (7, vi v7), (8, vi v8)] [] := by
  induction n9 with
  | zero =>
    intro v2_1 v4_1 v6 v7 v8 h
    exact h.elim
  | succ n9 hR_26 =>
    intro v2_1 v4_1 v6 v7 v8 h
    rw [l_Worths_along_26] at h
    refine z_iload dX10_along_26 6 rfl ?_
    refine z_rload_n dX10_along_28 rfl 0 rfl ?_
    refine z_getI (q := 13806) ff_10_6 dX10_along_29 kt_100 (Nat.le_of_ble_eq_true rfl) fl_X10_100 rfl ?_
    refine z_icmp_ge (tgt := 190) dX10_along_32 (by decide) h (fun h => ?_) (fun h => ?_)
    · refine z_rload_n dX10_along_35 rfl 0 rfl ?_
      refine z_getR (q := 13812) ff_10_12 dX10_along_36 kt_100 (Nat.le_of_ble_eq_true rfl) fl_X10_34 rfl (hs.1 _ _ sr_13812) ?_
      refine z_iload dX10_along_39 6 rfl ?_
      refine z_NE (i_X11_at kt_108 (Nat.le_of_ble_eq_true rfl)) ok_X11_at nw_X10_66 ⟨Nat.le_of_ble_eq_true rfl, Nat.le_of_ble_eq_true rfl⟩ ⟨Nat.zero_le _, Nat.zero_le _⟩ rfl rfl (Nat.le_of_ble_eq_true rfl) dX10_along_41 ?_
      refine z_nm (fun v9 ev9 => ?_)
      replace h := h v9 ev9
      refine z_istore (lv' := [(9, vi v9), (0, vr Γ 100), (1, vi a1), (2, vl v2_1), (4, vl v4_1), (6, vi v6), (7, vi v7), (8, vi v8)]) dX10_along_44 (Nat.le_of_ble_eq_true rfl) rfl ?_
      refine z_rload_n dX10_along_46 rfl 1 rfl ?_
      refine z_getR (q := 13810) ff_10_10 dX10_along_47 kt_100 (Nat.le_of_ble_eq_true rfl) fl_X10_27 rfl (hs.1 _ _ sr_13810) ?_
      refine z_iload dX10_along_50 0 rfl ?_
      refine z_NE (i_X11_at_ kt_106 (Nat.le_of_ble_eq_true rfl)) ok_X11_at_ nw_X10_142 ⟨Nat.le_of_ble_eq_true rfl, Nat.le_of_ble_eq_true rfl⟩ ⟨Nat.zero_le _, Nat.zero_le _⟩ rfl rfl (Nat.le_of_ble_eq_true rfl) dX10_along_52 ?_
      refine z_nmL (fun v10 ev10 => ?_)
      replace h := h v10 ev10
      refine z_lstore (lv' := [(10, vl v10), (9, vi v9), (0, vr Γ 100), (1, vi a1), (2, vl v2_1), (4, vl v4_1), (6, vi v6), (7, vi v7), (8, vi v8)]) dX10_along_55 (Nat.le_of_ble_eq_true rfl) rfl ?_
      refine z_rload_n dX10_along_57 rfl 2 rfl ?_
      refine z_getR (q := 13811) ff_10_11 dX10_along_58 kt_100 (Nat.le_of_ble_eq_true rfl) fl_X10_31 rfl (hs.1 _ _ sr_13811) ?_
      refine z_iload dX10_along_61 1 rfl ?_
      refine z_NE (i_X11_at_ kt_107 (Nat.le_of_ble_eq_true rfl)) ok_X11_at_ nw_X10_142 ⟨Nat.le_of_ble_eq_true rfl, Nat.le_of_ble_eq_true rfl⟩ ⟨Nat.zero_le _, Nat.zero_le _⟩ rfl rfl (Nat.le_of_ble_eq_true rfl) dX10_along_63 ?_
      refine z_nmL (fun v12 ev12 => ?_)
      replace h := h v12 ev12
      refine z_lstore (lv' := [(12, vl v12), (10, vl v10), (9, vi v9), (0, vr Γ 100), (1, vi a1), (2, vl v2_1), (4, vl v4_1), (6, vi v6), (7, vi v7), (8, vi v8)]) dX10_along_66 (Nat.le_of_ble_eq_true rfl) rfl ?_
      refine z_lload dX10_along_68 1 rfl ?_
      refine z_lload dX10_along_70 6 rfl ?_
      refine z_land dX10_along_72 ?_
      refine z_lload dX10_along_73 0 rfl ?_
      refine z_lload_n dX10_along_75 rfl 5 rfl ?_
      refine z_land dX10_along_76 ?_
      refine z_lor dX10_along_77 ?_
      refine z_lconst (v := 0) dX10_along_78 rfl ?_
      refine z_phiB 88 [] (fun V9 hv J9 => ?_) h (fun x88 h => ?_)
      · refine z_lcmp_eq (tgt := 87) dX10_along_79 dX10_along_80 (by decide) (eq_ite hv) (fun hv => ?_) (fun hv => ?_)
        · refine z_iconst dX10_along_87 ?_
          exact J9 false hv.symm
        · refine z_iconst dX10_along_83 ?_
          refine z_goto (tgt := 88) dX10_along_84 (by decide) ?_
          exact J9 true hv.symm
      · refine z_istore (lv' := [(14, vi (b2i x88)), (12, vl v12), (10, vl v10), (9, vi v9), (0, vr Γ 100), (1, vi a1), (2, vl v2_1), (4, vl v4_1), (6, vi v6), (7, vi v7), (8, vi v8)]) dX10_along_88 (Nat.le_of_ble_eq_true rfl) rfl ?_
        refine z_iload dX10_along_90 8 rfl ?_
        refine z_iload dX10_along_92 3 rfl ?_
        refine z_iushr dX10_along_94 ?_
        refine z_iconst dX10_along_95 ?_
        refine z_iand dX10_along_96 ?_
        refine z_if_ne (tgt := 184) dX10_along_97 (by decide) h (fun h => ?_) (fun h => ?_)
        · refine z_iload dX10_along_100 0 rfl ?_
          refine z_ifeq_b (tgt := 112) dX10_along_102 (by decide) h (fun h => ?_) (fun h => ?_)
          · refine z_rload_n dX10_along_105 rfl 4 rfl ?_
            refine z_getR (q := 13808) ff_10_8 dX10_along_106 kt_100 (Nat.le_of_ble_eq_true rfl) fl_X10_21 rfl (hs.1 _ _ sr_13808) ?_
            refine z_goto (tgt := 116) dX10_along_109 (by decide) ?_
            refine z_iload dX10_along_116 3 rfl ?_
            refine z_NE (i_X11_at kt_104 (Nat.le_of_ble_eq_true rfl)) ok_X11_at nw_X10_66 ⟨Nat.le_of_ble_eq_true rfl, Nat.le_of_ble_eq_true rfl⟩ ⟨Nat.zero_le _, Nat.zero_le _⟩ rfl rfl (Nat.le_of_ble_eq_true rfl) dX10_along_118 ?_
            refine z_iconst dX10_along_121 ?_
            refine z_icmp_ne (tgt := 184) dX10_along_122 (by decide) h (fun h => ?_) (fun h => ?_)
            · refine z_iload dX10_along_125 9 rfl ?_
              refine z_rload_n dX10_along_127 rfl 4 rfl ?_
              refine z_iload_n dX10_along_128 rfl 5 rfl ?_
              refine z_rload_n dX10_along_129 rfl 4 rfl ?_
              refine z_getR (q := 13805) ff_10_5 dX10_along_130 kt_100 (Nat.le_of_ble_eq_true rfl) fl_X10_15 rfl (hs.1 _ _ sr_13805) ?_
              refine z_iload dX10_along_133 3 rfl ?_
              refine z_NE (i_X11_at kt_102 (Nat.le_of_ble_eq_true rfl)) ok_X11_at nw_X10_66 ⟨Nat.le_of_ble_eq_true rfl, Nat.le_of_ble_eq_true rfl⟩ ⟨Nat.zero_le _, Nat.zero_le _⟩ rfl rfl (Nat.le_of_ble_eq_true rfl) dX10_along_135 ?_
              refine z_VE (i_Worths_worthFor hs) vk_X10_worthFor kt_100 (Nat.le_of_ble_eq_true rfl) rfl ml_X10_145 ⟨Nat.le_of_ble_eq_true rfl, Nat.le_of_ble_eq_true rfl⟩ ⟨Nat.zero_le _, Nat.zero_le _⟩ rfl rfl (Nat.le_of_ble_eq_true rfl) dX10_along_138 ?_
              refine z_iadd dX10_along_141 ?_
              refine z_nm (fun v7_1 ev7_1 => ?_)
              replace h := h v7_1 ev7_1
              refine z_istore (lv' := [(7, vi v7_1), (14, vi (b2i x88)), (12, vl v12), (10, vl v10), (9, vi v9), (0, vr Γ 100), (1, vi a1), (2, vl v2_1), (4, vl v4_1), (6, vi v6), (8, vi v8)]) dX10_along_142 (Nat.le_of_ble_eq_true rfl) rfl ?_
              refine z_lload_n dX10_along_144 rfl 7 rfl ?_
              refine z_lload dX10_along_145 2 rfl ?_
              refine z_ldc2 (v := (-1)) dX10_along_147 cl_X10_149 ?_
              refine z_lxor dX10_along_150 ?_
              refine z_land dX10_along_151 ?_
              refine z_lload dX10_along_152 3 rfl ?_
              refine z_lor dX10_along_154 ?_
              refine z_nmL (fun v2_2 ev2_2 => ?_)
              replace h := h v2_2 ev2_2
              refine z_lstore_n (lv' := [(2, vl v2_2), (7, vi v7_1), (14, vi (b2i x88)), (12, vl v12), (10, vl v10), (9, vi v9), (0, vr Γ 100), (1, vi a1), (4, vl v4_1), (6, vi v6), (8, vi v8)]) dX10_along_155 rfl (Nat.le_of_ble_eq_true rfl) rfl ?_
              refine z_lload dX10_along_156 8 rfl ?_
              refine z_lload dX10_along_158 4 rfl ?_
              refine z_ldc2 (v := (-1)) dX10_along_160 cl_X10_149 ?_
              refine z_lxor dX10_along_163 ?_
              refine z_land dX10_along_164 ?_
              refine z_lload dX10_along_165 3 rfl ?_
              refine z_lor dX10_along_167 ?_
              refine z_nmL (fun v4_2 ev4_2 => ?_)
              replace h := h v4_2 ev4_2
              refine z_lstore (lv' := [(4, vl v4_2), (2, vl v2_2), (7, vi v7_1), (14, vi (b2i x88)), (12, vl v12), (10, vl v10), (9, vi v9), (0, vr Γ 100), (1, vi a1), (6, vi v6), (8, vi v8)]) dX10_along_168 (Nat.le_of_ble_eq_true rfl) rfl ?_
              refine z_iload dX10_along_170 9 rfl ?_
              refine z_rload_n dX10_along_172 rfl 7 rfl ?_
              refine z_getR (q := 13809) ff_10_9 dX10_along_173 kt_100 (Nat.le_of_ble_eq_true rfl) fl_X10_24 rfl (hs.1 _ _ sr_13809) ?_
              refine z_iload dX10_along_176 6 rfl ?_
              refine z_NE (i_X11_at kt_105 (Nat.le_of_ble_eq_true rfl)) ok_X11_at nw_X10_66 ⟨Nat.le_of_ble_eq_true rfl, Nat.le_of_ble_eq_true rfl⟩ ⟨Nat.zero_le _, Nat.zero_le _⟩ rfl rfl (Nat.le_of_ble_eq_true rfl) dX10_along_178 ?_
              refine z_ior dX10_along_181 ?_
              refine z_nm (fun v6_1 ev6_1 => ?_)
              replace h := h v6_1 ev6_1
              refine z_istore (lv' := [(6, vi v6_1), (4, vl v4_2), (2, vl v2_2), (7, vi v7_1), (14, vi (b2i x88)), (12, vl v12), (10, vl v10), (9, vi v9), (0, vr Γ 100), (1, vi a1), (8, vi v8)]) dX10_along_182 (Nat.le_of_ble_eq_true rfl) rfl ?_
              refine z_iinc (j := 10) (lv' := [(8, vi (v8 + 1)), (6, vi v6_1), (4, vl v4_2), (2, vl v2_2), (7, vi v7_1), (14, vi (b2i x88)), (12, vl v12), (10, vl v10), (9, vi v9), (0, vr Γ 100), (1, vi a1)]) dX10_along_184 rfl (Nat.le_of_ble_eq_true rfl) rfl ?_
              refine z_goto (tgt := 26) dX10_along_187 (by decide) ?_
              refine z_sub (lv' := [(0, vr Γ 100), (1, vi a1), (2, vl v2_2), (4, vl v4_2), (6, vi v6_1), (7, vi v7_1), (8, vi (v8 + 1))]) [9, 10, 3, 2, 1, 4, 0] rfl ?_
              exact hR_26 v2_2 v4_2 v6_1 v7_1 (v8 + 1) h
            · refine z_iinc (j := 10) (lv' := [(8, vi (v8 + 1)), (14, vi (b2i x88)), (12, vl v12), (10, vl v10), (9, vi v9), (0, vr Γ 100), (1, vi a1), (2, vl v2_1), (4, vl v4_1), (6, vi v6), (7, vi v7)]) dX10_along_184 rfl (Nat.le_of_ble_eq_true rfl) rfl ?_
              refine z_goto (tgt := 26) dX10_along_187 (by decide) ?_
              refine z_sub (lv' := [(0, vr Γ 100), (1, vi a1), (2, vl v2_1), (4, vl v4_1), (6, vi v6), (7, vi v7), (8, vi (v8 + 1))]) [5, 6, 7, 8, 9, 10, 0] rfl ?_
              exact hR_26 v2_1 v4_1 v6 v7 (v8 + 1) h
          · refine z_rload_n dX10_along_112 rfl 4 rfl ?_
            refine z_getR (q := 13807) ff_10_7 dX10_along_113 kt_100 (Nat.le_of_ble_eq_true rfl) fl_X10_18 rfl (hs.1 _ _ sr_13807) ?_
            refine z_iload dX10_along_116 3 rfl ?_
            refine z_NE (i_X11_at kt_103 (Nat.le_of_ble_eq_true rfl)) ok_X11_at nw_X10_66 ⟨Nat.le_of_ble_eq_true rfl, Nat.le_of_ble_eq_true rfl⟩ ⟨Nat.zero_le _, Nat.zero_le _⟩ rfl rfl (Nat.le_of_ble_eq_true rfl) dX10_along_118 ?_
            refine z_iconst dX10_along_121 ?_
            refine z_icmp_ne (tgt := 184) dX10_along_122 (by decide) h (fun h => ?_) (fun h => ?_)
            · refine z_iload dX10_along_125 9 rfl ?_
              refine z_rload_n dX10_along_127 rfl 4 rfl ?_
              refine z_iload_n dX10_along_128 rfl 5 rfl ?_
              refine z_rload_n dX10_along_129 rfl 4 rfl ?_
              refine z_getR (q := 13805) ff_10_5 dX10_along_130 kt_100 (Nat.le_of_ble_eq_true rfl) fl_X10_15 rfl (hs.1 _ _ sr_13805) ?_
              refine z_iload dX10_along_133 3 rfl ?_
              refine z_NE (i_X11_at kt_102 (Nat.le_of_ble_eq_true rfl)) ok_X11_at nw_X10_66 ⟨Nat.le_of_ble_eq_true rfl, Nat.le_of_ble_eq_true rfl⟩ ⟨Nat.zero_le _, Nat.zero_le _⟩ rfl rfl (Nat.le_of_ble_eq_true rfl) dX10_along_135 ?_
              refine z_VE (i_Worths_worthFor hs) vk_X10_worthFor kt_100 (Nat.le_of_ble_eq_true rfl) rfl ml_X10_145 ⟨Nat.le_of_ble_eq_true rfl, Nat.le_of_ble_eq_true rfl⟩ ⟨Nat.zero_le _, Nat.zero_le _⟩ rfl rfl (Nat.le_of_ble_eq_true rfl) dX10_along_138 ?_
              refine z_iadd dX10_along_141 ?_
              refine z_nm (fun v7_2 ev7_2 => ?_)
              replace h := h v7_2 ev7_2
              refine z_istore (lv' := [(7, vi v7_2), (14, vi (b2i x88)), (12, vl v12), (10, vl v10), (9, vi v9), (0, vr Γ 100), (1, vi a1), (2, vl v2_1), (4, vl v4_1), (6, vi v6), (8, vi v8)]) dX10_along_142 (Nat.le_of_ble_eq_true rfl) rfl ?_
              refine z_lload_n dX10_along_144 rfl 7 rfl ?_
              refine z_lload dX10_along_145 2 rfl ?_
              refine z_ldc2 (v := (-1)) dX10_along_147 cl_X10_149 ?_
              refine z_lxor dX10_along_150 ?_
              refine z_land dX10_along_151 ?_
              refine z_lload dX10_along_152 3 rfl ?_
              refine z_lor dX10_along_154 ?_
              refine z_nmL (fun v2_3 ev2_3 => ?_)
              replace h := h v2_3 ev2_3
              refine z_lstore_n (lv' := [(2, vl v2_3), (7, vi v7_2), (14, vi (b2i x88)), (12, vl v12), (10, vl v10), (9, vi v9), (0, vr Γ 100), (1, vi a1), (4, vl v4_1), (6, vi v6), (8, vi v8)]) dX10_along_155 rfl (Nat.le_of_ble_eq_true rfl) rfl ?_
              refine z_lload dX10_along_156 8 rfl ?_
              refine z_lload dX10_along_158 4 rfl ?_
              refine z_ldc2 (v := (-1)) dX10_along_160 cl_X10_149 ?_
              refine z_lxor dX10_along_163 ?_
              refine z_land dX10_along_164 ?_
              refine z_lload dX10_along_165 3 rfl ?_
              refine z_lor dX10_along_167 ?_
              refine z_nmL (fun v4_3 ev4_3 => ?_)
              replace h := h v4_3 ev4_3
              refine z_lstore (lv' := [(4, vl v4_3), (2, vl v2_3), (7, vi v7_2), (14, vi (b2i x88)), (12, vl v12), (10, vl v10), (9, vi v9), (0, vr Γ 100), (1, vi a1), (6, vi v6), (8, vi v8)]) dX10_along_168 (Nat.le_of_ble_eq_true rfl) rfl ?_
              refine z_iload dX10_along_170 9 rfl ?_
              refine z_rload_n dX10_along_172 rfl 7 rfl ?_
              refine z_getR (q := 13809) ff_10_9 dX10_along_173 kt_100 (Nat.le_of_ble_eq_true rfl) fl_X10_24 rfl (hs.1 _ _ sr_13809) ?_
              refine z_iload dX10_along_176 6 rfl ?_
              refine z_NE (i_X11_at kt_105 (Nat.le_of_ble_eq_true rfl)) ok_X11_at nw_X10_66 ⟨Nat.le_of_ble_eq_true rfl, Nat.le_of_ble_eq_true rfl⟩ ⟨Nat.zero_le _, Nat.zero_le _⟩ rfl rfl (Nat.le_of_ble_eq_true rfl) dX10_along_178 ?_
              refine z_ior dX10_along_181 ?_
              refine z_nm (fun v6_2 ev6_2 => ?_)
              replace h := h v6_2 ev6_2
              refine z_istore (lv' := [(6, vi v6_2), (4, vl v4_3), (2, vl v2_3), (7, vi v7_2), (14, vi (b2i x88)), (12, vl v12), (10, vl v10), (9, vi v9), (0, vr Γ 100), (1, vi a1), (8, vi v8)]) dX10_along_182 (Nat.le_of_ble_eq_true rfl) rfl ?_
              refine z_iinc (j := 10) (lv' := [(8, vi (v8 + 1)), (6, vi v6_2), (4, vl v4_3), (2, vl v2_3), (7, vi v7_2), (14, vi (b2i x88)), (12, vl v12), (10, vl v10), (9, vi v9), (0, vr Γ 100), (1, vi a1)]) dX10_along_184 rfl (Nat.le_of_ble_eq_true rfl) rfl ?_
              refine z_goto (tgt := 26) dX10_along_187 (by decide) ?_
              refine z_sub (lv' := [(0, vr Γ 100), (1, vi a1), (2, vl v2_3), (4, vl v4_3), (6, vi v6_2), (7, vi v7_2), (8, vi (v8 + 1))]) [9, 10, 3, 2, 1, 4, 0] rfl ?_
              exact hR_26 v2_3 v4_3 v6_2 v7_2 (v8 + 1) h
            · refine z_iinc (j := 10) (lv' := [(8, vi (v8 + 1)), (14, vi (b2i x88)), (12, vl v12), (10, vl v10), (9, vi v9), (0, vr Γ 100), (1, vi a1), (2, vl v2_1), (4, vl v4_1), (6, vi v6), (7, vi v7)]) dX10_along_184 rfl (Nat.le_of_ble_eq_true rfl) rfl ?_
              refine z_goto (tgt := 26) dX10_along_187 (by decide) ?_
              refine z_sub (lv' := [(0, vr Γ 100), (1, vi a1), (2, vl v2_1), (4, vl v4_1), (6, vi v6), (7, vi v7), (8, vi (v8 + 1))]) [5, 6, 7, 8, 9, 10, 0] rfl ?_
              exact hR_26 v2_1 v4_1 v6 v7 (v8 + 1) h
        · refine z_iinc (j := 10) (lv' := [(8, vi (v8 + 1)), (14, vi (b2i x88)), (12, vl v12), (10, vl v10), (9, vi v9), (0, vr Γ 100), (1, vi a1), (2, vl v2_1), (4, vl v4_1), (6, vi v6), (7, vi v7)]) dX10_along_184 rfl (Nat.le_of_ble_eq_true rfl) rfl ?_
          refine z_goto (tgt := 26) dX10_along_187 (by decide) ?_
          refine z_sub (lv' := [(0, vr Γ 100), (1, vi a1), (2, vl v2_1), (4, vl v4_1), (6, vi v6), (7, vi v7), (8, vi (v8 + 1))]) [5, 6, 7, 8, 9, 10, 0] rfl ?_
          exact hR_26 v2_1 v4_1 v6 v7 (v8 + 1) h
    · refine z_sub (lv' := [(7, vi v7)]) [5] rfl ?_
      exact hX_26_190 v7 h
theorem i_Worths_along {l : Launch} {Γ : Gam} {g : Nat} {a1 : Int} {μ : Mem} {k : Int → Mem → Prop} (hs : StatR μ.2.2) (h : f_Worths_along a1 μ k) : CT l Γ yX10_along cX10_along 15 (some .int) 2 43 0 0 [vr Γ 100, vi a1] g 174 μ (pI k) := by
  refine SW.ct (by decide) (Nat.le_of_ble_eq_true rfl) ?_
  refine z_sub (lv' := [(0, vr Γ 100), (1, vi a1)]) [0, 1] rfl ?_
  show SW l Γ yX10_along.cls cX10_along Y_Worths_along (pI k) g 174 0 0 μ 0 [(0, vr Γ 100), (1, vi a1)] []
  unfold f_Worths_along at h
  refine z_rload_n dX10_along_0 rfl 0 rfl ?_
  refine z_getR (q := 13802) ff_10_2 dX10_along_1 kt_100 (Nat.le_of_ble_eq_true rfl) fl_X10_54 rfl (hs.1 _ _ sr_13802) ?_
  refine z_getJ (q := 9582) ff_3_6 dX10_along_4 kt_67 (Nat.le_of_ble_eq_true rfl) fl_X10_135 rfl ?_
  refine z_nmL (fun v2 ev2 => ?_)
  replace h := h v2 ev2
  refine z_lstore_n (lv' := [(2, vl v2), (0, vr Γ 100), (1, vi a1)]) dX10_along_7 rfl (Nat.le_of_ble_eq_true rfl) rfl ?_
  refine z_rload_n dX10_along_8 rfl 1 rfl ?_
  refine z_getR (q := 13802) ff_10_2 dX10_along_9 kt_100 (Nat.le_of_ble_eq_true rfl) fl_X10_54 rfl (hs.1 _ _ sr_13802) ?_
  refine z_getJ (q := 9583) ff_3_7 dX10_along_12 kt_67 (Nat.le_of_ble_eq_true rfl) fl_X10_139 rfl ?_
  refine z_nmL (fun v4 ev4 => ?_)
  replace h := h v4 ev4
  refine z_lstore (lv' := [(4, vl v4), (2, vl v2), (0, vr Γ 100), (1, vi a1)]) dX10_along_15 (Nat.le_of_ble_eq_true rfl) rfl ?_
  refine z_iconst dX10_along_17 ?_
  refine z_istore (lv' := [(6, vi 0), (4, vl v4), (2, vl v2), (0, vr Γ 100), (1, vi a1)]) dX10_along_18 (Nat.le_of_ble_eq_true rfl) rfl ?_
  refine z_iconst dX10_along_20 ?_
  refine z_istore (lv' := [(7, vi 0), (6, vi 0), (4, vl v4), (2, vl v2), (0, vr Γ 100), (1, vi a1)]) dX10_along_21 (Nat.le_of_ble_eq_true rfl) rfl ?_
  refine z_iconst dX10_along_23 ?_
  refine z_istore (lv' := [(8, vi 0), (7, vi 0), (6, vi 0), (4, vl v4), (2, vl v2), (0, vr Γ 100), (1, vi a1)]) dX10_along_24 (Nat.le_of_ble_eq_true rfl) rfl ?_
  obtain ⟨m26, h⟩ := h
  refine z_sub (lv' := [(0, vr Γ 100), (1, vi a1), (2, vl v2), (4, vl v4), (6, vi 0), (7, vi 0), (8, vi 0)]) [5, 6, 4, 3, 2, 1, 0] rfl ?_
  refine L_Worths_along_26 hs (fun v7_3 h => ?_) m26 v2 v4 0 0 0 h
  refine z_iload dX10_along_190 0 rfl ?_
  exact z_iret rfl dX10_along_192 rfl rfl rfl ⟨_, rfl, hs, h⟩
abbrev Y_Worths_contraryTo : Yt := (4, (some .int), yX10_contraryTo.name, { frames := 3, cells := 0, slots := 0, locals := 70 }, 174, 0, 0)
def l_Worths_contraryTo_4 (a1 : Int) (X_4_47 : Int → Mem → Prop) : Nat → Int → Int → Mem → Prop
  | 0, _, _, _ => False
  | fu4 + 1, v2, v3, μ_1 => if w v3 < w (rI μ_1 13806 0) then (f_Floor_areContrary a1 (at' μ_1 102 6 v3) μ_1 (fun r26 μ_2 => ∀ x39 : Int, x39 = (if r26 = true then (w_ishl 1 v3) else 0) → ∀ v2_1 : Int, v2_1 = w_ior v2 x39 → (l_Worths_contraryTo_4 a1 X_4_47 fu4) v2_1 (v3 + 1) μ_2)) else (X_4_47 v2 μ_1)
def f_Worths_contraryTo (a1 : Int) (μ : Mem) (k : Int → Mem → Prop) : Prop := ∃ m4 : Nat, l_Worths_contraryTo_4 a1 (fun (v2_2 : Int) (μ_3 : Mem) => k v2_2 μ_3) m4 0 0 μ
theorem L_Worths_contraryTo_4 {l : Launch} {Γ : Gam} {g : Nat} {a1 : Int} {X_4_47 : Int → Mem → Prop} {k : Int → Mem → Prop} (hX_4_47 : ∀ (u2 : Int) (ν : Mem), StatR ν.2.2 → X_4_47 u2 ν → SW l Γ yX10_contraryTo.cls cX10_contraryTo Y_Worths_contraryTo (pI k) g 174 0 0 ν 47 [(2, vi u2)] []) (n9 : Nat) : ∀ (v2 : Int) (v3 : Int) (μ_1 : Mem), StatR μ_1.2.2 → l_Worths_contraryTo_4 a1 X_4_47 n9 v2 v3 μ_1 → SW l Γ yX10_contraryTo.cls cX10_contraryTo Y_Worths_contraryTo (pI k) g 174 0 0 μ_1 4 [(0, vr Γ 100), (1, vi a1), (2, vi v2), (3, vi v3)] [] := by
  induction n9 with
  | zero =>
    intro v2 v3 μ_1 hs h
    exact h.elim
  | succ n9 hR_4 =>
    intro v2 v3 μ_1 hs h
    rw [l_Worths_contraryTo_4] at h
    refine z_iload_n dX10_contraryTo_4 rfl 3 rfl ?_
    refine z_rload_n dX10_contraryTo_5 rfl 0 rfl ?_
    refine z_getI (q := 13806) ff_10_6 dX10_contraryTo_6 kt_100 (Nat.le_of_ble_eq_true rfl) fl_X10_100 rfl ?_
    refine z_icmp_ge (tgt := 47) dX10_contraryTo_9 (by decide) h (fun h => ?_) (fun h => ?_)
    · refine z_iload_n dX10_contraryTo_12 rfl 2 rfl ?_
      refine z_rload_n dX10_contraryTo_13 rfl 0 rfl ?_
      refine z_getR (q := 13802) ff_10_2 dX10_contraryTo_14 kt_100 (Nat.le_of_ble_eq_true rfl) fl_X10_54 rfl (hs.1 _ _ sr_13802) ?_
      refine z_iload_n dX10_contraryTo_17 rfl 1 rfl ?_
      refine z_rload_n dX10_contraryTo_18 rfl 0 rfl ?_
      refine z_getR (q := 13805) ff_10_5 dX10_contraryTo_19 kt_100 (Nat.le_of_ble_eq_true rfl) fl_X10_15 rfl (hs.1 _ _ sr_13805) ?_
      refine z_iload_n dX10_contraryTo_22 rfl 3 rfl ?_
      refine z_NE (i_X11_at kt_102 (Nat.le_of_ble_eq_true rfl)) ok_X11_at nw_X10_66 ⟨Nat.le_of_ble_eq_true rfl, Nat.le_of_ble_eq_true rfl⟩ ⟨Nat.zero_le _, Nat.zero_le _⟩ rfl rfl (Nat.le_of_ble_eq_true rfl) dX10_contraryTo_23 ?_
      refine z_VB (i_Floor_areContrary  hs h) vk_X3_areContrary kt_67 (Nat.le_of_ble_eq_true rfl) rfl ml_X10_131 ⟨Nat.le_of_ble_eq_true rfl, Nat.le_of_ble_eq_true rfl⟩ ⟨Nat.zero_le _, Nat.zero_le _⟩ rfl rfl (Nat.le_of_ble_eq_true rfl) dX10_contraryTo_26 (fun r26 μ_2 hs h => ?_)
      refine z_phi 39 [vi v2] (fun V9 hv J9 => ?_) h (fun x39 h => ?_)
      · refine z_ifeq_b (tgt := 38) dX10_contraryTo_29 (by decide) (eq_ite hv) (fun hv => ?_) (fun hv => ?_)
        · refine z_iconst dX10_contraryTo_32 ?_
          refine z_iload_n dX10_contraryTo_33 rfl 3 rfl ?_
          refine z_ishl dX10_contraryTo_34 ?_
          refine z_goto (tgt := 39) dX10_contraryTo_35 (by decide) ?_
          exact J9 _ hv.symm
        · refine z_iconst dX10_contraryTo_38 ?_
          exact J9 _ hv.symm
      · refine z_ior dX10_contraryTo_39 ?_
        refine z_nm (fun v2_1 ev2_1 => ?_)
        replace h := h v2_1 ev2_1
        refine z_istore_n (lv' := [(2, vi v2_1), (0, vr Γ 100), (1, vi a1), (3, vi v3)]) dX10_contraryTo_40 rfl (Nat.le_of_ble_eq_true rfl) rfl ?_
        refine z_iinc (j := 3) (lv' := [(3, vi (v3 + 1)), (2, vi v2_1), (0, vr Γ 100), (1, vi a1)]) dX10_contraryTo_41 rfl (Nat.le_of_ble_eq_true rfl) rfl ?_
        refine z_goto (tgt := 4) dX10_contraryTo_44 (by decide) ?_
        refine z_sub (lv' := [(0, vr Γ 100), (1, vi a1), (2, vi v2_1), (3, vi (v3 + 1))]) [2, 3, 1, 0] rfl ?_
        exact hR_4 v2_1 (v3 + 1) μ_2 hs h
    · refine z_sub (lv' := [(2, vi v2)]) [2] rfl ?_
      exact hX_4_47 v2 μ_1 hs h
theorem i_Worths_contraryTo {l : Launch} {Γ : Gam} {g : Nat} {a1 : Int} {μ : Mem} {k : Int → Mem → Prop} (hs : StatR μ.2.2) (h : f_Worths_contraryTo a1 μ k) : CT l Γ yX10_contraryTo cX10_contraryTo 4 (some .int) 3 70 0 0 [vr Γ 100, vi a1] g 174 μ (pI k) := by
  refine SW.ct (by decide) (Nat.le_of_ble_eq_true rfl) ?_
  refine z_sub (lv' := [(0, vr Γ 100), (1, vi a1)]) [0, 1] rfl ?_
  show SW l Γ yX10_contraryTo.cls cX10_contraryTo Y_Worths_contraryTo (pI k) g 174 0 0 μ 0 [(0, vr Γ 100), (1, vi a1)] []
  unfold f_Worths_contraryTo at h
  refine z_iconst dX10_contraryTo_0 ?_
  refine z_istore_n (lv' := [(2, vi 0), (0, vr Γ 100), (1, vi a1)]) dX10_contraryTo_1 rfl (Nat.le_of_ble_eq_true rfl) rfl ?_
  refine z_iconst dX10_contraryTo_2 ?_
  refine z_istore_n (lv' := [(3, vi 0), (2, vi 0), (0, vr Γ 100), (1, vi a1)]) dX10_contraryTo_3 rfl (Nat.le_of_ble_eq_true rfl) rfl ?_
  obtain ⟨m4, h⟩ := h
  refine z_sub (lv' := [(0, vr Γ 100), (1, vi a1), (2, vi 0), (3, vi 0)]) [2, 3, 1, 0] rfl ?_
  refine L_Worths_contraryTo_4 (fun v2_2 μ_3 hs h => ?_) m4 0 0 μ hs h
  refine z_iload_n dX10_contraryTo_47 rfl 0 rfl ?_
  exact z_iret rfl dX10_contraryTo_48 rfl rfl rfl ⟨_, rfl, hs, h⟩
abbrev Y_Worths_countMotion : Yt := (3, none, yX10_countMotion.name, { frames := 4, cells := 0, slots := 0, locals := 98 }, 174, 0, 0)
def f_Worths_countMotion (a1 : Int) (a2 : Nat) (μ : Mem) (k : Mem → Prop) : Prop := f_Count_take a1 (rI μ 1139 0) μ (fun μ_1 => f_Count_weigh a2 0 μ_1 (fun μ_2 => f_Count_sumUp (-1) μ_2 (fun μ_3 => k μ_3)))
theorem i_Worths_countMotion {l : Launch} {Γ : Gam} {g : Nat} {a1 : Int} {a2 : Nat} {μ : Mem} {k : Mem → Prop} (hr_a2 : isRu a2 = true) (hs : StatR μ.2.2) (h : f_Worths_countMotion a1 a2 μ k) : CT l Γ yX10_countMotion cX10_countMotion 3 none 4 98 0 0 [vr Γ 100, vi a1, vr Γ a2] g 174 μ (pV k) := by
  refine SW.ct (by decide) (Nat.le_of_ble_eq_true rfl) ?_
  refine z_sub (lv' := [(0, vr Γ 100), (1, vi a1), (2, vr Γ a2)]) [0, 1, 2] rfl ?_
  show SW l Γ yX10_countMotion.cls cX10_countMotion Y_Worths_countMotion (pV k) g 174 0 0 μ 0 [(0, vr Γ 100), (1, vi a1), (2, vr Γ a2)] []
  unfold f_Worths_countMotion at h
  refine z_rload_n dX10_countMotion_0 rfl 0 rfl ?_
  refine z_getR (q := 13803) ff_10_3 dX10_countMotion_1 kt_100 (Nat.le_of_ble_eq_true rfl) fl_X10_58 rfl (hs.1 _ _ sr_13803) ?_
  refine z_iload_n dX10_countMotion_4 rfl 1 rfl ?_
  refine z_rload_n dX10_countMotion_5 rfl 0 rfl ?_
  refine z_getR (q := 13800) ff_10_0 dX10_countMotion_6 kt_100 (Nat.le_of_ble_eq_true rfl) fl_X10_46 rfl (hs.1 _ _ sr_13800) ?_
  refine z_getI (q := 1139) ff_7_11 dX10_countMotion_9 kt_1 (Nat.le_of_ble_eq_true rfl) fl_X10_70 rfl ?_
  refine z_VU (i_Count_take  hs h) vk_X2_take kt_73 (Nat.le_of_ble_eq_true rfl) rfl ml_X10_76 ⟨Nat.le_of_ble_eq_true rfl, Nat.le_of_ble_eq_true rfl⟩ ⟨Nat.zero_le _, Nat.zero_le _⟩ rfl rfl (Nat.le_of_ble_eq_true rfl) dX10_countMotion_12 (fun μ_1 hs h => ?_)
  refine z_rload_n dX10_countMotion_15 rfl 0 rfl ?_
  refine z_getR (q := 13803) ff_10_3 dX10_countMotion_16 kt_100 (Nat.le_of_ble_eq_true rfl) fl_X10_58 rfl (hs.1 _ _ sr_13803) ?_
  refine z_rload_n dX10_countMotion_19 rfl 2 rfl ?_
  refine z_iconst dX10_countMotion_20 ?_
  refine z_VU (i_Count_weigh hr_a2 hs h) vk_X2_weigh kt_73 (Nat.le_of_ble_eq_true rfl) rfl ml_X10_82 ⟨Nat.le_of_ble_eq_true rfl, Nat.le_of_ble_eq_true rfl⟩ ⟨Nat.zero_le _, Nat.zero_le _⟩ rfl rfl (Nat.le_of_ble_eq_true rfl) dX10_countMotion_21 (fun μ_2 hs h => ?_)
  refine z_rload_n dX10_countMotion_24 rfl 0 rfl ?_
  refine z_getR (q := 13803) ff_10_3 dX10_countMotion_25 kt_100 (Nat.le_of_ble_eq_true rfl) fl_X10_58 rfl (hs.1 _ _ sr_13803) ?_
  refine z_iconst dX10_countMotion_28 ?_
  refine z_VU (i_Count_sumUp  hs h) vk_X2_sumUp kt_73 (Nat.le_of_ble_eq_true rfl) rfl ml_X10_86 ⟨Nat.le_of_ble_eq_true rfl, Nat.le_of_ble_eq_true rfl⟩ ⟨Nat.zero_le _, Nat.zero_le _⟩ rfl rfl (Nat.le_of_ble_eq_true rfl) dX10_countMotion_29 (fun μ_3 hs h => ?_)
  exact z_vret rfl dX10_countMotion_32 rfl rfl rfl ⟨rfl, hs, h⟩
abbrev Y_Worths_passesNow : Yt := (3, (some .int), yX10_passesNow.name, { frames := 3, cells := 0, slots := 0, locals := 76 }, 174, 0, 0)
def f_Worths_passesNow (a1 : Nat) (a2 : Int) (μ : Mem) (k : Int → Mem → Prop) : Prop := f_Count_passes a1 0 a2 (rI μ 1139 0) μ (fun r14 μ_1 => ∀ x25 : Int, x25 = (if r14 = true then 1 else 0) → k x25 μ_1)
theorem i_Worths_passesNow {l : Launch} {Γ : Gam} {g : Nat} {a1 : Nat} {a2 : Int} {μ : Mem} {k : Int → Mem → Prop} (hr_a1 : isRu a1 = true) (hs : StatR μ.2.2) (h : f_Worths_passesNow a1 a2 μ k) : CT l Γ yX10_passesNow cX10_passesNow 3 (some .int) 3 76 0 0 [vr Γ 100, vr Γ a1, vi a2] g 174 μ (pI k) := by
  refine SW.ct (by decide) (Nat.le_of_ble_eq_true rfl) ?_
  refine z_sub (lv' := [(0, vr Γ 100), (1, vr Γ a1), (2, vi a2)]) [0, 1, 2] rfl ?_
  show SW l Γ yX10_passesNow.cls cX10_passesNow Y_Worths_passesNow (pI k) g 174 0 0 μ 0 [(0, vr Γ 100), (1, vr Γ a1), (2, vi a2)] []
  unfold f_Worths_passesNow at h
  refine z_rload_n dX10_passesNow_0 rfl 0 rfl ?_
  refine z_getR (q := 13803) ff_10_3 dX10_passesNow_1 kt_100 (Nat.le_of_ble_eq_true rfl) fl_X10_58 rfl (hs.1 _ _ sr_13803) ?_
  refine z_rload_n dX10_passesNow_4 rfl 1 rfl ?_
  refine z_iconst dX10_passesNow_5 ?_
  refine z_iload_n dX10_passesNow_6 rfl 2 rfl ?_
  refine z_rload_n dX10_passesNow_7 rfl 0 rfl ?_
  refine z_getR (q := 13800) ff_10_0 dX10_passesNow_8 kt_100 (Nat.le_of_ble_eq_true rfl) fl_X10_46 rfl (hs.1 _ _ sr_13800) ?_
  refine z_getI (q := 1139) ff_7_11 dX10_passesNow_11 kt_1 (Nat.le_of_ble_eq_true rfl) fl_X10_70 rfl ?_
  refine z_VB (i_Count_passes hr_a1 hs h) vk_X2_passes kt_73 (Nat.le_of_ble_eq_true rfl) rfl ml_X10_90 ⟨Nat.le_of_ble_eq_true rfl, Nat.le_of_ble_eq_true rfl⟩ ⟨Nat.zero_le _, Nat.zero_le _⟩ rfl rfl (Nat.le_of_ble_eq_true rfl) dX10_passesNow_14 (fun r14 μ_1 hs h => ?_)
  refine z_phi 25 [] (fun V9 hv J9 => ?_) h (fun x25 h => ?_)
  · refine z_ifeq_b (tgt := 24) dX10_passesNow_17 (by decide) (eq_ite hv) (fun hv => ?_) (fun hv => ?_)
    · refine z_iconst dX10_passesNow_20 ?_
      refine z_goto (tgt := 25) dX10_passesNow_21 (by decide) ?_
      exact J9 _ hv.symm
    · refine z_iconst dX10_passesNow_24 ?_
      exact J9 _ hv.symm
  · exact z_iret rfl dX10_passesNow_25 rfl rfl rfl ⟨_, rfl, hs, h⟩
