abbrev Y_Worths_findBest : Yt := (5, (some .int), yX10_findBest.name, { frames := 3, cells := 0, slots := 0, locals := 77 }, 175, 0, 0)
def l_Worths_findBest_2 (a1 : Int) (X_2_25 : Mem → Prop) : Nat → Int → Mem → Prop
  | 0, _, _ => False
  | fu2 + 1, v2, μ_1 => if w v2 < w (rI μ_1 13934 0) then (∀ μ_2 : Mem, μ_2 = set' μ_1 109 6 v2 v2 → (l_Worths_findBest_2 a1 X_2_25 fu2) (v2 + 1) μ_2) else (X_2_25 μ_1)
def l_Worths_findBest_44 (a1 : Int) (X_44_91 : Int → Mem → Prop) : Nat → Int → Int → Mem → Prop
  | 0, _, _, _ => False
  | fu44 + 1, v2_1, v3, μ_6 => if w v3 < w 720 then (f_Worths_nextOrder  μ_6 (fun r52 μ_7 => if r52 = true then (f_Worths_along a1 μ_7 (fun r60 μ_8 => if w v2_1 < w r60 then (f_H_copy 109 6 110 6 μ_8 (fun μ_9 => (l_Worths_findBest_44 a1 X_44_91 fu44) r60 (v3 + 1) μ_9)) else ((l_Worths_findBest_44 a1 X_44_91 fu44) v2_1 (v3 + 1) μ_8))) else (X_44_91 v2_1 μ_7))) else (X_44_91 v2_1 μ_6)
def f_Worths_findBest (a1 : Int) (μ : Mem) (k : Int → Mem → Prop) : Prop := ∃ m2 : Nat, l_Worths_findBest_2 a1 (fun (μ_3 : Mem) => f_Worths_along a1 μ_3 (fun r27 μ_4 => f_H_copy 109 6 110 6 μ_4 (fun μ_5 => ∃ m44 : Nat, l_Worths_findBest_44 a1 (fun (v2_2 : Int) (μ_10 : Mem) => k v2_2 μ_10) m44 r27 0 μ_5))) m2 0 μ
theorem L_Worths_findBest_2 {l : Launch} {Γ : Gam} {g : Nat} {a1 : Int} {X_2_25 : Mem → Prop} {k : Int → Mem → Prop} (hX_2_25 : ∀ (ν : Mem), StatR ν.2.2 → X_2_25 ν → SW l Γ yX10_findBest.cls cX10_findBest Y_Worths_findBest (pI k) g 175 0 0 ν 25 [(0, vr Γ 101), (1, vi a1)] []) (n9 : Nat) : ∀ (v2 : Int) (μ_1 : Mem), StatR μ_1.2.2 → l_Worths_findBest_2 a1 X_2_25 n9 v2 μ_1 → SW l Γ yX10_findBest.cls cX10_findBest Y_Worths_findBest (pI k) g 175 0 0 μ_1 2 [(0, vr Γ 101), (1, vi a1), (2, vi v2)] [] := by
  induction n9 with
  | zero =>
    intro v2 μ_1 hs h
    exact h.elim
  | succ n9 hR_2 =>
    intro v2 μ_1 hs h
    rw [l_Worths_findBest_2] at h
    refine z_iload_n dX10_findBest_2 rfl 2 rfl ?_
    refine z_rload_n dX10_findBest_3 rfl 0 rfl ?_
    refine z_getI (q := 13934) ff_10_6 dX10_findBest_4 kt_101 (Nat.le_of_ble_eq_true rfl) fl_X10_100 rfl ?_
    refine z_icmp_ge (tgt := 25) dX10_findBest_7 (by decide) h (fun h => ?_) (fun h => ?_)
    · refine z_rload_n dX10_findBest_10 rfl 0 rfl ?_
      refine z_getR (q := 13940) ff_10_12 dX10_findBest_11 kt_101 (Nat.le_of_ble_eq_true rfl) fl_X10_34 rfl (hs.1 _ _ sr_13940) ?_
      refine z_iload_n dX10_findBest_14 rfl 2 rfl ?_
      refine z_iload_n dX10_findBest_15 rfl 2 rfl ?_
      refine z_NM (i_X11_set kt_109 (Nat.le_of_ble_eq_true rfl)) ok_X11_set nw_X10_62 ⟨Nat.le_of_ble_eq_true rfl, Nat.le_of_ble_eq_true rfl⟩ ⟨Nat.zero_le _, Nat.zero_le _⟩ rfl rfl (Nat.le_of_ble_eq_true rfl) dX10_findBest_16 ?_
      refine z_mm (fun μ_2 eμ_2 => ?_)
      replace h := h μ_2 eμ_2
      replace hs : StatR μ_2.2.2 := by rw [eμ_2]; exact (StatR.set hs)
      refine z_iinc (j := 2) (lv' := [(2, vi (v2 + 1)), (0, vr Γ 101), (1, vi a1)]) dX10_findBest_19 rfl (Nat.le_of_ble_eq_true rfl) rfl ?_
      refine z_goto (tgt := 2) dX10_findBest_22 (by decide) ?_
      refine z_sub (lv' := [(0, vr Γ 101), (1, vi a1), (2, vi (v2 + 1))]) [1, 2, 0] rfl ?_
      exact hR_2 (v2 + 1) μ_2 hs h
    · refine z_sub (lv' := [(0, vr Γ 101), (1, vi a1)]) [0, 1] rfl ?_
      exact hX_2_25 μ_1 hs h
theorem L_Worths_findBest_44 {l : Launch} {Γ : Gam} {g : Nat} {a1 : Int} {X_44_91 : Int → Mem → Prop} {k : Int → Mem → Prop} (hX_44_91 : ∀ (u2 : Int) (ν : Mem), StatR ν.2.2 → X_44_91 u2 ν → SW l Γ yX10_findBest.cls cX10_findBest Y_Worths_findBest (pI k) g 175 0 0 ν 91 [(2, vi u2)] []) (n9 : Nat) : ∀ (v2_1 : Int) (v3 : Int) (μ_6 : Mem), StatR μ_6.2.2 → l_Worths_findBest_44 a1 X_44_91 n9 v2_1 v3 μ_6 → SW l Γ yX10_findBest.cls cX10_findBest Y_Worths_findBest (pI k) g 175 0 0 μ_6 44 [(0, vr Γ 101), (1, vi a1), (2, vi v2_1), (3, vi v3)] [] := by
  induction n9 with
  | zero =>
    intro v2_1 v3 μ_6 hs h
    exact h.elim
  | succ n9 hR_44 =>
    intro v2_1 v3 μ_6 hs h
    rw [l_Worths_findBest_44] at h
    refine z_iload_n dX10_findBest_44 rfl 3 rfl ?_
    refine z_sipush dX10_findBest_45 (by decide) ?_
    refine z_icmp_ge (tgt := 91) dX10_findBest_48 (by decide) h (fun h => ?_) (fun h => ?_)
    · refine z_rload_n dX10_findBest_51 rfl 0 rfl ?_
      refine z_VB (i_Worths_nextOrder  hs h) vk_X10_nextOrder kt_101 (Nat.le_of_ble_eq_true rfl) rfl ml_X10_158 ⟨Nat.le_of_ble_eq_true rfl, Nat.le_of_ble_eq_true rfl⟩ ⟨Nat.zero_le _, Nat.zero_le _⟩ rfl rfl (Nat.le_of_ble_eq_true rfl) dX10_findBest_52 (fun r52 μ_7 hs h => ?_)
      refine z_ifeq_b (tgt := 91) dX10_findBest_55 (by decide) h (fun h => ?_) (fun h => ?_)
      · refine z_rload_n dX10_findBest_58 rfl 0 rfl ?_
        refine z_iload_n dX10_findBest_59 rfl 1 rfl ?_
        refine z_VI (i_Worths_along  hs h) vk_X10_along kt_101 (Nat.le_of_ble_eq_true rfl) rfl ml_X10_151 ⟨Nat.le_of_ble_eq_true rfl, Nat.le_of_ble_eq_true rfl⟩ ⟨Nat.zero_le _, Nat.zero_le _⟩ rfl rfl (Nat.le_of_ble_eq_true rfl) dX10_findBest_60 (fun r60 μ_8 hs h => ?_)
        refine z_istore (lv' := [(4, vi r60), (0, vr Γ 101), (1, vi a1), (2, vi v2_1), (3, vi v3)]) dX10_findBest_63 (Nat.le_of_ble_eq_true rfl) rfl ?_
        refine z_iload dX10_findBest_65 0 rfl ?_
        refine z_iload_n dX10_findBest_67 rfl 3 rfl ?_
        refine z_icmp_le (tgt := 85) dX10_findBest_68 (by decide) h (fun h => ?_) (fun h => ?_)
        · refine z_iload dX10_findBest_71 0 rfl ?_
          refine z_istore_n (lv' := [(2, vi r60), (4, vi r60), (0, vr Γ 101), (1, vi a1), (3, vi v3)]) dX10_findBest_73 rfl (Nat.le_of_ble_eq_true rfl) rfl ?_
          refine z_rload_n dX10_findBest_74 rfl 2 rfl ?_
          refine z_getR (q := 13940) ff_10_12 dX10_findBest_75 kt_101 (Nat.le_of_ble_eq_true rfl) fl_X10_34 rfl (hs.1 _ _ sr_13940) ?_
          refine z_rload_n dX10_findBest_78 rfl 2 rfl ?_
          refine z_getR (q := 13941) ff_10_13 dX10_findBest_79 kt_101 (Nat.le_of_ble_eq_true rfl) fl_X10_37 rfl (hs.1 _ _ sr_13941) ?_
          refine z_NU (i_H_copy kt_109 (Nat.le_of_ble_eq_true rfl) kt_110 (Nat.le_of_ble_eq_true rfl) hs h) sk_X11_copy nw_X10_154 ⟨Nat.le_of_ble_eq_true rfl, Nat.le_of_ble_eq_true rfl⟩ ⟨Nat.zero_le _, Nat.zero_le _⟩ rfl rfl (Nat.le_of_ble_eq_true rfl) dX10_findBest_82 (fun μ_9 hs h => ?_)
          refine z_iinc (j := 4) (lv' := [(3, vi (v3 + 1)), (2, vi r60), (4, vi r60), (0, vr Γ 101), (1, vi a1)]) dX10_findBest_85 rfl (Nat.le_of_ble_eq_true rfl) rfl ?_
          refine z_goto (tgt := 44) dX10_findBest_88 (by decide) ?_
          refine z_sub (lv' := [(0, vr Γ 101), (1, vi a1), (2, vi r60), (3, vi (v3 + 1))]) [3, 4, 1, 0] rfl ?_
          exact hR_44 r60 (v3 + 1) μ_9 hs h
        · refine z_iinc (j := 4) (lv' := [(3, vi (v3 + 1)), (4, vi r60), (0, vr Γ 101), (1, vi a1), (2, vi v2_1)]) dX10_findBest_85 rfl (Nat.le_of_ble_eq_true rfl) rfl ?_
          refine z_goto (tgt := 44) dX10_findBest_88 (by decide) ?_
          refine z_sub (lv' := [(0, vr Γ 101), (1, vi a1), (2, vi v2_1), (3, vi (v3 + 1))]) [2, 3, 4, 0] rfl ?_
          exact hR_44 v2_1 (v3 + 1) μ_8 hs h
      · refine z_sub (lv' := [(2, vi v2_1)]) [2] rfl ?_
        exact hX_44_91 v2_1 μ_7 hs h
    · refine z_sub (lv' := [(2, vi v2_1)]) [2] rfl ?_
      exact hX_44_91 v2_1 μ_6 hs h
theorem i_Worths_findBest {l : Launch} {Γ : Gam} {g : Nat} {a1 : Int} {μ : Mem} {k : Int → Mem → Prop} (hs : StatR μ.2.2) (h : f_Worths_findBest a1 μ k) : CT l Γ yX10_findBest cX10_findBest 5 (some .int) 3 77 0 0 [vr Γ 101, vi a1] g 175 μ (pI k) := by
  refine SW.ct (by decide) (Nat.le_of_ble_eq_true rfl) ?_
  refine z_sub (lv' := [(0, vr Γ 101), (1, vi a1)]) [0, 1] rfl ?_
  show SW l Γ yX10_findBest.cls cX10_findBest Y_Worths_findBest (pI k) g 175 0 0 μ 0 [(0, vr Γ 101), (1, vi a1)] []
  unfold f_Worths_findBest at h
  refine z_iconst dX10_findBest_0 ?_
  refine z_istore_n (lv' := [(2, vi 0), (0, vr Γ 101), (1, vi a1)]) dX10_findBest_1 rfl (Nat.le_of_ble_eq_true rfl) rfl ?_
  obtain ⟨m2, h⟩ := h
  refine z_sub (lv' := [(0, vr Γ 101), (1, vi a1), (2, vi 0)]) [1, 2, 0] rfl ?_
  refine L_Worths_findBest_2 (fun μ_3 hs h => ?_) m2 0 μ hs h
  refine z_rload_n dX10_findBest_25 rfl 0 rfl ?_
  refine z_iload_n dX10_findBest_26 rfl 1 rfl ?_
  refine z_VI (i_Worths_along  hs h) vk_X10_along kt_101 (Nat.le_of_ble_eq_true rfl) rfl ml_X10_151 ⟨Nat.le_of_ble_eq_true rfl, Nat.le_of_ble_eq_true rfl⟩ ⟨Nat.zero_le _, Nat.zero_le _⟩ rfl rfl (Nat.le_of_ble_eq_true rfl) dX10_findBest_27 (fun r27 μ_4 hs h => ?_)
  refine z_istore_n (lv' := [(2, vi r27), (0, vr Γ 101), (1, vi a1)]) dX10_findBest_30 rfl (Nat.le_of_ble_eq_true rfl) rfl ?_
  refine z_rload_n dX10_findBest_31 rfl 1 rfl ?_
  refine z_getR (q := 13940) ff_10_12 dX10_findBest_32 kt_101 (Nat.le_of_ble_eq_true rfl) fl_X10_34 rfl (hs.1 _ _ sr_13940) ?_
  refine z_rload_n dX10_findBest_35 rfl 1 rfl ?_
  refine z_getR (q := 13941) ff_10_13 dX10_findBest_36 kt_101 (Nat.le_of_ble_eq_true rfl) fl_X10_37 rfl (hs.1 _ _ sr_13941) ?_
  refine z_NU (i_H_copy kt_109 (Nat.le_of_ble_eq_true rfl) kt_110 (Nat.le_of_ble_eq_true rfl) hs h) sk_X11_copy nw_X10_154 ⟨Nat.le_of_ble_eq_true rfl, Nat.le_of_ble_eq_true rfl⟩ ⟨Nat.zero_le _, Nat.zero_le _⟩ rfl rfl (Nat.le_of_ble_eq_true rfl) dX10_findBest_39 (fun μ_5 hs h => ?_)
  refine z_iconst dX10_findBest_42 ?_
  refine z_istore_n (lv' := [(3, vi 0), (2, vi r27), (0, vr Γ 101), (1, vi a1)]) dX10_findBest_43 rfl (Nat.le_of_ble_eq_true rfl) rfl ?_
  obtain ⟨m44, h⟩ := h
  refine z_sub (lv' := [(0, vr Γ 101), (1, vi a1), (2, vi r27), (3, vi 0)]) [2, 3, 1, 0] rfl ?_
  refine L_Worths_findBest_44 (fun v2_2 μ_10 hs h => ?_) m44 r27 0 μ_5 hs h
  refine z_iload_n dX10_findBest_91 rfl 0 rfl ?_
  exact z_iret rfl dX10_findBest_92 rfl rfl rfl ⟨_, rfl, hs, h⟩
abbrev Y_H_best : Yt := (5, (some .int), yX11_best.name, { frames := 6, cells := 0, slots := 0, locals := 144 }, 175, 0, 0)
def f_H_best (a1 : Int) (a2 : Int) (a3 : Int) (μ : Mem) (k : Int → Mem → Prop) : Prop := if (v_Reg_hasAffiliate a2 μ) = true then (f_Worths_prepare a1 μ (fun r16 μ_1 => if r16 = true then (if w a3 < w (-1) then (k (-1000) μ_1) else (if w a3 < w (rI μ_1 13934 0) then (f_Worths_findBest a2 μ_1 (fun r47 μ_2 => ∀ x70 : Int, x70 = (if w a3 = w (-1) then r47 else (v_Worths_bestMotionAt a3 μ_2)) → k x70 μ_2)) else (k (-1000) μ_1))) else (k (-1000) μ_1))) else (k (-1000) μ)
theorem i_H_best {l : Launch} {Γ : Gam} {g : Nat} {a1 : Int} {a2 : Int} {a3 : Int} {μ : Mem} {k : Int → Mem → Prop} (hs : StatR μ.2.2) (h : f_H_best a1 a2 a3 μ k) : CT l Γ yX11_best cX11_best 5 (some .int) 6 144 0 0 [vr Γ 0, vi a1, vi a2, vi a3] g 175 μ (pI k) := by
  refine SW.ct (by decide) (Nat.le_of_ble_eq_true rfl) ?_
  refine z_sub (lv' := [(0, vr Γ 0), (1, vi a1), (2, vi a2), (3, vi a3)]) [0, 1, 2, 3] rfl ?_
  show SW l Γ yX11_best.cls cX11_best Y_H_best (pI k) g 175 0 0 μ 0 [(0, vr Γ 0), (1, vi a1), (2, vi a2), (3, vi a3)] []
  unfold f_H_best at h
  refine z_rload_n dX11_best_0 rfl 0 rfl ?_
  refine z_getR (q := 1000) ff_11_0 dX11_best_1 kt_0 (Nat.le_of_ble_eq_true rfl) fl_X11_12 rfl (hs.1 _ _ sr_1000) ?_
  refine z_iload_n dX11_best_4 rfl 2 rfl ?_
  refine z_VE (i_Reg_hasAffiliate ) vk_X7_hasAffiliate kt_1 (Nat.le_of_ble_eq_true rfl) rfl ml_X11_103 ⟨Nat.le_of_ble_eq_true rfl, Nat.le_of_ble_eq_true rfl⟩ ⟨Nat.zero_le _, Nat.zero_le _⟩ rfl rfl (Nat.le_of_ble_eq_true rfl) dX11_best_5 ?_
  refine z_ifeq_b (tgt := 38) dX11_best_8 (by decide) h (fun h => ?_) (fun h => ?_)
  · refine z_rload_n dX11_best_11 rfl 0 rfl ?_
    refine z_getR (q := 1009) ff_11_9 dX11_best_12 kt_0 (Nat.le_of_ble_eq_true rfl) fl_X11_91 rfl (hs.1 _ _ sr_1009) ?_
    refine z_iload_n dX11_best_15 rfl 1 rfl ?_
    refine z_VB (i_Worths_prepare  hs h) vk_X10_prepare kt_101 (Nat.le_of_ble_eq_true rfl) rfl ml_X11_332 ⟨Nat.le_of_ble_eq_true rfl, Nat.le_of_ble_eq_true rfl⟩ ⟨Nat.zero_le _, Nat.zero_le _⟩ rfl rfl (Nat.le_of_ble_eq_true rfl) dX11_best_16 (fun r16 μ_1 hs h => ?_)
    refine z_ifeq_b (tgt := 38) dX11_best_19 (by decide) h (fun h => ?_) (fun h => ?_)
    · refine z_iload_n dX11_best_22 rfl 3 rfl ?_
      refine z_iconst dX11_best_23 ?_
      refine z_icmp_lt (tgt := 38) dX11_best_24 (by decide) h (fun h => ?_) (fun h => ?_)
      · refine z_sipush dX11_best_38 (by decide) ?_
        exact z_iret rfl dX11_best_41 rfl rfl rfl ⟨_, rfl, hs, h⟩
      · refine z_iload_n dX11_best_27 rfl 3 rfl ?_
        refine z_rload_n dX11_best_28 rfl 0 rfl ?_
        refine z_getR (q := 1009) ff_11_9 dX11_best_29 kt_0 (Nat.le_of_ble_eq_true rfl) fl_X11_91 rfl (hs.1 _ _ sr_1009) ?_
        refine z_getI (q := 13934) ff_10_6 dX11_best_32 kt_101 (Nat.le_of_ble_eq_true rfl) fl_X11_341 rfl ?_
        refine z_icmp_lt (tgt := 42) dX11_best_35 (by decide) h (fun h => ?_) (fun h => ?_)
        · refine z_rload_n dX11_best_42 rfl 0 rfl ?_
          refine z_getR (q := 1009) ff_11_9 dX11_best_43 kt_0 (Nat.le_of_ble_eq_true rfl) fl_X11_91 rfl (hs.1 _ _ sr_1009) ?_
          refine z_iload_n dX11_best_46 rfl 2 rfl ?_
          refine z_VI (i_Worths_findBest  hs h) vk_X10_findBest kt_101 (Nat.le_of_ble_eq_true rfl) rfl ml_X11_344 ⟨Nat.le_of_ble_eq_true rfl, Nat.le_of_ble_eq_true rfl⟩ ⟨Nat.zero_le _, Nat.zero_le _⟩ rfl rfl (Nat.le_of_ble_eq_true rfl) dX11_best_47 (fun r47 μ_2 hs h => ?_)
          refine z_istore (lv' := [(4, vi r47), (0, vr Γ 0), (1, vi a1), (2, vi a2), (3, vi a3)]) dX11_best_50 (Nat.le_of_ble_eq_true rfl) rfl ?_
          refine z_iload_n dX11_best_52 rfl 4 rfl ?_
          refine z_iconst dX11_best_53 ?_
          refine z_phi 70 [] (fun V9 hv J9 => ?_) h (fun x70 h => ?_)
          · refine z_icmp_ne (tgt := 62) dX11_best_54 (by decide) (eq_ite hv) (fun hv => ?_) (fun hv => ?_)
            · refine z_iload dX11_best_57 0 rfl ?_
              refine z_goto (tgt := 70) dX11_best_59 (by decide) ?_
              exact J9 _ hv.symm
            · refine z_rload_n dX11_best_62 rfl 1 rfl ?_
              refine z_getR (q := 1009) ff_11_9 dX11_best_63 kt_0 (Nat.le_of_ble_eq_true rfl) fl_X11_91 rfl (hs.1 _ _ sr_1009) ?_
              refine z_iload_n dX11_best_66 rfl 4 rfl ?_
              refine z_VE (i_Worths_bestMotionAt hs) vk_X10_bestMotionAt kt_101 (Nat.le_of_ble_eq_true rfl) rfl ml_X11_347 ⟨Nat.le_of_ble_eq_true rfl, Nat.le_of_ble_eq_true rfl⟩ ⟨Nat.zero_le _, Nat.zero_le _⟩ rfl rfl (Nat.le_of_ble_eq_true rfl) dX11_best_67 ?_
              exact J9 _ hv.symm
          · exact z_iret rfl dX11_best_70 rfl rfl rfl ⟨_, rfl, hs, h⟩
        · refine z_sipush dX11_best_38 (by decide) ?_
          exact z_iret rfl dX11_best_41 rfl rfl rfl ⟨_, rfl, hs, h⟩
    · refine z_sipush dX11_best_38 (by decide) ?_
      exact z_iret rfl dX11_best_41 rfl rfl rfl ⟨_, rfl, hs, h⟩
  · refine z_sipush dX11_best_38 (by decide) ?_
    exact z_iret rfl dX11_best_41 rfl rfl rfl ⟨_, rfl, hs, h⟩
def v_Worths_dealField (a1 : Int) (μ : Mem) : Int := at' μ 112 6 a1
theorem i_Worths_dealField {l : Launch} {Γ : Gam} {g : Nat} {μ : Mem} {a1 : Int} (hs : StatR μ.2.2) : CT l Γ yX10_dealField cX10_dealField 2 (some .int) 1 21 0 0 [vr Γ 101, vi a1] g 175 μ (pE (vi (v_Worths_dealField a1 μ)) μ) := by
  refine SW.ct (by decide) (Nat.le_of_ble_eq_true rfl) ?_
  refine z_sub (lv' := [(0, vr Γ 101), (1, vi a1)]) [0, 1] rfl ?_
  have hv : v_Worths_dealField a1 μ = v_Worths_dealField a1 μ := rfl
  refine z_rload_n dX10_dealField_0 rfl 0 rfl ?_
  refine z_getR (q := 13943) ff_10_15 dX10_dealField_1 kt_101 (Nat.le_of_ble_eq_true rfl) fl_X10_43 rfl (hs.1 _ _ sr_13943) ?_
  refine z_iload_n dX10_dealField_4 rfl 1 rfl ?_
  refine z_NE (i_X11_at kt_112 (Nat.le_of_ble_eq_true rfl)) ok_X11_at nw_X10_66 ⟨Nat.le_of_ble_eq_true rfl, Nat.le_of_ble_eq_true rfl⟩ ⟨Nat.zero_le _, Nat.zero_le _⟩ rfl rfl (Nat.le_of_ble_eq_true rfl) dX10_dealField_5 ?_
  exact z_iret rfl dX10_dealField_8 rfl rfl rfl ⟨by first | (rw [hv]; done) | rfl, rfl⟩
abbrev Y_Worths_findChanges : Yt := (6, none, yX10_findChanges.name, { frames := 5, cells := 0, slots := 0, locals := 120 }, 175, 0, 0)
def l_Worths_findChanges_2 (a1 : Int) (X_2_33 : Mem → Prop) : Nat → Int → Mem → Prop
  | 0, _, _ => False
  | fu2 + 1, v2, μ_1 => if w v2 < w (rI μ_1 1136 0) then (∀ μ_2 : Mem, μ_2 = set' μ_1 111 288 ((v2 * 24) + a1) 2 → (l_Worths_findChanges_2 a1 X_2_33 fu2) (v2 + 1) μ_2) else (X_2_33 μ_1)
def l_Worths_findChanges_86 (a1 : Int) (r56 : Nat) (r65 : Int) (r78 : Int) (X_86_149 : Mem → Prop) : Nat → Int → Mem → Prop
  | 0, _, _ => False
  | fu86 + 1, v5, μ_8 => if w v5 < w (rI μ_8 1136 0) then (if w (v_Count_voiceTaken v5 μ_8) = w 2 then ((l_Worths_findChanges_86 a1 r56 r65 r78 X_86_149 fu86) (v5 + 1) μ_8) else (f_Count_sumUp v5 μ_8 (fun μ_9 => f_Worths_passesNow r56 r65 μ_9 (fun r134 μ_10 => ∀ μ_11 : Mem, μ_11 = set' μ_10 111 288 ((v5 * 24) + a1) (r134 - r78) → (l_Worths_findChanges_86 a1 r56 r65 r78 X_86_149 fu86) (v5 + 1) μ_11)))) else (X_86_149 μ_8)
def f_Worths_findChanges (a1 : Int) (μ : Mem) (k : Mem → Prop) : Prop := ∃ m2 : Nat, l_Worths_findChanges_2 a1 (fun (μ_3 : Mem) => if w (v_Floor_stateOf a1 μ_3) = 0 then (f_Papers_inForce (rI μ_3 9584 0) μ_3 (fun r56 μ_4 => isRu r56 = true ∧ f_Floor_against a1 μ_4 (fun r65 μ_5 => f_Worths_countMotion a1 r56 μ_5 (fun μ_6 => f_Worths_passesNow r56 r65 μ_6 (fun r78 μ_7 => ∃ m86 : Nat, l_Worths_findChanges_86 a1 r56 r65 r78 (fun (μ_12 : Mem) => k μ_12) m86 0 μ_7))))) else (k μ_3)) m2 0 μ
theorem L_Worths_findChanges_2 {l : Launch} {Γ : Gam} {g : Nat} {a1 : Int} {X_2_33 : Mem → Prop} {k : Mem → Prop} (hX_2_33 : ∀ (ν : Mem), StatR ν.2.2 → X_2_33 ν → SW l Γ yX10_findChanges.cls cX10_findChanges Y_Worths_findChanges (pV k) g 175 0 0 ν 33 [(0, vr Γ 101), (1, vi a1)] []) (n9 : Nat) : ∀ (v2 : Int) (μ_1 : Mem), StatR μ_1.2.2 → l_Worths_findChanges_2 a1 X_2_33 n9 v2 μ_1 → SW l Γ yX10_findChanges.cls cX10_findChanges Y_Worths_findChanges (pV k) g 175 0 0 μ_1 2 [(0, vr Γ 101), (1, vi a1), (2, vi v2)] [] := by
  induction n9 with
  | zero =>
    intro v2 μ_1 hs h
    exact h.elim
  | succ n9 hR_2 =>
    intro v2 μ_1 hs h
    rw [l_Worths_findChanges_2] at h
    refine z_iload_n dX10_findChanges_2 rfl 2 rfl ?_
    refine z_rload_n dX10_findChanges_3 rfl 0 rfl ?_
    refine z_getR (q := 13928) ff_10_0 dX10_findChanges_4 kt_101 (Nat.le_of_ble_eq_true rfl) fl_X10_46 rfl (hs.1 _ _ sr_13928) ?_
    refine z_getI (q := 1136) ff_7_8 dX10_findChanges_7 kt_1 (Nat.le_of_ble_eq_true rfl) fl_X10_174 rfl ?_
    refine z_icmp_ge (tgt := 33) dX10_findChanges_10 (by decide) h (fun h => ?_) (fun h => ?_)
    · refine z_rload_n dX10_findChanges_13 rfl 0 rfl ?_
      refine z_getR (q := 13942) ff_10_14 dX10_findChanges_14 kt_101 (Nat.le_of_ble_eq_true rfl) fl_X10_40 rfl (hs.1 _ _ sr_13942) ?_
      refine z_iload_n dX10_findChanges_17 rfl 2 rfl ?_
      refine z_bipush dX10_findChanges_18 (by decide) ?_
      refine z_imul dX10_findChanges_20 ?_
      refine z_iload_n dX10_findChanges_21 rfl 1 rfl ?_
      refine z_iadd dX10_findChanges_22 ?_
      refine z_iconst dX10_findChanges_23 ?_
      refine z_NM (i_X11_set kt_111 (Nat.le_of_ble_eq_true rfl)) ok_X11_set nw_X10_62 ⟨Nat.le_of_ble_eq_true rfl, Nat.le_of_ble_eq_true rfl⟩ ⟨Nat.zero_le _, Nat.zero_le _⟩ rfl rfl (Nat.le_of_ble_eq_true rfl) dX10_findChanges_24 ?_
      refine z_mm (fun μ_2 eμ_2 => ?_)
      replace h := h μ_2 eμ_2
      replace hs : StatR μ_2.2.2 := by rw [eμ_2]; exact (StatR.set hs)
      refine z_iinc (j := 2) (lv' := [(2, vi (v2 + 1)), (0, vr Γ 101), (1, vi a1)]) dX10_findChanges_27 rfl (Nat.le_of_ble_eq_true rfl) rfl ?_
      refine z_goto (tgt := 2) dX10_findChanges_30 (by decide) ?_
      refine z_sub (lv' := [(0, vr Γ 101), (1, vi a1), (2, vi (v2 + 1))]) [1, 2, 0] rfl ?_
      exact hR_2 (v2 + 1) μ_2 hs h
    · refine z_sub (lv' := [(0, vr Γ 101), (1, vi a1)]) [0, 1] rfl ?_
      exact hX_2_33 μ_1 hs h
theorem L_Worths_findChanges_86 {l : Launch} {Γ : Gam} {g : Nat} {a1 : Int} {r56 : Nat} {r65 : Int} {r78 : Int} {X_86_149 : Mem → Prop} {k : Mem → Prop} (hr_r56 : isRu r56 = true) (hX_86_149 : ∀ (ν : Mem), StatR ν.2.2 → X_86_149 ν → SW l Γ yX10_findChanges.cls cX10_findChanges Y_Worths_findChanges (pV k) g 175 0 0 ν 149 [] []) (n9 : Nat) : ∀ (v5 : Int) (μ_8 : Mem), StatR μ_8.2.2 → l_Worths_findChanges_86 a1 r56 r65 r78 X_86_149 n9 v5 μ_8 → SW l Γ yX10_findChanges.cls cX10_findChanges Y_Worths_findChanges (pV k) g 175 0 0 μ_8 86 [(0, vr Γ 101), (1, vi a1), (2, vr Γ r56), (3, vi r65), (4, vi r78), (5, vi v5)] [] := by
  induction n9 with
  | zero =>
    intro v5 μ_8 hs h
    exact h.elim
  | succ n9 hR_86 =>
    intro v5 μ_8 hs h
    rw [l_Worths_findChanges_86] at h
    refine z_iload dX10_findChanges_86 5 rfl ?_
    refine z_rload_n dX10_findChanges_88 rfl 0 rfl ?_
    refine z_getR (q := 13928) ff_10_0 dX10_findChanges_89 kt_101 (Nat.le_of_ble_eq_true rfl) fl_X10_46 rfl (hs.1 _ _ sr_13928) ?_
    refine z_getI (q := 1136) ff_7_8 dX10_findChanges_92 kt_1 (Nat.le_of_ble_eq_true rfl) fl_X10_174 rfl ?_
    refine z_icmp_ge (tgt := 149) dX10_findChanges_95 (by decide) h (fun h => ?_) (fun h => ?_)
    · refine z_rload_n dX10_findChanges_98 rfl 0 rfl ?_
      refine z_getR (q := 13931) ff_10_3 dX10_findChanges_99 kt_101 (Nat.le_of_ble_eq_true rfl) fl_X10_58 rfl (hs.1 _ _ sr_13931) ?_
      refine z_iload dX10_findChanges_102 5 rfl ?_
      refine z_VE (i_Count_voiceTaken hs) vk_X2_voiceTaken kt_73 (Nat.le_of_ble_eq_true rfl) rfl ml_X10_186 ⟨Nat.le_of_ble_eq_true rfl, Nat.le_of_ble_eq_true rfl⟩ ⟨Nat.zero_le _, Nat.zero_le _⟩ rfl rfl (Nat.le_of_ble_eq_true rfl) dX10_findChanges_104 ?_
      refine z_iconst dX10_findChanges_107 ?_
      refine z_icmp_eq (tgt := 143) dX10_findChanges_108 (by decide) h (fun h => ?_) (fun h => ?_)
      · refine z_iinc (j := 5) (lv' := [(5, vi (v5 + 1)), (0, vr Γ 101), (1, vi a1), (2, vr Γ r56), (3, vi r65), (4, vi r78)]) dX10_findChanges_143 rfl (Nat.le_of_ble_eq_true rfl) rfl ?_
        refine z_goto (tgt := 86) dX10_findChanges_146 (by decide) ?_
        refine z_sub (lv' := [(0, vr Γ 101), (1, vi a1), (2, vr Γ r56), (3, vi r65), (4, vi r78), (5, vi (v5 + 1))]) [1, 2, 3, 4, 5, 0] rfl ?_
        exact hR_86 (v5 + 1) μ_8 hs h
      · refine z_rload_n dX10_findChanges_111 rfl 0 rfl ?_
        refine z_getR (q := 13931) ff_10_3 dX10_findChanges_112 kt_101 (Nat.le_of_ble_eq_true rfl) fl_X10_58 rfl (hs.1 _ _ sr_13931) ?_
        refine z_iload dX10_findChanges_115 5 rfl ?_
        refine z_VU (i_Count_sumUp  hs h) vk_X2_sumUp kt_73 (Nat.le_of_ble_eq_true rfl) rfl ml_X10_86 ⟨Nat.le_of_ble_eq_true rfl, Nat.le_of_ble_eq_true rfl⟩ ⟨Nat.zero_le _, Nat.zero_le _⟩ rfl rfl (Nat.le_of_ble_eq_true rfl) dX10_findChanges_117 (fun μ_9 hs h => ?_)
        refine z_rload_n dX10_findChanges_120 rfl 0 rfl ?_
        refine z_getR (q := 13942) ff_10_14 dX10_findChanges_121 kt_101 (Nat.le_of_ble_eq_true rfl) fl_X10_40 rfl (hs.1 _ _ sr_13942) ?_
        refine z_iload dX10_findChanges_124 5 rfl ?_
        refine z_bipush dX10_findChanges_126 (by decide) ?_
        refine z_imul dX10_findChanges_128 ?_
        refine z_iload_n dX10_findChanges_129 rfl 1 rfl ?_
        refine z_iadd dX10_findChanges_130 ?_
        refine z_rload_n dX10_findChanges_131 rfl 0 rfl ?_
        refine z_rload_n dX10_findChanges_132 rfl 2 rfl ?_
        refine z_iload_n dX10_findChanges_133 rfl 3 rfl ?_
        refine z_VI (i_Worths_passesNow hr_r56 hs h) vk_X10_passesNow kt_101 (Nat.le_of_ble_eq_true rfl) rfl ml_X10_116 ⟨Nat.le_of_ble_eq_true rfl, Nat.le_of_ble_eq_true rfl⟩ ⟨Nat.zero_le _, Nat.zero_le _⟩ rfl rfl (Nat.le_of_ble_eq_true rfl) dX10_findChanges_134 (fun r134 μ_10 hs h => ?_)
        refine z_iload dX10_findChanges_137 4 rfl ?_
        refine z_isub dX10_findChanges_139 ?_
        refine z_NM (i_X11_set kt_111 (Nat.le_of_ble_eq_true rfl)) ok_X11_set nw_X10_62 ⟨Nat.le_of_ble_eq_true rfl, Nat.le_of_ble_eq_true rfl⟩ ⟨Nat.zero_le _, Nat.zero_le _⟩ rfl rfl (Nat.le_of_ble_eq_true rfl) dX10_findChanges_140 ?_
        refine z_mm (fun μ_11 eμ_11 => ?_)
        replace h := h μ_11 eμ_11
        replace hs : StatR μ_11.2.2 := by rw [eμ_11]; exact (StatR.set hs)
        refine z_iinc (j := 5) (lv' := [(5, vi (v5 + 1)), (0, vr Γ 101), (1, vi a1), (2, vr Γ r56), (3, vi r65), (4, vi r78)]) dX10_findChanges_143 rfl (Nat.le_of_ble_eq_true rfl) rfl ?_
        refine z_goto (tgt := 86) dX10_findChanges_146 (by decide) ?_
        refine z_sub (lv' := [(0, vr Γ 101), (1, vi a1), (2, vr Γ r56), (3, vi r65), (4, vi r78), (5, vi (v5 + 1))]) [1, 2, 3, 4, 5, 0] rfl ?_
        exact hR_86 (v5 + 1) μ_11 hs h
    · refine z_sub (lv' := []) [] rfl ?_
      exact hX_86_149 μ_8 hs h
theorem i_Worths_findChanges {l : Launch} {Γ : Gam} {g : Nat} {a1 : Int} {μ : Mem} {k : Mem → Prop} (hs : StatR μ.2.2) (h : f_Worths_findChanges a1 μ k) : CT l Γ yX10_findChanges cX10_findChanges 6 none 5 120 0 0 [vr Γ 101, vi a1] g 175 μ (pV k) := by
  refine SW.ct (by decide) (Nat.le_of_ble_eq_true rfl) ?_
  refine z_sub (lv' := [(0, vr Γ 101), (1, vi a1)]) [0, 1] rfl ?_
  show SW l Γ yX10_findChanges.cls cX10_findChanges Y_Worths_findChanges (pV k) g 175 0 0 μ 0 [(0, vr Γ 101), (1, vi a1)] []
  unfold f_Worths_findChanges at h
  refine z_iconst dX10_findChanges_0 ?_
  refine z_istore_n (lv' := [(2, vi 0), (0, vr Γ 101), (1, vi a1)]) dX10_findChanges_1 rfl (Nat.le_of_ble_eq_true rfl) rfl ?_
  obtain ⟨m2, h⟩ := h
  refine z_sub (lv' := [(0, vr Γ 101), (1, vi a1), (2, vi 0)]) [1, 2, 0] rfl ?_
  refine L_Worths_findChanges_2 (fun μ_3 hs h => ?_) m2 0 μ hs h
  refine z_rload_n dX10_findChanges_33 rfl 0 rfl ?_
  refine z_getR (q := 13930) ff_10_2 dX10_findChanges_34 kt_101 (Nat.le_of_ble_eq_true rfl) fl_X10_54 rfl (hs.1 _ _ sr_13930) ?_
  refine z_iload_n dX10_findChanges_37 rfl 1 rfl ?_
  refine z_VE (i_Floor_stateOf hs) vk_X3_stateOf kt_67 (Nat.le_of_ble_eq_true rfl) rfl ml_X10_180 ⟨Nat.le_of_ble_eq_true rfl, Nat.le_of_ble_eq_true rfl⟩ ⟨Nat.zero_le _, Nat.zero_le _⟩ rfl rfl (Nat.le_of_ble_eq_true rfl) dX10_findChanges_38 ?_
  refine z_if_eq (tgt := 45) dX10_findChanges_41 (by decide) h (fun h => ?_) (fun h => ?_)
  · refine z_rload_n dX10_findChanges_45 rfl 0 rfl ?_
    refine z_getR (q := 13929) ff_10_1 dX10_findChanges_46 kt_101 (Nat.le_of_ble_eq_true rfl) fl_X10_50 rfl (hs.1 _ _ sr_13929) ?_
    refine z_rload_n dX10_findChanges_49 rfl 0 rfl ?_
    refine z_getR (q := 13930) ff_10_2 dX10_findChanges_50 kt_101 (Nat.le_of_ble_eq_true rfl) fl_X10_54 rfl (hs.1 _ _ sr_13930) ?_
    refine z_getI (q := 9584) ff_3_8 dX10_findChanges_53 kt_67 (Nat.le_of_ble_eq_true rfl) fl_X10_103 rfl ?_
    refine z_VA (i_Papers_inForce  hs h) vk_X6_inForce kt_12 (Nat.le_of_ble_eq_true rfl) rfl ml_X10_106 ⟨Nat.le_of_ble_eq_true rfl, Nat.le_of_ble_eq_true rfl⟩ ⟨Nat.zero_le _, Nat.zero_le _⟩ rfl rfl (Nat.le_of_ble_eq_true rfl) dX10_findChanges_56 (fun r56 μ_4 hs h => ?_)
    obtain ⟨hr_r56, h⟩ := h
    refine z_rstore_n (lv' := [(2, vr Γ r56), (0, vr Γ 101), (1, vi a1)]) dX10_findChanges_59 rfl (Nat.le_of_ble_eq_true rfl) rfl ?_
    refine z_rload_n dX10_findChanges_60 rfl 1 rfl ?_
    refine z_getR (q := 13930) ff_10_2 dX10_findChanges_61 kt_101 (Nat.le_of_ble_eq_true rfl) fl_X10_54 rfl (hs.1 _ _ sr_13930) ?_
    refine z_iload_n dX10_findChanges_64 rfl 2 rfl ?_
    refine z_VI (i_Floor_against  hs h) vk_X3_against kt_67 (Nat.le_of_ble_eq_true rfl) rfl ml_X10_183 ⟨Nat.le_of_ble_eq_true rfl, Nat.le_of_ble_eq_true rfl⟩ ⟨Nat.zero_le _, Nat.zero_le _⟩ rfl rfl (Nat.le_of_ble_eq_true rfl) dX10_findChanges_65 (fun r65 μ_5 hs h => ?_)
    refine z_istore_n (lv' := [(3, vi r65), (2, vr Γ r56), (0, vr Γ 101), (1, vi a1)]) dX10_findChanges_68 rfl (Nat.le_of_ble_eq_true rfl) rfl ?_
    refine z_rload_n dX10_findChanges_69 rfl 2 rfl ?_
    refine z_iload_n dX10_findChanges_70 rfl 3 rfl ?_
    refine z_rload_n dX10_findChanges_71 rfl 1 rfl ?_
    refine z_VU (i_Worths_countMotion hr_r56 hs h) vk_X10_countMotion kt_101 (Nat.le_of_ble_eq_true rfl) rfl ml_X10_112 ⟨Nat.le_of_ble_eq_true rfl, Nat.le_of_ble_eq_true rfl⟩ ⟨Nat.zero_le _, Nat.zero_le _⟩ rfl rfl (Nat.le_of_ble_eq_true rfl) dX10_findChanges_72 (fun μ_6 hs h => ?_)
    refine z_rload_n dX10_findChanges_75 rfl 2 rfl ?_
    refine z_rload_n dX10_findChanges_76 rfl 1 rfl ?_
    refine z_iload_n dX10_findChanges_77 rfl 0 rfl ?_
    refine z_VI (i_Worths_passesNow hr_r56 hs h) vk_X10_passesNow kt_101 (Nat.le_of_ble_eq_true rfl) rfl ml_X10_116 ⟨Nat.le_of_ble_eq_true rfl, Nat.le_of_ble_eq_true rfl⟩ ⟨Nat.zero_le _, Nat.zero_le _⟩ rfl rfl (Nat.le_of_ble_eq_true rfl) dX10_findChanges_78 (fun r78 μ_7 hs h => ?_)
    refine z_istore (lv' := [(4, vi r78), (3, vi r65), (2, vr Γ r56), (0, vr Γ 101), (1, vi a1)]) dX10_findChanges_81 (Nat.le_of_ble_eq_true rfl) rfl ?_
    refine z_iconst dX10_findChanges_83 ?_
    refine z_istore (lv' := [(5, vi 0), (4, vi r78), (3, vi r65), (2, vr Γ r56), (0, vr Γ 101), (1, vi a1)]) dX10_findChanges_84 (Nat.le_of_ble_eq_true rfl) rfl ?_
    obtain ⟨m86, h⟩ := h
    refine z_sub (lv' := [(0, vr Γ 101), (1, vi a1), (2, vr Γ r56), (3, vi r65), (4, vi r78), (5, vi 0)]) [4, 5, 3, 2, 1, 0] rfl ?_
    refine L_Worths_findChanges_86 hr_r56 (fun μ_12 hs h => ?_) m86 0 μ_7 hs h
    exact z_vret rfl dX10_findChanges_149 rfl rfl rfl ⟨rfl, hs, h⟩
  · exact z_vret rfl dX10_findChanges_44 rfl rfl rfl ⟨rfl, hs, h⟩
abbrev Y_Worths_keepIfBetter : Yt := (9, none, yX10_keepIfBetter.name, { frames := 2, cells := 0, slots := 0, locals := 43 }, 175, 0, 0)
def b_Worths_keepIfBetter_42 (k : Mem → Prop) (v1 : Int) (v2 : Int) (v3 : Int) (v4 : Int) (v5_1 : Int) (v6_1 : Int) (μ_1 : Mem) : Prop := ∀ v7 : Int, v7 = ((v_Worths_worthFor v1 v3 μ_1) * v5_1) + ((v_Worths_worthFor v1 v4 μ_1) * v6_1) → ∀ v8 : Int, v8 = ((v_Worths_worthFor v2 v3 μ_1) * v5_1) + ((v_Worths_worthFor v2 v4 μ_1) * v6_1) → if 0 < w v7 then (if 0 < w v8 then (if w ((at' μ_1 112 6 4) + (at' μ_1 112 6 5)) < w (v7 + v8) then (∀ μ_2 : Mem, μ_2 = set' μ_1 112 6 0 v1 → ∀ μ_3 : Mem, μ_3 = set' μ_2 112 6 1 v2 → ∀ μ_4 : Mem, μ_4 = set' μ_3 112 6 2 v3 → ∀ μ_5 : Mem, μ_5 = set' μ_4 112 6 3 v4 → ∀ μ_6 : Mem, μ_6 = set' μ_5 112 6 4 v7 → ∀ μ_7 : Mem, μ_7 = set' μ_6 112 6 5 v8 → k μ_7) else (k μ_1)) else (k μ_1)) else (k μ_1)
def f_Worths_keepIfBetter (a1 : Int) (a2 : Int) (a3 : Int) (a4 : Int) (μ : Mem) (k : Mem → Prop) : Prop := ∀ v5 : Int, v5 = at' μ 111 288 ((a1 * 24) + a3) → ∀ v6 : Int, v6 = at' μ 111 288 ((a2 * 24) + a4) → if w v5 = 0 then (if w v6 = 0 then (k μ) else (b_Worths_keepIfBetter_42 k a1 a2 a3 a4 v5 v6 μ)) else (b_Worths_keepIfBetter_42 k a1 a2 a3 a4 v5 v6 μ)
theorem B_Worths_keepIfBetter_42 {l : Launch} {Γ : Gam} {g : Nat} {k : Mem → Prop} {v1 : Int} {v2 : Int} {v3 : Int} {v4 : Int} {v5_1 : Int} {v6_1 : Int} {μ_1 : Mem} (hs : StatR μ_1.2.2) (h : b_Worths_keepIfBetter_42 k v1 v2 v3 v4 v5_1 v6_1 μ_1) : SW l Γ yX10_keepIfBetter.cls cX10_keepIfBetter Y_Worths_keepIfBetter (pV k) g 175 0 0 μ_1 42 [(0, vr Γ 101), (1, vi v1), (2, vi v2), (3, vi v3), (4, vi v4), (5, vi v5_1), (6, vi v6_1)] [] := by
  unfold b_Worths_keepIfBetter_42 at h
  refine z_rload_n dX10_keepIfBetter_42 rfl 0 rfl ?_
  refine z_iload_n dX10_keepIfBetter_43 rfl 1 rfl ?_
  refine z_iload_n dX10_keepIfBetter_44 rfl 3 rfl ?_
  refine z_VE (i_Worths_worthFor hs) vk_X10_worthFor kt_101 (Nat.le_of_ble_eq_true rfl) rfl ml_X10_145 ⟨Nat.le_of_ble_eq_true rfl, Nat.le_of_ble_eq_true rfl⟩ ⟨Nat.zero_le _, Nat.zero_le _⟩ rfl rfl (Nat.le_of_ble_eq_true rfl) dX10_keepIfBetter_45 ?_
  refine z_iload dX10_keepIfBetter_48 5 rfl ?_
  refine z_imul dX10_keepIfBetter_50 ?_
  refine z_rload_n dX10_keepIfBetter_51 rfl 0 rfl ?_
  refine z_iload_n dX10_keepIfBetter_52 rfl 1 rfl ?_
  refine z_iload dX10_keepIfBetter_53 4 rfl ?_
  refine z_VE (i_Worths_worthFor hs) vk_X10_worthFor kt_101 (Nat.le_of_ble_eq_true rfl) rfl ml_X10_145 ⟨Nat.le_of_ble_eq_true rfl, Nat.le_of_ble_eq_true rfl⟩ ⟨Nat.zero_le _, Nat.zero_le _⟩ rfl rfl (Nat.le_of_ble_eq_true rfl) dX10_keepIfBetter_55 ?_
  refine z_iload dX10_keepIfBetter_58 6 rfl ?_
  refine z_imul dX10_keepIfBetter_60 ?_
  refine z_iadd dX10_keepIfBetter_61 ?_
  refine z_nm (fun v7 ev7 => ?_)
  replace h := h v7 ev7
  refine z_istore (lv' := [(7, vi v7), (0, vr Γ 101), (1, vi v1), (2, vi v2), (3, vi v3), (4, vi v4), (5, vi v5_1), (6, vi v6_1)]) dX10_keepIfBetter_62 (Nat.le_of_ble_eq_true rfl) rfl ?_
  refine z_rload_n dX10_keepIfBetter_64 rfl 1 rfl ?_
  refine z_iload_n dX10_keepIfBetter_65 rfl 3 rfl ?_
  refine z_iload_n dX10_keepIfBetter_66 rfl 4 rfl ?_
  refine z_VE (i_Worths_worthFor hs) vk_X10_worthFor kt_101 (Nat.le_of_ble_eq_true rfl) rfl ml_X10_145 ⟨Nat.le_of_ble_eq_true rfl, Nat.le_of_ble_eq_true rfl⟩ ⟨Nat.zero_le _, Nat.zero_le _⟩ rfl rfl (Nat.le_of_ble_eq_true rfl) dX10_keepIfBetter_67 ?_
  refine z_iload dX10_keepIfBetter_70 6 rfl ?_
  refine z_imul dX10_keepIfBetter_72 ?_
  refine z_rload_n dX10_keepIfBetter_73 rfl 1 rfl ?_
  refine z_iload_n dX10_keepIfBetter_74 rfl 3 rfl ?_
  refine z_iload dX10_keepIfBetter_75 5 rfl ?_
  refine z_VE (i_Worths_worthFor hs) vk_X10_worthFor kt_101 (Nat.le_of_ble_eq_true rfl) rfl ml_X10_145 ⟨Nat.le_of_ble_eq_true rfl, Nat.le_of_ble_eq_true rfl⟩ ⟨Nat.zero_le _, Nat.zero_le _⟩ rfl rfl (Nat.le_of_ble_eq_true rfl) dX10_keepIfBetter_77 ?_
  refine z_iload dX10_keepIfBetter_80 7 rfl ?_
  refine z_imul dX10_keepIfBetter_82 ?_
  refine z_iadd dX10_keepIfBetter_83 ?_
  refine z_nm (fun v8 ev8 => ?_)
  replace h := h v8 ev8
  refine z_istore (lv' := [(8, vi v8), (7, vi v7), (0, vr Γ 101), (1, vi v1), (2, vi v2), (3, vi v3), (4, vi v4), (5, vi v5_1), (6, vi v6_1)]) dX10_keepIfBetter_84 (Nat.le_of_ble_eq_true rfl) rfl ?_
  refine z_iload dX10_keepIfBetter_86 1 rfl ?_
  refine z_if_le (tgt := 178) dX10_keepIfBetter_88 (by decide) h (fun h => ?_) (fun h => ?_)
  · refine z_iload dX10_keepIfBetter_91 0 rfl ?_
    refine z_if_le (tgt := 178) dX10_keepIfBetter_93 (by decide) h (fun h => ?_) (fun h => ?_)
    · refine z_iload dX10_keepIfBetter_96 1 rfl ?_
      refine z_iload dX10_keepIfBetter_98 0 rfl ?_
      refine z_iadd dX10_keepIfBetter_100 ?_
      refine z_rload_n dX10_keepIfBetter_101 rfl 2 rfl ?_
      refine z_getR (q := 13943) ff_10_15 dX10_keepIfBetter_102 kt_101 (Nat.le_of_ble_eq_true rfl) fl_X10_43 rfl (hs.1 _ _ sr_13943) ?_
      refine z_iconst dX10_keepIfBetter_105 ?_
      refine z_NE (i_X11_at kt_112 (Nat.le_of_ble_eq_true rfl)) ok_X11_at nw_X10_66 ⟨Nat.le_of_ble_eq_true rfl, Nat.le_of_ble_eq_true rfl⟩ ⟨Nat.zero_le _, Nat.zero_le _⟩ rfl rfl (Nat.le_of_ble_eq_true rfl) dX10_keepIfBetter_106 ?_
      refine z_rload_n dX10_keepIfBetter_109 rfl 2 rfl ?_
      refine z_getR (q := 13943) ff_10_15 dX10_keepIfBetter_110 kt_101 (Nat.le_of_ble_eq_true rfl) fl_X10_43 rfl (hs.1 _ _ sr_13943) ?_
      refine z_iconst dX10_keepIfBetter_113 ?_
      refine z_NE (i_X11_at kt_112 (Nat.le_of_ble_eq_true rfl)) ok_X11_at nw_X10_66 ⟨Nat.le_of_ble_eq_true rfl, Nat.le_of_ble_eq_true rfl⟩ ⟨Nat.zero_le _, Nat.zero_le _⟩ rfl rfl (Nat.le_of_ble_eq_true rfl) dX10_keepIfBetter_114 ?_
      refine z_iadd dX10_keepIfBetter_117 ?_
      refine z_icmp_le (tgt := 178) dX10_keepIfBetter_118 (by decide) h (fun h => ?_) (fun h => ?_)
      · refine z_rload_n dX10_keepIfBetter_121 rfl 2 rfl ?_
        refine z_getR (q := 13943) ff_10_15 dX10_keepIfBetter_122 kt_101 (Nat.le_of_ble_eq_true rfl) fl_X10_43 rfl (hs.1 _ _ sr_13943) ?_
        refine z_iconst dX10_keepIfBetter_125 ?_
        refine z_iload_n dX10_keepIfBetter_126 rfl 3 rfl ?_
        refine z_NM (i_X11_set kt_112 (Nat.le_of_ble_eq_true rfl)) ok_X11_set nw_X10_62 ⟨Nat.le_of_ble_eq_true rfl, Nat.le_of_ble_eq_true rfl⟩ ⟨Nat.zero_le _, Nat.zero_le _⟩ rfl rfl (Nat.le_of_ble_eq_true rfl) dX10_keepIfBetter_127 ?_
        refine z_mm (fun μ_2 eμ_2 => ?_)
        replace h := h μ_2 eμ_2
        replace hs : StatR μ_2.2.2 := by rw [eμ_2]; exact (StatR.set hs)
        refine z_rload_n dX10_keepIfBetter_130 rfl 2 rfl ?_
        refine z_getR (q := 13943) ff_10_15 dX10_keepIfBetter_131 kt_101 (Nat.le_of_ble_eq_true rfl) fl_X10_43 rfl (hs.1 _ _ sr_13943) ?_
        refine z_iconst dX10_keepIfBetter_134 ?_
        refine z_iload_n dX10_keepIfBetter_135 rfl 4 rfl ?_
        refine z_NM (i_X11_set kt_112 (Nat.le_of_ble_eq_true rfl)) ok_X11_set nw_X10_62 ⟨Nat.le_of_ble_eq_true rfl, Nat.le_of_ble_eq_true rfl⟩ ⟨Nat.zero_le _, Nat.zero_le _⟩ rfl rfl (Nat.le_of_ble_eq_true rfl) dX10_keepIfBetter_136 ?_
        refine z_mm (fun μ_3 eμ_3 => ?_)
        replace h := h μ_3 eμ_3
        replace hs : StatR μ_3.2.2 := by rw [eμ_3]; exact (StatR.set hs)
        refine z_rload_n dX10_keepIfBetter_139 rfl 2 rfl ?_
        refine z_getR (q := 13943) ff_10_15 dX10_keepIfBetter_140 kt_101 (Nat.le_of_ble_eq_true rfl) fl_X10_43 rfl (hs.1 _ _ sr_13943) ?_
        refine z_iconst dX10_keepIfBetter_143 ?_
        refine z_iload_n dX10_keepIfBetter_144 rfl 5 rfl ?_
        refine z_NM (i_X11_set kt_112 (Nat.le_of_ble_eq_true rfl)) ok_X11_set nw_X10_62 ⟨Nat.le_of_ble_eq_true rfl, Nat.le_of_ble_eq_true rfl⟩ ⟨Nat.zero_le _, Nat.zero_le _⟩ rfl rfl (Nat.le_of_ble_eq_true rfl) dX10_keepIfBetter_145 ?_
        refine z_mm (fun μ_4 eμ_4 => ?_)
        replace h := h μ_4 eμ_4
        replace hs : StatR μ_4.2.2 := by rw [eμ_4]; exact (StatR.set hs)
        refine z_rload_n dX10_keepIfBetter_148 rfl 2 rfl ?_
        refine z_getR (q := 13943) ff_10_15 dX10_keepIfBetter_149 kt_101 (Nat.le_of_ble_eq_true rfl) fl_X10_43 rfl (hs.1 _ _ sr_13943) ?_
        refine z_iconst dX10_keepIfBetter_152 ?_
        refine z_iload dX10_keepIfBetter_153 6 rfl ?_
        refine z_NM (i_X11_set kt_112 (Nat.le_of_ble_eq_true rfl)) ok_X11_set nw_X10_62 ⟨Nat.le_of_ble_eq_true rfl, Nat.le_of_ble_eq_true rfl⟩ ⟨Nat.zero_le _, Nat.zero_le _⟩ rfl rfl (Nat.le_of_ble_eq_true rfl) dX10_keepIfBetter_155 ?_
        refine z_mm (fun μ_5 eμ_5 => ?_)
        replace h := h μ_5 eμ_5
        replace hs : StatR μ_5.2.2 := by rw [eμ_5]; exact (StatR.set hs)
        refine z_rload_n dX10_keepIfBetter_158 rfl 2 rfl ?_
        refine z_getR (q := 13943) ff_10_15 dX10_keepIfBetter_159 kt_101 (Nat.le_of_ble_eq_true rfl) fl_X10_43 rfl (hs.1 _ _ sr_13943) ?_
        refine z_iconst dX10_keepIfBetter_162 ?_
        refine z_iload dX10_keepIfBetter_163 1 rfl ?_
        refine z_NM (i_X11_set kt_112 (Nat.le_of_ble_eq_true rfl)) ok_X11_set nw_X10_62 ⟨Nat.le_of_ble_eq_true rfl, Nat.le_of_ble_eq_true rfl⟩ ⟨Nat.zero_le _, Nat.zero_le _⟩ rfl rfl (Nat.le_of_ble_eq_true rfl) dX10_keepIfBetter_165 ?_
        refine z_mm (fun μ_6 eμ_6 => ?_)
        replace h := h μ_6 eμ_6
        replace hs : StatR μ_6.2.2 := by rw [eμ_6]; exact (StatR.set hs)
        refine z_rload_n dX10_keepIfBetter_168 rfl 2 rfl ?_
        refine z_getR (q := 13943) ff_10_15 dX10_keepIfBetter_169 kt_101 (Nat.le_of_ble_eq_true rfl) fl_X10_43 rfl (hs.1 _ _ sr_13943) ?_
        refine z_iconst dX10_keepIfBetter_172 ?_
        refine z_iload dX10_keepIfBetter_173 0 rfl ?_
        refine z_NM (i_X11_set kt_112 (Nat.le_of_ble_eq_true rfl)) ok_X11_set nw_X10_62 ⟨Nat.le_of_ble_eq_true rfl, Nat.le_of_ble_eq_true rfl⟩ ⟨Nat.zero_le _, Nat.zero_le _⟩ rfl rfl (Nat.le_of_ble_eq_true rfl) dX10_keepIfBetter_175 ?_
        refine z_mm (fun μ_7 eμ_7 => ?_)
        replace h := h μ_7 eμ_7
        replace hs : StatR μ_7.2.2 := by rw [eμ_7]; exact (StatR.set hs)
        exact z_vret rfl dX10_keepIfBetter_178 rfl rfl rfl ⟨rfl, hs, h⟩
      · exact z_vret rfl dX10_keepIfBetter_178 rfl rfl rfl ⟨rfl, hs, h⟩
    · exact z_vret rfl dX10_keepIfBetter_178 rfl rfl rfl ⟨rfl, hs, h⟩
  · exact z_vret rfl dX10_keepIfBetter_178 rfl rfl rfl ⟨rfl, hs, h⟩
theorem i_Worths_keepIfBetter {l : Launch} {Γ : Gam} {g : Nat} {a1 : Int} {a2 : Int} {a3 : Int} {a4 : Int} {μ : Mem} {k : Mem → Prop} (hs : StatR μ.2.2) (h : f_Worths_keepIfBetter a1 a2 a3 a4 μ k) : CT l Γ yX10_keepIfBetter cX10_keepIfBetter 9 none 2 43 0 0 [vr Γ 101, vi a1, vi a2, vi a3, vi a4] g 175 μ (pV k) := by
  refine SW.ct (by decide) (Nat.le_of_ble_eq_true rfl) ?_
  refine z_sub (lv' := [(0, vr Γ 101), (1, vi a1), (2, vi a2), (3, vi a3), (4, vi a4)]) [0, 1, 2, 3, 4] rfl ?_
  show SW l Γ yX10_keepIfBetter.cls cX10_keepIfBetter Y_Worths_keepIfBetter (pV k) g 175 0 0 μ 0 [(0, vr Γ 101), (1, vi a1), (2, vi a2), (3, vi a3), (4, vi a4)] []
  unfold f_Worths_keepIfBetter at h
  refine z_rload_n dX10_keepIfBetter_0 rfl 0 rfl ?_
  refine z_getR (q := 13942) ff_10_14 dX10_keepIfBetter_1 kt_101 (Nat.le_of_ble_eq_true rfl) fl_X10_40 rfl (hs.1 _ _ sr_13942) ?_
  refine z_iload_n dX10_keepIfBetter_4 rfl 1 rfl ?_
  refine z_bipush dX10_keepIfBetter_5 (by decide) ?_
  refine z_imul dX10_keepIfBetter_7 ?_
  refine z_iload_n dX10_keepIfBetter_8 rfl 3 rfl ?_
  refine z_iadd dX10_keepIfBetter_9 ?_
  refine z_NE (i_X11_at kt_111 (Nat.le_of_ble_eq_true rfl)) ok_X11_at nw_X10_66 ⟨Nat.le_of_ble_eq_true rfl, Nat.le_of_ble_eq_true rfl⟩ ⟨Nat.zero_le _, Nat.zero_le _⟩ rfl rfl (Nat.le_of_ble_eq_true rfl) dX10_keepIfBetter_10 ?_
  refine z_nm (fun v5 ev5 => ?_)
  replace h := h v5 ev5
  refine z_istore (lv' := [(5, vi v5), (0, vr Γ 101), (1, vi a1), (2, vi a2), (3, vi a3), (4, vi a4)]) dX10_keepIfBetter_13 (Nat.le_of_ble_eq_true rfl) rfl ?_
  refine z_rload_n dX10_keepIfBetter_15 rfl 1 rfl ?_
  refine z_getR (q := 13942) ff_10_14 dX10_keepIfBetter_16 kt_101 (Nat.le_of_ble_eq_true rfl) fl_X10_40 rfl (hs.1 _ _ sr_13942) ?_
  refine z_iload_n dX10_keepIfBetter_19 rfl 3 rfl ?_
  refine z_bipush dX10_keepIfBetter_20 (by decide) ?_
  refine z_imul dX10_keepIfBetter_22 ?_
  refine z_iload dX10_keepIfBetter_23 5 rfl ?_
  refine z_iadd dX10_keepIfBetter_25 ?_
  refine z_NE (i_X11_at kt_111 (Nat.le_of_ble_eq_true rfl)) ok_X11_at nw_X10_66 ⟨Nat.le_of_ble_eq_true rfl, Nat.le_of_ble_eq_true rfl⟩ ⟨Nat.zero_le _, Nat.zero_le _⟩ rfl rfl (Nat.le_of_ble_eq_true rfl) dX10_keepIfBetter_26 ?_
  refine z_nm (fun v6 ev6 => ?_)
  replace h := h v6 ev6
  refine z_istore (lv' := [(6, vi v6), (5, vi v5), (0, vr Γ 101), (1, vi a1), (2, vi a2), (3, vi a3), (4, vi a4)]) dX10_keepIfBetter_29 (Nat.le_of_ble_eq_true rfl) rfl ?_
  refine z_iload dX10_keepIfBetter_31 1 rfl ?_
  refine z_if_ne (tgt := 42) dX10_keepIfBetter_33 (by decide) h (fun h => ?_) (fun h => ?_)
  · refine z_iload dX10_keepIfBetter_36 0 rfl ?_
    refine z_if_ne (tgt := 42) dX10_keepIfBetter_38 (by decide) h (fun h => ?_) (fun h => ?_)
    · exact z_vret rfl dX10_keepIfBetter_41 rfl rfl rfl ⟨rfl, hs, h⟩
    · refine z_sub (lv' := [(0, vr Γ 101), (1, vi a1), (2, vi a2), (3, vi a3), (4, vi a4), (5, vi v5), (6, vi v6)]) [2, 3, 4, 5, 6, 1, 0] rfl ?_
      exact B_Worths_keepIfBetter_42 hs h
  · refine z_sub (lv' := [(0, vr Γ 101), (1, vi a1), (2, vi a2), (3, vi a3), (4, vi a4), (5, vi v5), (6, vi v6)]) [2, 3, 4, 5, 6, 1, 0] rfl ?_
    exact B_Worths_keepIfBetter_42 hs h
abbrev Y_Worths_findDealOf : Yt := (5, none, yX10_findDealOf.name, { frames := 3, cells := 0, slots := 0, locals := 71 }, 175, 0, 0)
def l_Worths_findDealOf_36 (a1 : Int) (a2 : Int) (v3 : Int) (X_36_87 : Mem → Prop) : Nat → Int → Mem → Prop
  | 0, _, _ => False
  | fu36 + 1, v4, μ_2 => if w v4 < w (rI μ_2 2543 0) then (if w v4 = w v3 then ((l_Worths_findDealOf_36 a1 a2 v3 X_36_87 fu36) (v4 + 1) μ_2) else (if w (at' μ_2 111 288 ((a2 * 24) + v4)) = w 2 then ((l_Worths_findDealOf_36 a1 a2 v3 X_36_87 fu36) (v4 + 1) μ_2) else (f_Worths_keepIfBetter a1 a2 v3 v4 μ_2 (fun μ_3 => (l_Worths_findDealOf_36 a1 a2 v3 X_36_87 fu36) (v4 + 1) μ_3)))) else (X_36_87 μ_2)
def l_Worths_findDealOf_2 (a1 : Int) (a2 : Int) (X_2_93 : Mem → Prop) : Nat → Int → Mem → Prop
  | 0, _, _ => False
  | fu2 + 1, v3, μ_1 => if w v3 < w (rI μ_1 2543 0) then (if w (at' μ_1 111 288 ((a1 * 24) + v3)) = w 2 then ((l_Worths_findDealOf_2 a1 a2 X_2_93 fu2) (v3 + 1) μ_1) else (∃ m36 : Nat, l_Worths_findDealOf_36 a1 a2 v3 (fun (μ_4 : Mem) => (l_Worths_findDealOf_2 a1 a2 X_2_93 fu2) (v3 + 1) μ_4) m36 0 μ_1)) else (X_2_93 μ_1)
def f_Worths_findDealOf (a1 : Int) (a2 : Int) (μ : Mem) (k : Mem → Prop) : Prop := ∃ m2 : Nat, l_Worths_findDealOf_2 a1 a2 (fun (μ_5 : Mem) => k μ_5) m2 0 μ
theorem L_Worths_findDealOf_36 {l : Launch} {Γ : Gam} {g : Nat} {a1 : Int} {a2 : Int} {v3 : Int} {X_36_87 : Mem → Prop} {k : Mem → Prop} (hX_36_87 : ∀ (ν : Mem), StatR ν.2.2 → X_36_87 ν → SW l Γ yX10_findDealOf.cls cX10_findDealOf Y_Worths_findDealOf (pV k) g 175 0 0 ν 87 [(0, vr Γ 101), (1, vi a1), (2, vi a2), (3, vi v3)] []) (n9 : Nat) : ∀ (v4 : Int) (μ_2 : Mem), StatR μ_2.2.2 → l_Worths_findDealOf_36 a1 a2 v3 X_36_87 n9 v4 μ_2 → SW l Γ yX10_findDealOf.cls cX10_findDealOf Y_Worths_findDealOf (pV k) g 175 0 0 μ_2 36 [(0, vr Γ 101), (1, vi a1), (2, vi a2), (3, vi v3), (4, vi v4)] [] := by
  induction n9 with
  | zero =>
    intro v4 μ_2 hs h
    exact h.elim
  | succ n9 hR_36 =>
    intro v4 μ_2 hs h
    rw [l_Worths_findDealOf_36] at h
    refine z_iload dX10_findDealOf_36 4 rfl ?_
    refine z_rload_n dX10_findDealOf_38 rfl 0 rfl ?_
    refine z_getR (q := 13929) ff_10_1 dX10_findDealOf_39 kt_101 (Nat.le_of_ble_eq_true rfl) fl_X10_50 rfl (hs.1 _ _ sr_13929) ?_
    refine z_getI (q := 2543) ff_6_7 dX10_findDealOf_42 kt_12 (Nat.le_of_ble_eq_true rfl) fl_X10_165 rfl ?_
    refine z_icmp_ge (tgt := 87) dX10_findDealOf_45 (by decide) h (fun h => ?_) (fun h => ?_)
    · refine z_iload dX10_findDealOf_48 4 rfl ?_
      refine z_iload_n dX10_findDealOf_50 rfl 3 rfl ?_
      refine z_icmp_eq (tgt := 81) dX10_findDealOf_51 (by decide) h (fun h => ?_) (fun h => ?_)
      · refine z_iinc (j := 4) (lv' := [(4, vi (v4 + 1)), (0, vr Γ 101), (1, vi a1), (2, vi a2), (3, vi v3)]) dX10_findDealOf_81 rfl (Nat.le_of_ble_eq_true rfl) rfl ?_
        refine z_goto (tgt := 36) dX10_findDealOf_84 (by decide) ?_
        refine z_sub (lv' := [(0, vr Γ 101), (1, vi a1), (2, vi a2), (3, vi v3), (4, vi (v4 + 1))]) [1, 2, 3, 4, 0] rfl ?_
        exact hR_36 (v4 + 1) μ_2 hs h
      · refine z_rload_n dX10_findDealOf_54 rfl 0 rfl ?_
        refine z_getR (q := 13942) ff_10_14 dX10_findDealOf_55 kt_101 (Nat.le_of_ble_eq_true rfl) fl_X10_40 rfl (hs.1 _ _ sr_13942) ?_
        refine z_iload_n dX10_findDealOf_58 rfl 2 rfl ?_
        refine z_bipush dX10_findDealOf_59 (by decide) ?_
        refine z_imul dX10_findDealOf_61 ?_
        refine z_iload dX10_findDealOf_62 4 rfl ?_
        refine z_iadd dX10_findDealOf_64 ?_
        refine z_NE (i_X11_at kt_111 (Nat.le_of_ble_eq_true rfl)) ok_X11_at nw_X10_66 ⟨Nat.le_of_ble_eq_true rfl, Nat.le_of_ble_eq_true rfl⟩ ⟨Nat.zero_le _, Nat.zero_le _⟩ rfl rfl (Nat.le_of_ble_eq_true rfl) dX10_findDealOf_65 ?_
        refine z_iconst dX10_findDealOf_68 ?_
        refine z_icmp_eq (tgt := 81) dX10_findDealOf_69 (by decide) h (fun h => ?_) (fun h => ?_)
        · refine z_iinc (j := 4) (lv' := [(4, vi (v4 + 1)), (0, vr Γ 101), (1, vi a1), (2, vi a2), (3, vi v3)]) dX10_findDealOf_81 rfl (Nat.le_of_ble_eq_true rfl) rfl ?_
          refine z_goto (tgt := 36) dX10_findDealOf_84 (by decide) ?_
          refine z_sub (lv' := [(0, vr Γ 101), (1, vi a1), (2, vi a2), (3, vi v3), (4, vi (v4 + 1))]) [1, 2, 3, 4, 0] rfl ?_
          exact hR_36 (v4 + 1) μ_2 hs h
        · refine z_rload_n dX10_findDealOf_72 rfl 0 rfl ?_
          refine z_iload_n dX10_findDealOf_73 rfl 1 rfl ?_
          refine z_iload_n dX10_findDealOf_74 rfl 2 rfl ?_
          refine z_iload_n dX10_findDealOf_75 rfl 3 rfl ?_
          refine z_iload dX10_findDealOf_76 4 rfl ?_
          refine z_VU (i_Worths_keepIfBetter  hs h) vk_X10_keepIfBetter kt_101 (Nat.le_of_ble_eq_true rfl) rfl ml_X10_189 ⟨Nat.le_of_ble_eq_true rfl, Nat.le_of_ble_eq_true rfl⟩ ⟨Nat.zero_le _, Nat.zero_le _⟩ rfl rfl (Nat.le_of_ble_eq_true rfl) dX10_findDealOf_78 (fun μ_3 hs h => ?_)
          refine z_iinc (j := 4) (lv' := [(4, vi (v4 + 1)), (0, vr Γ 101), (1, vi a1), (2, vi a2), (3, vi v3)]) dX10_findDealOf_81 rfl (Nat.le_of_ble_eq_true rfl) rfl ?_
          refine z_goto (tgt := 36) dX10_findDealOf_84 (by decide) ?_
          refine z_sub (lv' := [(0, vr Γ 101), (1, vi a1), (2, vi a2), (3, vi v3), (4, vi (v4 + 1))]) [1, 2, 3, 4, 0] rfl ?_
          exact hR_36 (v4 + 1) μ_3 hs h
    · refine z_sub (lv' := [(0, vr Γ 101), (1, vi a1), (2, vi a2), (3, vi v3)]) [0, 1, 2, 3] rfl ?_
      exact hX_36_87 μ_2 hs h
theorem L_Worths_findDealOf_2 {l : Launch} {Γ : Gam} {g : Nat} {a1 : Int} {a2 : Int} {X_2_93 : Mem → Prop} {k : Mem → Prop} (hX_2_93 : ∀ (ν : Mem), StatR ν.2.2 → X_2_93 ν → SW l Γ yX10_findDealOf.cls cX10_findDealOf Y_Worths_findDealOf (pV k) g 175 0 0 ν 93 [] []) (n9 : Nat) : ∀ (v3 : Int) (μ_1 : Mem), StatR μ_1.2.2 → l_Worths_findDealOf_2 a1 a2 X_2_93 n9 v3 μ_1 → SW l Γ yX10_findDealOf.cls cX10_findDealOf Y_Worths_findDealOf (pV k) g 175 0 0 μ_1 2 [(0, vr Γ 101), (1, vi a1), (2, vi a2), (3, vi v3)] [] := by
  induction n9 with
  | zero =>
    intro v3 μ_1 hs h
    exact h.elim
  | succ n9 hR_2 =>
    intro v3 μ_1 hs h
    rw [l_Worths_findDealOf_2] at h
    refine z_iload_n dX10_findDealOf_2 rfl 3 rfl ?_
    refine z_rload_n dX10_findDealOf_3 rfl 0 rfl ?_
    refine z_getR (q := 13929) ff_10_1 dX10_findDealOf_4 kt_101 (Nat.le_of_ble_eq_true rfl) fl_X10_50 rfl (hs.1 _ _ sr_13929) ?_
    refine z_getI (q := 2543) ff_6_7 dX10_findDealOf_7 kt_12 (Nat.le_of_ble_eq_true rfl) fl_X10_165 rfl ?_
    refine z_icmp_ge (tgt := 93) dX10_findDealOf_10 (by decide) h (fun h => ?_) (fun h => ?_)
    · refine z_rload_n dX10_findDealOf_13 rfl 0 rfl ?_
      refine z_getR (q := 13942) ff_10_14 dX10_findDealOf_14 kt_101 (Nat.le_of_ble_eq_true rfl) fl_X10_40 rfl (hs.1 _ _ sr_13942) ?_
      refine z_iload_n dX10_findDealOf_17 rfl 1 rfl ?_
      refine z_bipush dX10_findDealOf_18 (by decide) ?_
      refine z_imul dX10_findDealOf_20 ?_
      refine z_iload_n dX10_findDealOf_21 rfl 3 rfl ?_
      refine z_iadd dX10_findDealOf_22 ?_
      refine z_NE (i_X11_at kt_111 (Nat.le_of_ble_eq_true rfl)) ok_X11_at nw_X10_66 ⟨Nat.le_of_ble_eq_true rfl, Nat.le_of_ble_eq_true rfl⟩ ⟨Nat.zero_le _, Nat.zero_le _⟩ rfl rfl (Nat.le_of_ble_eq_true rfl) dX10_findDealOf_23 ?_
      refine z_iconst dX10_findDealOf_26 ?_
      refine z_icmp_ne (tgt := 33) dX10_findDealOf_27 (by decide) h (fun h => ?_) (fun h => ?_)
      · refine z_goto (tgt := 87) dX10_findDealOf_30 (by decide) ?_
        refine z_iinc (j := 3) (lv' := [(3, vi (v3 + 1)), (0, vr Γ 101), (1, vi a1), (2, vi a2)]) dX10_findDealOf_87 rfl (Nat.le_of_ble_eq_true rfl) rfl ?_
        refine z_goto (tgt := 2) dX10_findDealOf_90 (by decide) ?_
        refine z_sub (lv' := [(0, vr Γ 101), (1, vi a1), (2, vi a2), (3, vi (v3 + 1))]) [1, 2, 3, 0] rfl ?_
        exact hR_2 (v3 + 1) μ_1 hs h
      · refine z_iconst dX10_findDealOf_33 ?_
        refine z_istore (lv' := [(4, vi 0), (0, vr Γ 101), (1, vi a1), (2, vi a2), (3, vi v3)]) dX10_findDealOf_34 (Nat.le_of_ble_eq_true rfl) rfl ?_
        obtain ⟨m36, h⟩ := h
        refine z_sub (lv' := [(0, vr Γ 101), (1, vi a1), (2, vi a2), (3, vi v3), (4, vi 0)]) [1, 2, 3, 4, 0] rfl ?_
        refine L_Worths_findDealOf_36 (fun μ_4 hs h => ?_) m36 0 μ_1 hs h
        refine z_iinc (j := 3) (lv' := [(3, vi (v3 + 1)), (0, vr Γ 101), (1, vi a1), (2, vi a2)]) dX10_findDealOf_87 rfl (Nat.le_of_ble_eq_true rfl) rfl ?_
        refine z_goto (tgt := 2) dX10_findDealOf_90 (by decide) ?_
        refine z_sub (lv' := [(0, vr Γ 101), (1, vi a1), (2, vi a2), (3, vi (v3 + 1))]) [1, 2, 3, 0] rfl ?_
        exact hR_2 (v3 + 1) μ_4 hs h
    · refine z_sub (lv' := []) [] rfl ?_
      exact hX_2_93 μ_1 hs h
theorem i_Worths_findDealOf {l : Launch} {Γ : Gam} {g : Nat} {a1 : Int} {a2 : Int} {μ : Mem} {k : Mem → Prop} (hs : StatR μ.2.2) (h : f_Worths_findDealOf a1 a2 μ k) : CT l Γ yX10_findDealOf cX10_findDealOf 5 none 3 71 0 0 [vr Γ 101, vi a1, vi a2] g 175 μ (pV k) := by
  refine SW.ct (by decide) (Nat.le_of_ble_eq_true rfl) ?_
  refine z_sub (lv' := [(0, vr Γ 101), (1, vi a1), (2, vi a2)]) [0, 1, 2] rfl ?_
  show SW l Γ yX10_findDealOf.cls cX10_findDealOf Y_Worths_findDealOf (pV k) g 175 0 0 μ 0 [(0, vr Γ 101), (1, vi a1), (2, vi a2)] []
  unfold f_Worths_findDealOf at h
  refine z_iconst dX10_findDealOf_0 ?_
  refine z_istore_n (lv' := [(3, vi 0), (0, vr Γ 101), (1, vi a1), (2, vi a2)]) dX10_findDealOf_1 rfl (Nat.le_of_ble_eq_true rfl) rfl ?_
  obtain ⟨m2, h⟩ := h
  refine z_sub (lv' := [(0, vr Γ 101), (1, vi a1), (2, vi a2), (3, vi 0)]) [1, 2, 3, 0] rfl ?_
  refine L_Worths_findDealOf_2 (fun μ_5 hs h => ?_) m2 0 μ hs h
  exact z_vret rfl dX10_findDealOf_93 rfl rfl rfl ⟨rfl, hs, h⟩
abbrev Y_Worths_findDeal : Yt := (3, (some .boolean), yX10_findDeal.name, { frames := 6, cells := 0, slots := 0, locals := 145 }, 175, 0, 0)
def l_Worths_findDeal_2 (X_2_24 : Mem → Prop) : Nat → Int → Mem → Prop
  | 0, _, _ => False
  | fu2 + 1, v1, μ_1 => if w v1 < w (rI μ_1 2543 0) then (f_Worths_findChanges v1 μ_1 (fun μ_2 => (l_Worths_findDeal_2 X_2_24 fu2) (v1 + 1) μ_2)) else (X_2_24 μ_1)
def l_Worths_findDeal_49 (v1_1 : Int) (X_49_72 : Mem → Prop) : Nat → Int → Mem → Prop
  | 0, _, _ => False
  | fu49 + 1, v2, μ_6 => if w v2 < w (rI μ_6 1136 0) then (f_Worths_findDealOf v1_1 v2 μ_6 (fun μ_7 => (l_Worths_findDeal_49 v1_1 X_49_72 fu49) (v2 + 1) μ_7)) else (X_49_72 μ_6)
def l_Worths_findDeal_34 (X_34_78 : Mem → Prop) : Nat → Int → Mem → Prop
  | 0, _, _ => False
  | fu34 + 1, v1_1, μ_5 => if w v1_1 < w (rI μ_5 1136 0) then (∃ m49 : Nat, l_Worths_findDeal_49 v1_1 (fun (μ_8 : Mem) => (l_Worths_findDeal_34 X_34_78 fu34) (v1_1 + 1) μ_8) m49 (v1_1 + 1) μ_5) else (X_34_78 μ_5)
def f_Worths_findDeal  (μ : Mem) (k : Bool → Mem → Prop) : Prop := ∃ m2 : Nat, l_Worths_findDeal_2 (fun (μ_3 : Mem) => f_H_fill 112 6 0 μ_3 (fun μ_4 => ∃ m34 : Nat, l_Worths_findDeal_34 (fun (μ_9 : Mem) => ∀ x94 : Bool, x94 = (if 0 < w (at' μ_9 112 6 4) then true else false) → k x94 μ_9) m34 0 μ_4)) m2 0 μ
theorem L_Worths_findDeal_2 {l : Launch} {Γ : Gam} {g : Nat} {X_2_24 : Mem → Prop} {k : Bool → Mem → Prop} (hX_2_24 : ∀ (ν : Mem), StatR ν.2.2 → X_2_24 ν → SW l Γ yX10_findDeal.cls cX10_findDeal Y_Worths_findDeal (pB k) g 175 0 0 ν 24 [(0, vr Γ 101)] []) (n9 : Nat) : ∀ (v1 : Int) (μ_1 : Mem), StatR μ_1.2.2 → l_Worths_findDeal_2 X_2_24 n9 v1 μ_1 → SW l Γ yX10_findDeal.cls cX10_findDeal Y_Worths_findDeal (pB k) g 175 0 0 μ_1 2 [(0, vr Γ 101), (1, vi v1)] [] := by
  induction n9 with
  | zero =>
    intro v1 μ_1 hs h
    exact h.elim
  | succ n9 hR_2 =>
    intro v1 μ_1 hs h
    rw [l_Worths_findDeal_2] at h
    refine z_iload_n dX10_findDeal_2 rfl 1 rfl ?_
    refine z_rload_n dX10_findDeal_3 rfl 0 rfl ?_
    refine z_getR (q := 13929) ff_10_1 dX10_findDeal_4 kt_101 (Nat.le_of_ble_eq_true rfl) fl_X10_50 rfl (hs.1 _ _ sr_13929) ?_
    refine z_getI (q := 2543) ff_6_7 dX10_findDeal_7 kt_12 (Nat.le_of_ble_eq_true rfl) fl_X10_165 rfl ?_
    refine z_icmp_ge (tgt := 24) dX10_findDeal_10 (by decide) h (fun h => ?_) (fun h => ?_)
    · refine z_rload_n dX10_findDeal_13 rfl 0 rfl ?_
      refine z_iload_n dX10_findDeal_14 rfl 1 rfl ?_
      refine z_VU (i_Worths_findChanges  hs h) vk_X10_findChanges kt_101 (Nat.le_of_ble_eq_true rfl) rfl ml_X10_167 ⟨Nat.le_of_ble_eq_true rfl, Nat.le_of_ble_eq_true rfl⟩ ⟨Nat.zero_le _, Nat.zero_le _⟩ rfl rfl (Nat.le_of_ble_eq_true rfl) dX10_findDeal_15 (fun μ_2 hs h => ?_)
      refine z_iinc (j := 1) (lv' := [(1, vi (v1 + 1)), (0, vr Γ 101)]) dX10_findDeal_18 rfl (Nat.le_of_ble_eq_true rfl) rfl ?_
      refine z_goto (tgt := 2) dX10_findDeal_21 (by decide) ?_
      refine z_sub (lv' := [(0, vr Γ 101), (1, vi (v1 + 1))]) [1, 0] rfl ?_
      exact hR_2 (v1 + 1) μ_2 hs h
    · refine z_sub (lv' := [(0, vr Γ 101)]) [0] rfl ?_
      exact hX_2_24 μ_1 hs h
theorem L_Worths_findDeal_49 {l : Launch} {Γ : Gam} {g : Nat} {v1_1 : Int} {X_49_72 : Mem → Prop} {k : Bool → Mem → Prop} (hX_49_72 : ∀ (ν : Mem), StatR ν.2.2 → X_49_72 ν → SW l Γ yX10_findDeal.cls cX10_findDeal Y_Worths_findDeal (pB k) g 175 0 0 ν 72 [(0, vr Γ 101), (1, vi v1_1)] []) (n9 : Nat) : ∀ (v2 : Int) (μ_6 : Mem), StatR μ_6.2.2 → l_Worths_findDeal_49 v1_1 X_49_72 n9 v2 μ_6 → SW l Γ yX10_findDeal.cls cX10_findDeal Y_Worths_findDeal (pB k) g 175 0 0 μ_6 49 [(0, vr Γ 101), (1, vi v1_1), (2, vi v2)] [] := by
  induction n9 with
  | zero =>
    intro v2 μ_6 hs h
    exact h.elim
  | succ n9 hR_49 =>
    intro v2 μ_6 hs h
    rw [l_Worths_findDeal_49] at h
    refine z_iload_n dX10_findDeal_49 rfl 2 rfl ?_
    refine z_rload_n dX10_findDeal_50 rfl 0 rfl ?_
    refine z_getR (q := 13928) ff_10_0 dX10_findDeal_51 kt_101 (Nat.le_of_ble_eq_true rfl) fl_X10_46 rfl (hs.1 _ _ sr_13928) ?_
    refine z_getI (q := 1136) ff_7_8 dX10_findDeal_54 kt_1 (Nat.le_of_ble_eq_true rfl) fl_X10_174 rfl ?_
    refine z_icmp_ge (tgt := 72) dX10_findDeal_57 (by decide) h (fun h => ?_) (fun h => ?_)
    · refine z_rload_n dX10_findDeal_60 rfl 0 rfl ?_
      refine z_iload_n dX10_findDeal_61 rfl 1 rfl ?_
      refine z_iload_n dX10_findDeal_62 rfl 2 rfl ?_
      refine z_VU (i_Worths_findDealOf  hs h) vk_X10_findDealOf kt_101 (Nat.le_of_ble_eq_true rfl) rfl ml_X10_177 ⟨Nat.le_of_ble_eq_true rfl, Nat.le_of_ble_eq_true rfl⟩ ⟨Nat.zero_le _, Nat.zero_le _⟩ rfl rfl (Nat.le_of_ble_eq_true rfl) dX10_findDeal_63 (fun μ_7 hs h => ?_)
      refine z_iinc (j := 2) (lv' := [(2, vi (v2 + 1)), (0, vr Γ 101), (1, vi v1_1)]) dX10_findDeal_66 rfl (Nat.le_of_ble_eq_true rfl) rfl ?_
      refine z_goto (tgt := 49) dX10_findDeal_69 (by decide) ?_
      refine z_sub (lv' := [(0, vr Γ 101), (1, vi v1_1), (2, vi (v2 + 1))]) [1, 2, 0] rfl ?_
      exact hR_49 (v2 + 1) μ_7 hs h
    · refine z_sub (lv' := [(0, vr Γ 101), (1, vi v1_1)]) [0, 1] rfl ?_
      exact hX_49_72 μ_6 hs h
theorem L_Worths_findDeal_34 {l : Launch} {Γ : Gam} {g : Nat} {X_34_78 : Mem → Prop} {k : Bool → Mem → Prop} (hX_34_78 : ∀ (ν : Mem), StatR ν.2.2 → X_34_78 ν → SW l Γ yX10_findDeal.cls cX10_findDeal Y_Worths_findDeal (pB k) g 175 0 0 ν 78 [(0, vr Γ 101)] []) (n9 : Nat) : ∀ (v1_1 : Int) (μ_5 : Mem), StatR μ_5.2.2 → l_Worths_findDeal_34 X_34_78 n9 v1_1 μ_5 → SW l Γ yX10_findDeal.cls cX10_findDeal Y_Worths_findDeal (pB k) g 175 0 0 μ_5 34 [(0, vr Γ 101), (1, vi v1_1)] [] := by
  induction n9 with
  | zero =>
    intro v1_1 μ_5 hs h
    exact h.elim
  | succ n9 hR_34 =>
    intro v1_1 μ_5 hs h
    rw [l_Worths_findDeal_34] at h
    refine z_iload_n dX10_findDeal_34 rfl 1 rfl ?_
    refine z_rload_n dX10_findDeal_35 rfl 0 rfl ?_
    refine z_getR (q := 13928) ff_10_0 dX10_findDeal_36 kt_101 (Nat.le_of_ble_eq_true rfl) fl_X10_46 rfl (hs.1 _ _ sr_13928) ?_
    refine z_getI (q := 1136) ff_7_8 dX10_findDeal_39 kt_1 (Nat.le_of_ble_eq_true rfl) fl_X10_174 rfl ?_
    refine z_icmp_ge (tgt := 78) dX10_findDeal_42 (by decide) h (fun h => ?_) (fun h => ?_)
    · refine z_iload_n dX10_findDeal_45 rfl 1 rfl ?_
      refine z_iconst dX10_findDeal_46 ?_
      refine z_iadd dX10_findDeal_47 ?_
      refine z_istore_n (lv' := [(2, vi (v1_1 + 1)), (0, vr Γ 101), (1, vi v1_1)]) dX10_findDeal_48 rfl (Nat.le_of_ble_eq_true rfl) rfl ?_
      obtain ⟨m49, h⟩ := h
      refine z_sub (lv' := [(0, vr Γ 101), (1, vi v1_1), (2, vi (v1_1 + 1))]) [1, 2, 0] rfl ?_
      refine L_Worths_findDeal_49 (fun μ_8 hs h => ?_) m49 (v1_1 + 1) μ_5 hs h
      refine z_iinc (j := 1) (lv' := [(1, vi (v1_1 + 1)), (0, vr Γ 101)]) dX10_findDeal_72 rfl (Nat.le_of_ble_eq_true rfl) rfl ?_
      refine z_goto (tgt := 34) dX10_findDeal_75 (by decide) ?_
      refine z_sub (lv' := [(0, vr Γ 101), (1, vi (v1_1 + 1))]) [1, 0] rfl ?_
      exact hR_34 (v1_1 + 1) μ_8 hs h
    · refine z_sub (lv' := [(0, vr Γ 101)]) [0] rfl ?_
      exact hX_34_78 μ_5 hs h
theorem i_Worths_findDeal {l : Launch} {Γ : Gam} {g : Nat} {μ : Mem} {k : Bool → Mem → Prop} (hs : StatR μ.2.2) (h : f_Worths_findDeal  μ k) : CT l Γ yX10_findDeal cX10_findDeal 3 (some .boolean) 6 145 0 0 [vr Γ 101] g 175 μ (pB k) := by
  refine SW.ct (by decide) (Nat.le_of_ble_eq_true rfl) ?_
  refine z_sub (lv' := [(0, vr Γ 101)]) [0] rfl ?_
  show SW l Γ yX10_findDeal.cls cX10_findDeal Y_Worths_findDeal (pB k) g 175 0 0 μ 0 [(0, vr Γ 101)] []
  unfold f_Worths_findDeal at h
  refine z_iconst dX10_findDeal_0 ?_
  refine z_istore_n (lv' := [(1, vi 0), (0, vr Γ 101)]) dX10_findDeal_1 rfl (Nat.le_of_ble_eq_true rfl) rfl ?_
  obtain ⟨m2, h⟩ := h
  refine z_sub (lv' := [(0, vr Γ 101), (1, vi 0)]) [1, 0] rfl ?_
  refine L_Worths_findDeal_2 (fun μ_3 hs h => ?_) m2 0 μ hs h
  refine z_rload_n dX10_findDeal_24 rfl 0 rfl ?_
  refine z_getR (q := 13943) ff_10_15 dX10_findDeal_25 kt_101 (Nat.le_of_ble_eq_true rfl) fl_X10_43 rfl (hs.1 _ _ sr_13943) ?_
  refine z_iconst dX10_findDeal_28 ?_
  refine z_NU (i_H_fill kt_112 (Nat.le_of_ble_eq_true rfl) hs h) sk_X11_fill nw_X10_170 ⟨Nat.le_of_ble_eq_true rfl, Nat.le_of_ble_eq_true rfl⟩ ⟨Nat.zero_le _, Nat.zero_le _⟩ rfl rfl (Nat.le_of_ble_eq_true rfl) dX10_findDeal_29 (fun μ_4 hs h => ?_)
  refine z_iconst dX10_findDeal_32 ?_
  refine z_istore_n (lv' := [(1, vi 0), (0, vr Γ 101)]) dX10_findDeal_33 rfl (Nat.le_of_ble_eq_true rfl) rfl ?_
  obtain ⟨m34, h⟩ := h
  refine z_sub (lv' := [(0, vr Γ 101), (1, vi 0)]) [1, 0] rfl ?_
  refine L_Worths_findDeal_34 (fun μ_9 hs h => ?_) m34 0 μ_4 hs h
  refine z_rload_n dX10_findDeal_78 rfl 0 rfl ?_
  refine z_getR (q := 13943) ff_10_15 dX10_findDeal_79 kt_101 (Nat.le_of_ble_eq_true rfl) fl_X10_43 rfl (hs.1 _ _ sr_13943) ?_
  refine z_iconst dX10_findDeal_82 ?_
  refine z_NE (i_X11_at kt_112 (Nat.le_of_ble_eq_true rfl)) ok_X11_at nw_X10_66 ⟨Nat.le_of_ble_eq_true rfl, Nat.le_of_ble_eq_true rfl⟩ ⟨Nat.zero_le _, Nat.zero_le _⟩ rfl rfl (Nat.le_of_ble_eq_true rfl) dX10_findDeal_83 ?_
  refine z_phiB 94 [] (fun V9 hv J9 => ?_) h (fun x94 h => ?_)
  · refine z_if_le (tgt := 93) dX10_findDeal_86 (by decide) (eq_ite hv) (fun hv => ?_) (fun hv => ?_)
    · refine z_iconst dX10_findDeal_89 ?_
      refine z_goto (tgt := 94) dX10_findDeal_90 (by decide) ?_
      exact J9 true hv.symm
    · refine z_iconst dX10_findDeal_93 ?_
      exact J9 false hv.symm
  · exact z_zret (b := x94) rfl dX10_findDeal_94 rfl rfl rfl ⟨_, rfl, hs, h⟩
abbrev Y_H_deal : Yt := (2, (some .int), yX11_deal.name, { frames := 7, cells := 0, slots := 0, locals := 167 }, 175, 0, 0)
def f_H_deal (a1 : Int) (μ : Mem) (k : Int → Mem → Prop) : Prop := if w a1 < 0 then (k (-1) μ) else (if w a1 < w 6 then (f_Worths_findDeal  μ (fun r14 μ_1 => if r14 = true then (k (v_Worths_dealField a1 μ_1) μ_1) else (k (-1) μ_1))) else (k (-1) μ))
theorem i_H_deal {l : Launch} {Γ : Gam} {g : Nat} {a1 : Int} {μ : Mem} {k : Int → Mem → Prop} (hs : StatR μ.2.2) (h : f_H_deal a1 μ k) : CT l Γ yX11_deal cX11_deal 2 (some .int) 7 167 0 0 [vr Γ 0, vi a1] g 175 μ (pI k) := by
  refine SW.ct (by decide) (Nat.le_of_ble_eq_true rfl) ?_
  refine z_sub (lv' := [(0, vr Γ 0), (1, vi a1)]) [0, 1] rfl ?_
  show SW l Γ yX11_deal.cls cX11_deal Y_H_deal (pI k) g 175 0 0 μ 0 [(0, vr Γ 0), (1, vi a1)] []
  unfold f_H_deal at h
  refine z_iload_n dX11_deal_0 rfl 1 rfl ?_
  refine z_if_lt (tgt := 20) dX11_deal_1 (by decide) h (fun h => ?_) (fun h => ?_)
  · refine z_iconst dX11_deal_20 ?_
    exact z_iret rfl dX11_deal_21 rfl rfl rfl ⟨_, rfl, hs, h⟩
  · refine z_iload_n dX11_deal_4 rfl 1 rfl ?_
    refine z_bipush dX11_deal_5 (by decide) ?_
    refine z_icmp_ge (tgt := 20) dX11_deal_7 (by decide) h (fun h => ?_) (fun h => ?_)
    · refine z_rload_n dX11_deal_10 rfl 0 rfl ?_
      refine z_getR (q := 1009) ff_11_9 dX11_deal_11 kt_0 (Nat.le_of_ble_eq_true rfl) fl_X11_91 rfl (hs.1 _ _ sr_1009) ?_
      refine z_VB (i_Worths_findDeal  hs h) vk_X10_findDeal kt_101 (Nat.le_of_ble_eq_true rfl) rfl ml_X11_350 ⟨Nat.le_of_ble_eq_true rfl, Nat.le_of_ble_eq_true rfl⟩ ⟨Nat.zero_le _, Nat.zero_le _⟩ rfl rfl (Nat.le_of_ble_eq_true rfl) dX11_deal_14 (fun r14 μ_1 hs h => ?_)
      refine z_ifne_b (tgt := 22) dX11_deal_17 (by decide) h (fun h => ?_) (fun h => ?_)
      · refine z_rload_n dX11_deal_22 rfl 0 rfl ?_
        refine z_getR (q := 1009) ff_11_9 dX11_deal_23 kt_0 (Nat.le_of_ble_eq_true rfl) fl_X11_91 rfl (hs.1 _ _ sr_1009) ?_
        refine z_iload_n dX11_deal_26 rfl 1 rfl ?_
        refine z_VE (i_Worths_dealField hs) vk_X10_dealField kt_101 (Nat.le_of_ble_eq_true rfl) rfl ml_X11_353 ⟨Nat.le_of_ble_eq_true rfl, Nat.le_of_ble_eq_true rfl⟩ ⟨Nat.zero_le _, Nat.zero_le _⟩ rfl rfl (Nat.le_of_ble_eq_true rfl) dX11_deal_27 ?_
        exact z_iret rfl dX11_deal_30 rfl rfl rfl ⟨_, rfl, hs, h⟩
      · refine z_iconst dX11_deal_20 ?_
        exact z_iret rfl dX11_deal_21 rfl rfl rfl ⟨_, rfl, hs, h⟩
    · refine z_iconst dX11_deal_20 ?_
      exact z_iret rfl dX11_deal_21 rfl rfl rfl ⟨_, rfl, hs, h⟩
abbrev Y_Floor_openMotions : Yt := (3, (some .int), yX3_openMotions.name, { frames := 2, cells := 0, slots := 0, locals := 42 }, 175, 0, 0)
def l_Floor_openMotions_4 (μ : Mem) (X_4_37 : Int → Prop) : Nat → Int → Int → Prop
  | 0, _, _ => False
  | fu4 + 1, v1, v2 => if w v2 < w (rI μ 2543 0) then (∀ x29 : Int, x29 = (if w (v_Floor_stateOf v2 μ) = 0 then 1 else 0) → ∀ v1_1 : Int, v1_1 = v1 + x29 → (l_Floor_openMotions_4 μ X_4_37 fu4) v1_1 (v2 + 1)) else (X_4_37 v1)
def f_Floor_openMotions  (μ : Mem) (k : Int → Mem → Prop) : Prop := ∃ m4 : Nat, l_Floor_openMotions_4 μ (fun (v1_2 : Int) => k v1_2 μ) m4 0 0
theorem L_Floor_openMotions_4 {l : Launch} {Γ : Gam} {g : Nat} {μ : Mem} {X_4_37 : Int → Prop} {k : Int → Mem → Prop} (hs : StatR μ.2.2) (hX_4_37 : ∀ (u1 : Int), X_4_37 u1 → SW l Γ yX3_openMotions.cls cX3_openMotions Y_Floor_openMotions (pI k) g 175 0 0 μ 37 [(1, vi u1)] []) (n9 : Nat) : ∀ (v1 : Int) (v2 : Int), l_Floor_openMotions_4 μ X_4_37 n9 v1 v2 → SW l Γ yX3_openMotions.cls cX3_openMotions Y_Floor_openMotions (pI k) g 175 0 0 μ 4 [(0, vr Γ 67), (1, vi v1), (2, vi v2)] [] := by
  induction n9 with
  | zero =>
    intro v1 v2 h
    exact h.elim
  | succ n9 hR_4 =>
    intro v1 v2 h
    rw [l_Floor_openMotions_4] at h
    refine z_iload_n dX3_openMotions_4 rfl 2 rfl ?_
    refine z_rload_n dX3_openMotions_5 rfl 0 rfl ?_
    refine z_getR (q := 9576) ff_3_0 dX3_openMotions_6 kt_67 (Nat.le_of_ble_eq_true rfl) fl_X3_31 rfl (hs.1 _ _ sr_9576) ?_
    refine z_getI (q := 2543) ff_6_7 dX3_openMotions_9 kt_12 (Nat.le_of_ble_eq_true rfl) fl_X3_66 rfl ?_
    refine z_icmp_ge (tgt := 37) dX3_openMotions_12 (by decide) h (fun h => ?_) (fun h => ?_)
    · refine z_iload_n dX3_openMotions_15 rfl 1 rfl ?_
      refine z_rload_n dX3_openMotions_16 rfl 0 rfl ?_
      refine z_iload_n dX3_openMotions_17 rfl 2 rfl ?_
      refine z_VE (i_Floor_stateOf hs) vk_X3_stateOf kt_67 (Nat.le_of_ble_eq_true rfl) rfl ml_X3_50 ⟨Nat.le_of_ble_eq_true rfl, Nat.le_of_ble_eq_true rfl⟩ ⟨Nat.zero_le _, Nat.zero_le _⟩ rfl rfl (Nat.le_of_ble_eq_true rfl) dX3_openMotions_18 ?_
      refine z_phi 29 [vi v1] (fun V9 hv J9 => ?_) h (fun x29 h => ?_)
      · refine z_if_ne (tgt := 28) dX3_openMotions_21 (by decide) (eq_ite hv) (fun hv => ?_) (fun hv => ?_)
        · refine z_iconst dX3_openMotions_24 ?_
          refine z_goto (tgt := 29) dX3_openMotions_25 (by decide) ?_
          exact J9 _ hv.symm
        · refine z_iconst dX3_openMotions_28 ?_
          exact J9 _ hv.symm
      · refine z_iadd dX3_openMotions_29 ?_
        refine z_nm (fun v1_1 ev1_1 => ?_)
        replace h := h v1_1 ev1_1
        refine z_istore_n (lv' := [(1, vi v1_1), (0, vr Γ 67), (2, vi v2)]) dX3_openMotions_30 rfl (Nat.le_of_ble_eq_true rfl) rfl ?_
        refine z_iinc (j := 2) (lv' := [(2, vi (v2 + 1)), (1, vi v1_1), (0, vr Γ 67)]) dX3_openMotions_31 rfl (Nat.le_of_ble_eq_true rfl) rfl ?_
        refine z_goto (tgt := 4) dX3_openMotions_34 (by decide) ?_
        refine z_sub (lv' := [(0, vr Γ 67), (1, vi v1_1), (2, vi (v2 + 1))]) [2, 1, 0] rfl ?_
        exact hR_4 v1_1 (v2 + 1) h
    · refine z_sub (lv' := [(1, vi v1)]) [1] rfl ?_
      exact hX_4_37 v1 h
theorem i_Floor_openMotions {l : Launch} {Γ : Gam} {g : Nat} {μ : Mem} {k : Int → Mem → Prop} (hs : StatR μ.2.2) (h : f_Floor_openMotions  μ k) : CT l Γ yX3_openMotions cX3_openMotions 3 (some .int) 2 42 0 0 [vr Γ 67] g 175 μ (pI k) := by
  refine SW.ct (by decide) (Nat.le_of_ble_eq_true rfl) ?_
  refine z_sub (lv' := [(0, vr Γ 67)]) [0] rfl ?_
  show SW l Γ yX3_openMotions.cls cX3_openMotions Y_Floor_openMotions (pI k) g 175 0 0 μ 0 [(0, vr Γ 67)] []
  unfold f_Floor_openMotions at h
  refine z_iconst dX3_openMotions_0 ?_
  refine z_istore_n (lv' := [(1, vi 0), (0, vr Γ 67)]) dX3_openMotions_1 rfl (Nat.le_of_ble_eq_true rfl) rfl ?_
  refine z_iconst dX3_openMotions_2 ?_
  refine z_istore_n (lv' := [(2, vi 0), (1, vi 0), (0, vr Γ 67)]) dX3_openMotions_3 rfl (Nat.le_of_ble_eq_true rfl) rfl ?_
  obtain ⟨m4, h⟩ := h
  refine z_sub (lv' := [(0, vr Γ 67), (1, vi 0), (2, vi 0)]) [2, 1, 0] rfl ?_
  refine L_Floor_openMotions_4 hs (fun v1_2 h => ?_) m4 0 0 h
  refine z_iload_n dX3_openMotions_37 rfl 0 rfl ?_
  exact z_iret rfl dX3_openMotions_38 rfl rfl rfl ⟨_, rfl, hs, h⟩
abbrev Y_H_count : Yt := (2, (some .int), yX11_count.name, { frames := 3, cells := 0, slots := 0, locals := 64 }, 175, 0, 0)
def f_H_count (a1 : Int) (μ : Mem) (k : Int → Mem → Prop) : Prop := if w a1 = 0 then (k (rI μ 1139 0) μ) else (if w a1 = 1 then (k (rI μ 1136 0) μ) else (if w a1 = 2 then (k (rI μ 1137 0) μ) else (if w a1 = 3 then (k (rI μ 1138 0) μ) else (if w a1 = 4 then (k (rI μ 2543 0) μ) else (if w a1 = 5 then (k (rI μ 2544 0) μ) else (if w a1 = 6 then (k (rI μ 2545 0) μ) else (if w a1 = 7 then (k (rI μ 9584 0) μ) else (if w a1 = 8 then (k (rI μ 11632 0) μ) else (if w a1 = 9 then (k (rI μ 2281 0) μ) else (if w a1 = 10 then (f_Floor_openMotions  μ (fun r148 μ_1 => k r148 μ_1)) else (if w a1 = 11 then (k (v_popL ((rL μ 9582 0) ||| (rL μ 9583 0))) μ) else (k (-1) μ))))))))))))
theorem i_H_count {l : Launch} {Γ : Gam} {g : Nat} {a1 : Int} {μ : Mem} {k : Int → Mem → Prop} (hs : StatR μ.2.2) (h : f_H_count a1 μ k) : CT l Γ yX11_count cX11_count 2 (some .int) 3 64 0 0 [vr Γ 0, vi a1] g 175 μ (pI k) := by
  refine SW.ct (by decide) (Nat.le_of_ble_eq_true rfl) ?_
  refine z_sub (lv' := [(0, vr Γ 0), (1, vi a1)]) [0, 1] rfl ?_
  show SW l Γ yX11_count.cls cX11_count Y_H_count (pI k) g 175 0 0 μ 0 [(0, vr Γ 0), (1, vi a1)] []
  unfold f_H_count at h
  refine z_iload_n dX11_count_0 rfl 1 rfl ?_
  by_cases hc0 : w a1 = 0
  · rw [if_pos hc0] at h
    refine z_tcase (tgt := 64) 0 hc0 dX11_count_1 (by decide) (by decide) rfl (by decide) ?_
    refine z_rload_n dX11_count_64 rfl 0 rfl ?_
    refine z_getR (q := 1000) ff_11_0 dX11_count_65 kt_0 (Nat.le_of_ble_eq_true rfl) fl_X11_12 rfl (hs.1 _ _ sr_1000) ?_
    refine z_getI (q := 1139) ff_7_11 dX11_count_68 kt_1 (Nat.le_of_ble_eq_true rfl) fl_X11_139 rfl ?_
    exact z_iret rfl dX11_count_71 rfl rfl rfl ⟨_, rfl, hs, h⟩
  · rw [if_neg hc0] at h
    by_cases hc1 : w a1 = 1
    · rw [if_pos hc1] at h
      refine z_tcase (tgt := 72) 1 hc1 dX11_count_1 (by decide) (by decide) rfl (by decide) ?_
      refine z_rload_n dX11_count_72 rfl 0 rfl ?_
      refine z_getR (q := 1000) ff_11_0 dX11_count_73 kt_0 (Nat.le_of_ble_eq_true rfl) fl_X11_12 rfl (hs.1 _ _ sr_1000) ?_
      refine z_getI (q := 1136) ff_7_8 dX11_count_76 kt_1 (Nat.le_of_ble_eq_true rfl) fl_X11_356 rfl ?_
      exact z_iret rfl dX11_count_79 rfl rfl rfl ⟨_, rfl, hs, h⟩
    · rw [if_neg hc1] at h
      by_cases hc2 : w a1 = 2
      · rw [if_pos hc2] at h
        refine z_tcase (tgt := 80) 2 hc2 dX11_count_1 (by decide) (by decide) rfl (by decide) ?_
        refine z_rload_n dX11_count_80 rfl 0 rfl ?_
        refine z_getR (q := 1000) ff_11_0 dX11_count_81 kt_0 (Nat.le_of_ble_eq_true rfl) fl_X11_12 rfl (hs.1 _ _ sr_1000) ?_
        refine z_getI (q := 1137) ff_7_9 dX11_count_84 kt_1 (Nat.le_of_ble_eq_true rfl) fl_X11_359 rfl ?_
        exact z_iret rfl dX11_count_87 rfl rfl rfl ⟨_, rfl, hs, h⟩
      · rw [if_neg hc2] at h
        by_cases hc3 : w a1 = 3
        · rw [if_pos hc3] at h
          refine z_tcase (tgt := 88) 3 hc3 dX11_count_1 (by decide) (by decide) rfl (by decide) ?_
          refine z_rload_n dX11_count_88 rfl 0 rfl ?_
          refine z_getR (q := 1000) ff_11_0 dX11_count_89 kt_0 (Nat.le_of_ble_eq_true rfl) fl_X11_12 rfl (hs.1 _ _ sr_1000) ?_
          refine z_getI (q := 1138) ff_7_10 dX11_count_92 kt_1 (Nat.le_of_ble_eq_true rfl) fl_X11_362 rfl ?_
          exact z_iret rfl dX11_count_95 rfl rfl rfl ⟨_, rfl, hs, h⟩
        · rw [if_neg hc3] at h
          by_cases hc4 : w a1 = 4
          · rw [if_pos hc4] at h
            refine z_tcase (tgt := 96) 4 hc4 dX11_count_1 (by decide) (by decide) rfl (by decide) ?_
            refine z_rload_n dX11_count_96 rfl 0 rfl ?_
            refine z_getR (q := 1004) ff_11_4 dX11_count_97 kt_0 (Nat.le_of_ble_eq_true rfl) fl_X11_26 rfl (hs.1 _ _ sr_1004) ?_
            refine z_getI (q := 2543) ff_6_7 dX11_count_100 kt_12 (Nat.le_of_ble_eq_true rfl) fl_X11_183 rfl ?_
            exact z_iret rfl dX11_count_103 rfl rfl rfl ⟨_, rfl, hs, h⟩
          · rw [if_neg hc4] at h
            by_cases hc5 : w a1 = 5
            · rw [if_pos hc5] at h
              refine z_tcase (tgt := 104) 5 hc5 dX11_count_1 (by decide) (by decide) rfl (by decide) ?_
              refine z_rload_n dX11_count_104 rfl 0 rfl ?_
              refine z_getR (q := 1004) ff_11_4 dX11_count_105 kt_0 (Nat.le_of_ble_eq_true rfl) fl_X11_26 rfl (hs.1 _ _ sr_1004) ?_
              refine z_getI (q := 2544) ff_6_8 dX11_count_108 kt_12 (Nat.le_of_ble_eq_true rfl) fl_X11_225 rfl ?_
              exact z_iret rfl dX11_count_111 rfl rfl rfl ⟨_, rfl, hs, h⟩
            · rw [if_neg hc5] at h
              by_cases hc6 : w a1 = 6
              · rw [if_pos hc6] at h
                refine z_tcase (tgt := 112) 6 hc6 dX11_count_1 (by decide) (by decide) rfl (by decide) ?_
                refine z_rload_n dX11_count_112 rfl 0 rfl ?_
                refine z_getR (q := 1004) ff_11_4 dX11_count_113 kt_0 (Nat.le_of_ble_eq_true rfl) fl_X11_26 rfl (hs.1 _ _ sr_1004) ?_
                refine z_getI (q := 2545) ff_6_9 dX11_count_116 kt_12 (Nat.le_of_ble_eq_true rfl) fl_X11_160 rfl ?_
                exact z_iret rfl dX11_count_119 rfl rfl rfl ⟨_, rfl, hs, h⟩
              · rw [if_neg hc6] at h
                by_cases hc7 : w a1 = 7
                · rw [if_pos hc7] at h
                  refine z_tcase (tgt := 120) 7 hc7 dX11_count_1 (by decide) (by decide) rfl (by decide) ?_
                  refine z_rload_n dX11_count_120 rfl 0 rfl ?_
                  refine z_getR (q := 1005) ff_11_5 dX11_count_121 kt_0 (Nat.le_of_ble_eq_true rfl) fl_X11_57 rfl (hs.1 _ _ sr_1005) ?_
                  refine z_getI (q := 9584) ff_3_8 dX11_count_124 kt_67 (Nat.le_of_ble_eq_true rfl) fl_X11_125 rfl ?_
                  exact z_iret rfl dX11_count_127 rfl rfl rfl ⟨_, rfl, hs, h⟩
                · rw [if_neg hc7] at h
                  by_cases hc8 : w a1 = 8
                  · rw [if_pos hc8] at h
                    refine z_tcase (tgt := 128) 8 hc8 dX11_count_1 (by decide) (by decide) rfl (by decide) ?_
                    refine z_rload_n dX11_count_128 rfl 0 rfl ?_
                    refine z_getR (q := 1007) ff_11_7 dX11_count_129 kt_0 (Nat.le_of_ble_eq_true rfl) fl_X11_75 rfl (hs.1 _ _ sr_1007) ?_
                    refine z_getI (q := 11632) ff_0_8 dX11_count_132 kt_83 (Nat.le_of_ble_eq_true rfl) fl_X11_283 rfl ?_
                    exact z_iret rfl dX11_count_135 rfl rfl rfl ⟨_, rfl, hs, h⟩
                  · rw [if_neg hc8] at h
                    by_cases hc9 : w a1 = 9
                    · rw [if_pos hc9] at h
                      refine z_tcase (tgt := 136) 9 hc9 dX11_count_1 (by decide) (by decide) rfl (by decide) ?_
                      refine z_rload_n dX11_count_136 rfl 0 rfl ?_
                      refine z_getR (q := 1001) ff_11_1 dX11_count_137 kt_0 (Nat.le_of_ble_eq_true rfl) fl_X11_19 rfl (hs.1 _ _ sr_1001) ?_
                      refine z_getI (q := 2281) ff_9_1 dX11_count_140 kt_10 (Nat.le_of_ble_eq_true rfl) fl_X11_153 rfl ?_
                      exact z_iret rfl dX11_count_143 rfl rfl rfl ⟨_, rfl, hs, h⟩
                    · rw [if_neg hc9] at h
                      by_cases hc10 : w a1 = 10
                      · rw [if_pos hc10] at h
                        refine z_tcase (tgt := 144) 10 hc10 dX11_count_1 (by decide) (by decide) rfl (by decide) ?_
                        refine z_rload_n dX11_count_144 rfl 0 rfl ?_
                        refine z_getR (q := 1005) ff_11_5 dX11_count_145 kt_0 (Nat.le_of_ble_eq_true rfl) fl_X11_57 rfl (hs.1 _ _ sr_1005) ?_
                        refine z_VI (i_Floor_openMotions  hs h) vk_X3_openMotions kt_67 (Nat.le_of_ble_eq_true rfl) rfl ml_X11_365 ⟨Nat.le_of_ble_eq_true rfl, Nat.le_of_ble_eq_true rfl⟩ ⟨Nat.zero_le _, Nat.zero_le _⟩ rfl rfl (Nat.le_of_ble_eq_true rfl) dX11_count_148 (fun r148 μ_1 hs h => ?_)
                        exact z_iret rfl dX11_count_151 rfl rfl rfl ⟨_, rfl, hs, h⟩
                      · rw [if_neg hc10] at h
                        by_cases hc11 : w a1 = 11
                        · rw [if_pos hc11] at h
                          refine z_tcase (tgt := 152) 11 hc11 dX11_count_1 (by decide) (by decide) rfl (by decide) ?_
                          refine z_rload_n dX11_count_152 rfl 0 rfl ?_
                          refine z_getR (q := 1005) ff_11_5 dX11_count_153 kt_0 (Nat.le_of_ble_eq_true rfl) fl_X11_57 rfl (hs.1 _ _ sr_1005) ?_
                          refine z_getJ (q := 9582) ff_3_6 dX11_count_156 kt_67 (Nat.le_of_ble_eq_true rfl) fl_X11_308 rfl ?_
                          refine z_rload_n dX11_count_159 rfl 0 rfl ?_
                          refine z_getR (q := 1005) ff_11_5 dX11_count_160 kt_0 (Nat.le_of_ble_eq_true rfl) fl_X11_57 rfl (hs.1 _ _ sr_1005) ?_
                          refine z_getJ (q := 9583) ff_3_7 dX11_count_163 kt_67 (Nat.le_of_ble_eq_true rfl) fl_X11_312 rfl ?_
                          refine z_lor dX11_count_166 ?_
                          refine z_SE (i_popL hs) sk_J13_bitCount_95d88 ml_X11_368 ⟨Nat.le_of_ble_eq_true rfl, Nat.le_of_ble_eq_true rfl⟩ ⟨Nat.zero_le _, Nat.zero_le _⟩ rfl rfl (Nat.le_of_ble_eq_true rfl) dX11_count_167 ?_
                          exact z_iret rfl dX11_count_170 rfl rfl rfl ⟨_, rfl, hs, h⟩
                        · rw [if_neg hc11] at h
                          refine z_tdef (tgt := 171) (by omega) dX11_count_1 (by decide) ?_
                          refine z_iconst dX11_count_171 ?_
                          exact z_iret rfl dX11_count_172 rfl rfl rfl ⟨_, rfl, hs, h⟩
