abbrev Y_Reg_soulsOf : Yt := (4, (some .int), yX7_soulsOf.name, { frames := 1, cells := 0, slots := 0, locals := 21 }, 175, 0, 0)
def l_Reg_soulsOf_4 (a1 : Int) (μ : Mem) (X_4_45 : Int → Prop) : Nat → Int → Int → Prop
  | 0, _, _ => False
  | fu4 + 1, v2, v3 => if w v3 < w (rI μ 1137 0) then (∀ x37 : Int, x37 = (if w (at' μ 3 48 v3) = w a1 then (at' μ 4 48 v3) else 0) → ∀ v2_1 : Int, v2_1 = v2 + x37 → (l_Reg_soulsOf_4 a1 μ X_4_45 fu4) v2_1 (v3 + 1)) else (X_4_45 v2)
def f_Reg_soulsOf (a1 : Int) (μ : Mem) (k : Int → Mem → Prop) : Prop := ∃ m4 : Nat, l_Reg_soulsOf_4 a1 μ (fun (v2_2 : Int) => k v2_2 μ) m4 0 0
theorem L_Reg_soulsOf_4 {l : Launch} {Γ : Gam} {g : Nat} {a1 : Int} {μ : Mem} {X_4_45 : Int → Prop} {k : Int → Mem → Prop} (hs : StatR μ.2.2) (hX_4_45 : ∀ (u2 : Int), X_4_45 u2 → SW l Γ yX7_soulsOf.cls cX7_soulsOf Y_Reg_soulsOf (pI k) g 175 0 0 μ 45 [(2, vi u2)] []) (n9 : Nat) : ∀ (v2 : Int) (v3 : Int), l_Reg_soulsOf_4 a1 μ X_4_45 n9 v2 v3 → SW l Γ yX7_soulsOf.cls cX7_soulsOf Y_Reg_soulsOf (pI k) g 175 0 0 μ 4 [(0, vr Γ 1), (1, vi a1), (2, vi v2), (3, vi v3)] [] := by
  induction n9 with
  | zero =>
    intro v2 v3 h
    exact h.elim
  | succ n9 hR_4 =>
    intro v2 v3 h
    rw [l_Reg_soulsOf_4] at h
    refine z_iload_n dX7_soulsOf_4 rfl 3 rfl ?_
    refine z_rload_n dX7_soulsOf_5 rfl 0 rfl ?_
    refine z_getI (q := 1137) ff_7_9 dX7_soulsOf_6 kt_1 (Nat.le_of_ble_eq_true rfl) fl_X7_43 rfl ?_
    refine z_icmp_ge (tgt := 45) dX7_soulsOf_9 (by decide) h (fun h => ?_) (fun h => ?_)
    · refine z_iload_n dX7_soulsOf_12 rfl 2 rfl ?_
      refine z_rload_n dX7_soulsOf_13 rfl 0 rfl ?_
      refine z_getR (q := 1129) ff_7_1 dX7_soulsOf_14 kt_1 (Nat.le_of_ble_eq_true rfl) fl_X7_15 rfl (hs.1 _ _ sr_1129) ?_
      refine z_iload_n dX7_soulsOf_17 rfl 3 rfl ?_
      refine z_NE (i_X11_at kt_3 (Nat.le_of_ble_eq_true rfl)) ok_X11_at nw_X7_57 ⟨Nat.le_of_ble_eq_true rfl, Nat.le_of_ble_eq_true rfl⟩ ⟨Nat.zero_le _, Nat.zero_le _⟩ rfl rfl (Nat.le_of_ble_eq_true rfl) dX7_soulsOf_18 ?_
      refine z_iload_n dX7_soulsOf_21 rfl 1 rfl ?_
      refine z_phi 37 [vi v2] (fun V9 hv J9 => ?_) h (fun x37 h => ?_)
      · refine z_icmp_ne (tgt := 36) dX7_soulsOf_22 (by decide) (eq_ite hv) (fun hv => ?_) (fun hv => ?_)
        · refine z_rload_n dX7_soulsOf_25 rfl 0 rfl ?_
          refine z_getR (q := 1130) ff_7_2 dX7_soulsOf_26 kt_1 (Nat.le_of_ble_eq_true rfl) fl_X7_18 rfl (hs.1 _ _ sr_1130) ?_
          refine z_iload_n dX7_soulsOf_29 rfl 3 rfl ?_
          refine z_NE (i_X11_at kt_4 (Nat.le_of_ble_eq_true rfl)) ok_X11_at nw_X7_57 ⟨Nat.le_of_ble_eq_true rfl, Nat.le_of_ble_eq_true rfl⟩ ⟨Nat.zero_le _, Nat.zero_le _⟩ rfl rfl (Nat.le_of_ble_eq_true rfl) dX7_soulsOf_30 ?_
          refine z_goto (tgt := 37) dX7_soulsOf_33 (by decide) ?_
          exact J9 _ hv.symm
        · refine z_iconst dX7_soulsOf_36 ?_
          exact J9 _ hv.symm
      · refine z_iadd dX7_soulsOf_37 ?_
        refine z_nm (fun v2_1 ev2_1 => ?_)
        replace h := h v2_1 ev2_1
        refine z_istore_n (lv' := [(2, vi v2_1), (0, vr Γ 1), (1, vi a1), (3, vi v3)]) dX7_soulsOf_38 rfl (Nat.le_of_ble_eq_true rfl) rfl ?_
        refine z_iinc (j := 3) (lv' := [(3, vi (v3 + 1)), (2, vi v2_1), (0, vr Γ 1), (1, vi a1)]) dX7_soulsOf_39 rfl (Nat.le_of_ble_eq_true rfl) rfl ?_
        refine z_goto (tgt := 4) dX7_soulsOf_42 (by decide) ?_
        refine z_sub (lv' := [(0, vr Γ 1), (1, vi a1), (2, vi v2_1), (3, vi (v3 + 1))]) [2, 3, 1, 0] rfl ?_
        exact hR_4 v2_1 (v3 + 1) h
    · refine z_sub (lv' := [(2, vi v2)]) [2] rfl ?_
      exact hX_4_45 v2 h
theorem i_Reg_soulsOf {l : Launch} {Γ : Gam} {g : Nat} {a1 : Int} {μ : Mem} {k : Int → Mem → Prop} (hs : StatR μ.2.2) (h : f_Reg_soulsOf a1 μ k) : CT l Γ yX7_soulsOf cX7_soulsOf 4 (some .int) 1 21 0 0 [vr Γ 1, vi a1] g 175 μ (pI k) := by
  refine SW.ct (by decide) (Nat.le_of_ble_eq_true rfl) ?_
  refine z_sub (lv' := [(0, vr Γ 1), (1, vi a1)]) [0, 1] rfl ?_
  show SW l Γ yX7_soulsOf.cls cX7_soulsOf Y_Reg_soulsOf (pI k) g 175 0 0 μ 0 [(0, vr Γ 1), (1, vi a1)] []
  unfold f_Reg_soulsOf at h
  refine z_iconst dX7_soulsOf_0 ?_
  refine z_istore_n (lv' := [(2, vi 0), (0, vr Γ 1), (1, vi a1)]) dX7_soulsOf_1 rfl (Nat.le_of_ble_eq_true rfl) rfl ?_
  refine z_iconst dX7_soulsOf_2 ?_
  refine z_istore_n (lv' := [(3, vi 0), (2, vi 0), (0, vr Γ 1), (1, vi a1)]) dX7_soulsOf_3 rfl (Nat.le_of_ble_eq_true rfl) rfl ?_
  obtain ⟨m4, h⟩ := h
  refine z_sub (lv' := [(0, vr Γ 1), (1, vi a1), (2, vi 0), (3, vi 0)]) [2, 3, 1, 0] rfl ?_
  refine L_Reg_soulsOf_4 hs (fun v2_2 h => ?_) m4 0 0 h
  refine z_iload_n dX7_soulsOf_45 rfl 0 rfl ?_
  exact z_iret rfl dX7_soulsOf_46 rfl rfl rfl ⟨_, rfl, hs, h⟩
abbrev Y_Count_cardsOf : Yt := (4, (some .int), yX2_cardsOf.name, { frames := 2, cells := 0, slots := 0, locals := 52 }, 175, 0, 0)
def f_Count_cardsOf (a1 : Int) (a2 : Nat) (μ : Mem) (k : Int → Mem → Prop) : Prop := f_Count_paidHeadsOf a1 (rI μ (gid a2 4) 0) μ (fun r6 μ_1 => if (v_Rules_says a2 3 μ_1) = true then (∀ μ_2 : Mem, μ_2 = set' μ_1 81 6 0 r6 → f_Reg_branchesOf a1 μ_2 (fun r39 μ_3 => ∀ μ_4 : Mem, μ_4 = set' μ_3 81 6 1 r39 → f_Reg_soulsOf a1 μ_4 (fun r55 μ_5 => ∀ μ_6 : Mem, μ_6 = set' μ_5 81 6 2 r55 → ∀ μ_7 : Mem, μ_7 = set' μ_6 81 6 3 (at' μ_6 2 12 a1) → f_Rules_value a2 3 μ_7 (fun r91 μ_8 => k (w_max 0 r91) μ_8)))) else (k r6 μ_1))
theorem i_Count_cardsOf {l : Launch} {Γ : Gam} {g : Nat} {a1 : Int} {a2 : Nat} {μ : Mem} {k : Int → Mem → Prop} (hr_a2 : isRu a2 = true) (hs : StatR μ.2.2) (h : f_Count_cardsOf a1 a2 μ k) : CT l Γ yX2_cardsOf cX2_cardsOf 4 (some .int) 2 52 0 0 [vr Γ 73, vi a1, vr Γ a2] g 175 μ (pI k) := by
  refine SW.ct (by decide) (Nat.le_of_ble_eq_true rfl) ?_
  refine z_sub (lv' := [(0, vr Γ 73), (1, vi a1), (2, vr Γ a2)]) [0, 1, 2] rfl ?_
  show SW l Γ yX2_cardsOf.cls cX2_cardsOf Y_Count_cardsOf (pI k) g 175 0 0 μ 0 [(0, vr Γ 73), (1, vi a1), (2, vr Γ a2)] []
  unfold f_Count_cardsOf at h
  refine z_rload_n dX2_cardsOf_0 rfl 0 rfl ?_
  refine z_iload_n dX2_cardsOf_1 rfl 1 rfl ?_
  refine z_rload_n dX2_cardsOf_2 rfl 2 rfl ?_
  refine z_getI (q := (gid a2 4)) ff_8_4 dX2_cardsOf_3 (ru_k hr_a2) (ru_l hr_a2) fl_X2_108 rfl ?_
  refine z_VI (i_Count_paidHeadsOf  hs h) vk_X2_paidHeadsOf kt_73 (Nat.le_of_ble_eq_true rfl) rfl ml_X2_111 ⟨Nat.le_of_ble_eq_true rfl, Nat.le_of_ble_eq_true rfl⟩ ⟨Nat.zero_le _, Nat.zero_le _⟩ rfl rfl (Nat.le_of_ble_eq_true rfl) dX2_cardsOf_6 (fun r6 μ_1 hs h => ?_)
  refine z_istore_n (lv' := [(3, vi r6), (0, vr Γ 73), (1, vi a1), (2, vr Γ a2)]) dX2_cardsOf_9 rfl (Nat.le_of_ble_eq_true rfl) rfl ?_
  refine z_rload_n dX2_cardsOf_10 rfl 3 rfl ?_
  refine z_iconst dX2_cardsOf_11 ?_
  refine z_VE (i_Rules_says hr_a2 hs) vk_X8_says (ru_k hr_a2) (ru_l hr_a2) rfl ml_X2_114 ⟨Nat.le_of_ble_eq_true rfl, Nat.le_of_ble_eq_true rfl⟩ ⟨Nat.zero_le _, Nat.zero_le _⟩ rfl rfl (Nat.le_of_ble_eq_true rfl) dX2_cardsOf_12 ?_
  refine z_ifne_b (tgt := 20) dX2_cardsOf_15 (by decide) h (fun h => ?_) (fun h => ?_)
  · refine z_rload_n dX2_cardsOf_20 rfl 1 rfl ?_
    refine z_getR (q := 10352) ff_2_8 dX2_cardsOf_21 kt_73 (Nat.le_of_ble_eq_true rfl) fl_X2_34 rfl (hs.1 _ _ sr_10352) ?_
    refine z_iconst dX2_cardsOf_24 ?_
    refine z_iload_n dX2_cardsOf_25 rfl 0 rfl ?_
    refine z_NM (i_X11_set kt_81 (Nat.le_of_ble_eq_true rfl)) ok_X11_set nw_X2_74 ⟨Nat.le_of_ble_eq_true rfl, Nat.le_of_ble_eq_true rfl⟩ ⟨Nat.zero_le _, Nat.zero_le _⟩ rfl rfl (Nat.le_of_ble_eq_true rfl) dX2_cardsOf_26 ?_
    refine z_mm (fun μ_2 eμ_2 => ?_)
    replace h := h μ_2 eμ_2
    replace hs : StatR μ_2.2.2 := by rw [eμ_2]; exact (StatR.set hs)
    refine z_rload_n dX2_cardsOf_29 rfl 1 rfl ?_
    refine z_getR (q := 10352) ff_2_8 dX2_cardsOf_30 kt_73 (Nat.le_of_ble_eq_true rfl) fl_X2_34 rfl (hs.1 _ _ sr_10352) ?_
    refine z_iconst dX2_cardsOf_33 ?_
    refine z_rload_n dX2_cardsOf_34 rfl 1 rfl ?_
    refine z_getR (q := 10344) ff_2_0 dX2_cardsOf_35 kt_73 (Nat.le_of_ble_eq_true rfl) fl_X2_42 rfl (hs.1 _ _ sr_10344) ?_
    refine z_iload_n dX2_cardsOf_38 rfl 2 rfl ?_
    refine z_VI (i_Reg_branchesOf  hs h) vk_X7_branchesOf kt_1 (Nat.le_of_ble_eq_true rfl) rfl ml_X2_118 ⟨Nat.le_of_ble_eq_true rfl, Nat.le_of_ble_eq_true rfl⟩ ⟨Nat.zero_le _, Nat.zero_le _⟩ rfl rfl (Nat.le_of_ble_eq_true rfl) dX2_cardsOf_39 (fun r39 μ_3 hs h => ?_)
    refine z_NM (i_X11_set kt_81 (Nat.le_of_ble_eq_true rfl)) ok_X11_set nw_X2_74 ⟨Nat.le_of_ble_eq_true rfl, Nat.le_of_ble_eq_true rfl⟩ ⟨Nat.zero_le _, Nat.zero_le _⟩ rfl rfl (Nat.le_of_ble_eq_true rfl) dX2_cardsOf_42 ?_
    refine z_mm (fun μ_4 eμ_4 => ?_)
    replace h := h μ_4 eμ_4
    replace hs : StatR μ_4.2.2 := by rw [eμ_4]; exact (StatR.set hs)
    refine z_rload_n dX2_cardsOf_45 rfl 1 rfl ?_
    refine z_getR (q := 10352) ff_2_8 dX2_cardsOf_46 kt_73 (Nat.le_of_ble_eq_true rfl) fl_X2_34 rfl (hs.1 _ _ sr_10352) ?_
    refine z_iconst dX2_cardsOf_49 ?_
    refine z_rload_n dX2_cardsOf_50 rfl 1 rfl ?_
    refine z_getR (q := 10344) ff_2_0 dX2_cardsOf_51 kt_73 (Nat.le_of_ble_eq_true rfl) fl_X2_42 rfl (hs.1 _ _ sr_10344) ?_
    refine z_iload_n dX2_cardsOf_54 rfl 2 rfl ?_
    refine z_VI (i_Reg_soulsOf  hs h) vk_X7_soulsOf kt_1 (Nat.le_of_ble_eq_true rfl) rfl ml_X2_121 ⟨Nat.le_of_ble_eq_true rfl, Nat.le_of_ble_eq_true rfl⟩ ⟨Nat.zero_le _, Nat.zero_le _⟩ rfl rfl (Nat.le_of_ble_eq_true rfl) dX2_cardsOf_55 (fun r55 μ_5 hs h => ?_)
    refine z_NM (i_X11_set kt_81 (Nat.le_of_ble_eq_true rfl)) ok_X11_set nw_X2_74 ⟨Nat.le_of_ble_eq_true rfl, Nat.le_of_ble_eq_true rfl⟩ ⟨Nat.zero_le _, Nat.zero_le _⟩ rfl rfl (Nat.le_of_ble_eq_true rfl) dX2_cardsOf_58 ?_
    refine z_mm (fun μ_6 eμ_6 => ?_)
    replace h := h μ_6 eμ_6
    replace hs : StatR μ_6.2.2 := by rw [eμ_6]; exact (StatR.set hs)
    refine z_rload_n dX2_cardsOf_61 rfl 1 rfl ?_
    refine z_getR (q := 10352) ff_2_8 dX2_cardsOf_62 kt_73 (Nat.le_of_ble_eq_true rfl) fl_X2_34 rfl (hs.1 _ _ sr_10352) ?_
    refine z_iconst dX2_cardsOf_65 ?_
    refine z_rload_n dX2_cardsOf_66 rfl 1 rfl ?_
    refine z_getR (q := 10344) ff_2_0 dX2_cardsOf_67 kt_73 (Nat.le_of_ble_eq_true rfl) fl_X2_42 rfl (hs.1 _ _ sr_10344) ?_
    refine z_getR (q := 1128) ff_7_0 dX2_cardsOf_70 kt_1 (Nat.le_of_ble_eq_true rfl) fl_X2_124 rfl (hs.1 _ _ sr_1128) ?_
    refine z_iload_n dX2_cardsOf_73 rfl 2 rfl ?_
    refine z_NE (i_X11_at kt_2 (Nat.le_of_ble_eq_true rfl)) ok_X11_at nw_X2_59 ⟨Nat.le_of_ble_eq_true rfl, Nat.le_of_ble_eq_true rfl⟩ ⟨Nat.zero_le _, Nat.zero_le _⟩ rfl rfl (Nat.le_of_ble_eq_true rfl) dX2_cardsOf_74 ?_
    refine z_NM (i_X11_set kt_81 (Nat.le_of_ble_eq_true rfl)) ok_X11_set nw_X2_74 ⟨Nat.le_of_ble_eq_true rfl, Nat.le_of_ble_eq_true rfl⟩ ⟨Nat.zero_le _, Nat.zero_le _⟩ rfl rfl (Nat.le_of_ble_eq_true rfl) dX2_cardsOf_77 ?_
    refine z_mm (fun μ_7 eμ_7 => ?_)
    replace h := h μ_7 eμ_7
    replace hs : StatR μ_7.2.2 := by rw [eμ_7]; exact (StatR.set hs)
    refine z_iconst dX2_cardsOf_80 ?_
    refine z_rload_n dX2_cardsOf_81 rfl 3 rfl ?_
    refine z_iconst dX2_cardsOf_82 ?_
    refine z_rload_n dX2_cardsOf_83 rfl 1 rfl ?_
    refine z_getR (q := 10352) ff_2_8 dX2_cardsOf_84 kt_73 (Nat.le_of_ble_eq_true rfl) fl_X2_34 rfl (hs.1 _ _ sr_10352) ?_
    refine z_rload_n dX2_cardsOf_87 rfl 1 rfl ?_
    refine z_getR (q := 10353) ff_2_9 dX2_cardsOf_88 kt_73 (Nat.le_of_ble_eq_true rfl) fl_X2_39 rfl (hs.1 _ _ sr_10353) ?_
    refine z_VI (i_Rules_value hr_a2 hs h) vk_X8_value (ru_k hr_a2) (ru_l hr_a2) rfl ml_X2_127 ⟨Nat.le_of_ble_eq_true rfl, Nat.le_of_ble_eq_true rfl⟩ ⟨Nat.zero_le _, Nat.zero_le _⟩ rfl rfl (Nat.le_of_ble_eq_true rfl) dX2_cardsOf_91 (fun r91 μ_8 hs h => ?_)
    refine z_max dX2_cardsOf_94 mm_X2_130 ms_max mi_math mc_max ⟨Nat.le_of_ble_eq_true rfl, Nat.le_of_ble_eq_true rfl⟩ ⟨Nat.zero_le _, Nat.zero_le _⟩ ?_
    exact z_iret rfl dX2_cardsOf_97 rfl rfl rfl ⟨_, rfl, hs, h⟩
  · refine z_iload_n dX2_cardsOf_18 rfl 0 rfl ?_
    exact z_iret rfl dX2_cardsOf_19 rfl rfl rfl ⟨_, rfl, hs, h⟩
abbrev Y_H_cards : Yt := (3, (some .int), yX11_cards.name, { frames := 4, cells := 0, slots := 0, locals := 89 }, 175, 0, 0)
def f_H_cards (a1 : Int) (a2 : Int) (μ : Mem) (k : Int → Mem → Prop) : Prop := if (v_Reg_hasAffiliate a1 μ) = true then (if (v_Reg_isKnownDay a2 μ) = true then (f_Count_take (-1) a2 μ (fun μ_1 => f_Papers_inForce (rI μ_1 9584 0) μ_1 (fun r49 μ_2 => isRu r49 = true ∧ f_Count_cardsOf a1 r49 μ_2 (fun r52 μ_3 => k r52 μ_3)))) else (k (-1) μ)) else (k (-1) μ)
theorem i_H_cards {l : Launch} {Γ : Gam} {g : Nat} {a1 : Int} {a2 : Int} {μ : Mem} {k : Int → Mem → Prop} (hs : StatR μ.2.2) (h : f_H_cards a1 a2 μ k) : CT l Γ yX11_cards cX11_cards 3 (some .int) 4 89 0 0 [vr Γ 0, vi a1, vi a2] g 175 μ (pI k) := by
  refine SW.ct (by decide) (Nat.le_of_ble_eq_true rfl) ?_
  refine z_sub (lv' := [(0, vr Γ 0), (1, vi a1), (2, vi a2)]) [0, 1, 2] rfl ?_
  show SW l Γ yX11_cards.cls cX11_cards Y_H_cards (pI k) g 175 0 0 μ 0 [(0, vr Γ 0), (1, vi a1), (2, vi a2)] []
  unfold f_H_cards at h
  refine z_rload_n dX11_cards_0 rfl 0 rfl ?_
  refine z_getR (q := 1000) ff_11_0 dX11_cards_1 kt_0 (Nat.le_of_ble_eq_true rfl) fl_X11_12 rfl (hs.1 _ _ sr_1000) ?_
  refine z_iload_n dX11_cards_4 rfl 1 rfl ?_
  refine z_VE (i_Reg_hasAffiliate ) vk_X7_hasAffiliate kt_1 (Nat.le_of_ble_eq_true rfl) rfl ml_X11_103 ⟨Nat.le_of_ble_eq_true rfl, Nat.le_of_ble_eq_true rfl⟩ ⟨Nat.zero_le _, Nat.zero_le _⟩ rfl rfl (Nat.le_of_ble_eq_true rfl) dX11_cards_5 ?_
  refine z_ifeq_b (tgt := 22) dX11_cards_8 (by decide) h (fun h => ?_) (fun h => ?_)
  · refine z_rload_n dX11_cards_11 rfl 0 rfl ?_
    refine z_getR (q := 1000) ff_11_0 dX11_cards_12 kt_0 (Nat.le_of_ble_eq_true rfl) fl_X11_12 rfl (hs.1 _ _ sr_1000) ?_
    refine z_iload_n dX11_cards_15 rfl 2 rfl ?_
    refine z_VE (i_Reg_isKnownDay ) vk_X7_isKnownDay kt_1 (Nat.le_of_ble_eq_true rfl) rfl ml_X11_238 ⟨Nat.le_of_ble_eq_true rfl, Nat.le_of_ble_eq_true rfl⟩ ⟨Nat.zero_le _, Nat.zero_le _⟩ rfl rfl (Nat.le_of_ble_eq_true rfl) dX11_cards_16 ?_
    refine z_ifne_b (tgt := 24) dX11_cards_19 (by decide) h (fun h => ?_) (fun h => ?_)
    · refine z_rload_n dX11_cards_24 rfl 0 rfl ?_
      refine z_getR (q := 1006) ff_11_6 dX11_cards_25 kt_0 (Nat.le_of_ble_eq_true rfl) fl_X11_66 rfl (hs.1 _ _ sr_1006) ?_
      refine z_iconst dX11_cards_28 ?_
      refine z_iload_n dX11_cards_29 rfl 2 rfl ?_
      refine z_VU (i_Count_take  hs h) vk_X2_take kt_73 (Nat.le_of_ble_eq_true rfl) rfl ml_X11_142 ⟨Nat.le_of_ble_eq_true rfl, Nat.le_of_ble_eq_true rfl⟩ ⟨Nat.zero_le _, Nat.zero_le _⟩ rfl rfl (Nat.le_of_ble_eq_true rfl) dX11_cards_30 (fun μ_1 hs h => ?_)
      refine z_rload_n dX11_cards_33 rfl 0 rfl ?_
      refine z_getR (q := 1006) ff_11_6 dX11_cards_34 kt_0 (Nat.le_of_ble_eq_true rfl) fl_X11_66 rfl (hs.1 _ _ sr_1006) ?_
      refine z_iload_n dX11_cards_37 rfl 1 rfl ?_
      refine z_rload_n dX11_cards_38 rfl 0 rfl ?_
      refine z_getR (q := 1004) ff_11_4 dX11_cards_39 kt_0 (Nat.le_of_ble_eq_true rfl) fl_X11_26 rfl (hs.1 _ _ sr_1004) ?_
      refine z_rload_n dX11_cards_42 rfl 0 rfl ?_
      refine z_getR (q := 1005) ff_11_5 dX11_cards_43 kt_0 (Nat.le_of_ble_eq_true rfl) fl_X11_57 rfl (hs.1 _ _ sr_1005) ?_
      refine z_getI (q := 9584) ff_3_8 dX11_cards_46 kt_67 (Nat.le_of_ble_eq_true rfl) fl_X11_125 rfl ?_
      refine z_VA (i_Papers_inForce  hs h) vk_X6_inForce kt_12 (Nat.le_of_ble_eq_true rfl) rfl ml_X11_129 ⟨Nat.le_of_ble_eq_true rfl, Nat.le_of_ble_eq_true rfl⟩ ⟨Nat.zero_le _, Nat.zero_le _⟩ rfl rfl (Nat.le_of_ble_eq_true rfl) dX11_cards_49 (fun r49 μ_2 hs h => ?_)
      obtain ⟨hr_r49, h⟩ := h
      refine z_VI (i_Count_cardsOf hr_r49 hs h) vk_X2_cardsOf kt_73 (Nat.le_of_ble_eq_true rfl) rfl ml_X11_247 ⟨Nat.le_of_ble_eq_true rfl, Nat.le_of_ble_eq_true rfl⟩ ⟨Nat.zero_le _, Nat.zero_le _⟩ rfl rfl (Nat.le_of_ble_eq_true rfl) dX11_cards_52 (fun r52 μ_3 hs h => ?_)
      exact z_iret rfl dX11_cards_55 rfl rfl rfl ⟨_, rfl, hs, h⟩
    · refine z_iconst dX11_cards_22 ?_
      exact z_iret rfl dX11_cards_23 rfl rfl rfl ⟨_, rfl, hs, h⟩
  · refine z_iconst dX11_cards_22 ?_
    exact z_iret rfl dX11_cards_23 rfl rfl rfl ⟨_, rfl, hs, h⟩
abbrev Y_H_voice : Yt := (5, (some .int), yX11_voice.name, { frames := 4, cells := 0, slots := 0, locals := 89 }, 175, 0, 0)
def f_H_voice (a1 : Int) (a2 : Int) (a3 : Int) (a4 : Int) (μ : Mem) (k : Int → Mem → Prop) : Prop := if (v_Reg_hasAffiliate a1 μ) = true then (if (v_Floor_has a2 μ) = true then (if (v_Reg_isKnownDay a3 μ) = true then (if w a4 < 0 then (k (-1) μ) else (if w 1 < w a4 then (k (-1) μ) else (f_Count_take a2 a3 μ (fun μ_1 => if w a4 = 0 then (f_Count_voiceOf a1 μ_1 (fun r65 μ_2 => k r65 μ_2)) else (f_Count_mandateOf a1 μ_1 (fun r76 μ_3 => k r76 μ_3)))))) else (k (-1) μ)) else (k (-1) μ)) else (k (-1) μ)
theorem i_H_voice {l : Launch} {Γ : Gam} {g : Nat} {a1 : Int} {a2 : Int} {a3 : Int} {a4 : Int} {μ : Mem} {k : Int → Mem → Prop} (hs : StatR μ.2.2) (h : f_H_voice a1 a2 a3 a4 μ k) : CT l Γ yX11_voice cX11_voice 5 (some .int) 4 89 0 0 [vr Γ 0, vi a1, vi a2, vi a3, vi a4] g 175 μ (pI k) := by
  refine SW.ct (by decide) (Nat.le_of_ble_eq_true rfl) ?_
  refine z_sub (lv' := [(0, vr Γ 0), (1, vi a1), (2, vi a2), (3, vi a3), (4, vi a4)]) [0, 1, 2, 3, 4] rfl ?_
  show SW l Γ yX11_voice.cls cX11_voice Y_H_voice (pI k) g 175 0 0 μ 0 [(0, vr Γ 0), (1, vi a1), (2, vi a2), (3, vi a3), (4, vi a4)] []
  unfold f_H_voice at h
  refine z_rload_n dX11_voice_0 rfl 0 rfl ?_
  refine z_getR (q := 1000) ff_11_0 dX11_voice_1 kt_0 (Nat.le_of_ble_eq_true rfl) fl_X11_12 rfl (hs.1 _ _ sr_1000) ?_
  refine z_iload_n dX11_voice_4 rfl 1 rfl ?_
  refine z_VE (i_Reg_hasAffiliate ) vk_X7_hasAffiliate kt_1 (Nat.le_of_ble_eq_true rfl) rfl ml_X11_103 ⟨Nat.le_of_ble_eq_true rfl, Nat.le_of_ble_eq_true rfl⟩ ⟨Nat.zero_le _, Nat.zero_le _⟩ rfl rfl (Nat.le_of_ble_eq_true rfl) dX11_voice_5 ?_
  refine z_ifeq_b (tgt := 44) dX11_voice_8 (by decide) h (fun h => ?_) (fun h => ?_)
  · refine z_rload_n dX11_voice_11 rfl 0 rfl ?_
    refine z_getR (q := 1005) ff_11_5 dX11_voice_12 kt_0 (Nat.le_of_ble_eq_true rfl) fl_X11_57 rfl (hs.1 _ _ sr_1005) ?_
    refine z_iload_n dX11_voice_15 rfl 2 rfl ?_
    refine z_VE (i_Floor_has hs) vk_X3_has kt_67 (Nat.le_of_ble_eq_true rfl) rfl ml_X11_115 ⟨Nat.le_of_ble_eq_true rfl, Nat.le_of_ble_eq_true rfl⟩ ⟨Nat.zero_le _, Nat.zero_le _⟩ rfl rfl (Nat.le_of_ble_eq_true rfl) dX11_voice_16 ?_
    refine z_ifeq_b (tgt := 44) dX11_voice_19 (by decide) h (fun h => ?_) (fun h => ?_)
    · refine z_rload_n dX11_voice_22 rfl 0 rfl ?_
      refine z_getR (q := 1000) ff_11_0 dX11_voice_23 kt_0 (Nat.le_of_ble_eq_true rfl) fl_X11_12 rfl (hs.1 _ _ sr_1000) ?_
      refine z_iload_n dX11_voice_26 rfl 3 rfl ?_
      refine z_VE (i_Reg_isKnownDay ) vk_X7_isKnownDay kt_1 (Nat.le_of_ble_eq_true rfl) rfl ml_X11_238 ⟨Nat.le_of_ble_eq_true rfl, Nat.le_of_ble_eq_true rfl⟩ ⟨Nat.zero_le _, Nat.zero_le _⟩ rfl rfl (Nat.le_of_ble_eq_true rfl) dX11_voice_27 ?_
      refine z_ifeq_b (tgt := 44) dX11_voice_30 (by decide) h (fun h => ?_) (fun h => ?_)
      · refine z_iload dX11_voice_33 4 rfl ?_
        refine z_if_lt (tgt := 44) dX11_voice_35 (by decide) h (fun h => ?_) (fun h => ?_)
        · refine z_iconst dX11_voice_44 ?_
          exact z_iret rfl dX11_voice_45 rfl rfl rfl ⟨_, rfl, hs, h⟩
        · refine z_iload dX11_voice_38 4 rfl ?_
          refine z_iconst dX11_voice_40 ?_
          refine z_icmp_le (tgt := 46) dX11_voice_41 (by decide) h (fun h => ?_) (fun h => ?_)
          · refine z_iconst dX11_voice_44 ?_
            exact z_iret rfl dX11_voice_45 rfl rfl rfl ⟨_, rfl, hs, h⟩
          · refine z_rload_n dX11_voice_46 rfl 0 rfl ?_
            refine z_getR (q := 1006) ff_11_6 dX11_voice_47 kt_0 (Nat.le_of_ble_eq_true rfl) fl_X11_66 rfl (hs.1 _ _ sr_1006) ?_
            refine z_iload_n dX11_voice_50 rfl 2 rfl ?_
            refine z_iload_n dX11_voice_51 rfl 3 rfl ?_
            refine z_VU (i_Count_take  hs h) vk_X2_take kt_73 (Nat.le_of_ble_eq_true rfl) rfl ml_X11_142 ⟨Nat.le_of_ble_eq_true rfl, Nat.le_of_ble_eq_true rfl⟩ ⟨Nat.zero_le _, Nat.zero_le _⟩ rfl rfl (Nat.le_of_ble_eq_true rfl) dX11_voice_52 (fun μ_1 hs h => ?_)
            refine z_iload dX11_voice_55 4 rfl ?_
            refine z_if_ne (tgt := 71) dX11_voice_57 (by decide) h (fun h => ?_) (fun h => ?_)
            · refine z_rload_n dX11_voice_60 rfl 0 rfl ?_
              refine z_getR (q := 1006) ff_11_6 dX11_voice_61 kt_0 (Nat.le_of_ble_eq_true rfl) fl_X11_66 rfl (hs.1 _ _ sr_1006) ?_
              refine z_iload_n dX11_voice_64 rfl 1 rfl ?_
              refine z_VI (i_Count_voiceOf  hs h) vk_X2_voiceOf kt_73 (Nat.le_of_ble_eq_true rfl) rfl ml_X11_251 ⟨Nat.le_of_ble_eq_true rfl, Nat.le_of_ble_eq_true rfl⟩ ⟨Nat.zero_le _, Nat.zero_le _⟩ rfl rfl (Nat.le_of_ble_eq_true rfl) dX11_voice_65 (fun r65 μ_2 hs h => ?_)
              refine z_goto (tgt := 79) dX11_voice_68 (by decide) ?_
              exact z_iret rfl dX11_voice_79 rfl rfl rfl ⟨_, rfl, hs, h⟩
            · refine z_rload_n dX11_voice_71 rfl 0 rfl ?_
              refine z_getR (q := 1006) ff_11_6 dX11_voice_72 kt_0 (Nat.le_of_ble_eq_true rfl) fl_X11_66 rfl (hs.1 _ _ sr_1006) ?_
              refine z_iload_n dX11_voice_75 rfl 1 rfl ?_
              refine z_VI (i_Count_mandateOf  hs h) vk_X2_mandateOf kt_73 (Nat.le_of_ble_eq_true rfl) rfl ml_X11_146 ⟨Nat.le_of_ble_eq_true rfl, Nat.le_of_ble_eq_true rfl⟩ ⟨Nat.zero_le _, Nat.zero_le _⟩ rfl rfl (Nat.le_of_ble_eq_true rfl) dX11_voice_76 (fun r76 μ_3 hs h => ?_)
              exact z_iret rfl dX11_voice_79 rfl rfl rfl ⟨_, rfl, hs, h⟩
      · refine z_iconst dX11_voice_44 ?_
        exact z_iret rfl dX11_voice_45 rfl rfl rfl ⟨_, rfl, hs, h⟩
    · refine z_iconst dX11_voice_44 ?_
      exact z_iret rfl dX11_voice_45 rfl rfl rfl ⟨_, rfl, hs, h⟩
  · refine z_iconst dX11_voice_44 ?_
    exact z_iret rfl dX11_voice_45 rfl rfl rfl ⟨_, rfl, hs, h⟩
abbrev Y_Count_add : Yt := (4, none, yX2_add.name, { frames := 0, cells := 0, slots := 0, locals := 0 }, 175, 0, 0)
def f_Count_add (a1 : Int) (a2 : Int) (a3 : Int) (μ : Mem) (k : Mem → Prop) : Prop := ∀ μ_1 : Mem, μ_1 = sL μ 10356 0 ((rL μ 10356 0) + (w_i2l a3)) → ∀ x27 : Int64, x27 = (if w a2 = w 1 then (w_i2l a3) else 0) → ∀ μ_2 : Mem, μ_2 = sL μ_1 10354 0 ((rL μ_1 10354 0) + x27) → ∀ x46 : Int64, x46 = (if w a2 = 0 then (w_i2l a3) else 0) → ∀ μ_3 : Mem, μ_3 = sL μ_2 10355 0 ((rL μ_2 10355 0) + x46) → if w a1 < 0 then (k μ_3) else (if w a1 < w ((6 : Nat) : Int) then (0 ≤ w a1 ∧ w a1 < ((6 : Nat) : Int) ∧ ∀ x91 : Int64, x91 = (if w a2 = w 1 then (w_i2l a3) else (if w a2 = 0 then (w_i2l (-a3)) else 0)) → 0 ≤ w a1 ∧ w a1 < ((6 : Nat) : Int) ∧ ∀ μ_4 : Mem, μ_4 = sL μ_3 80 (w a1) ((rL μ_3 80 (w a1)) + x91) → k μ_4) else (k μ_3))
theorem i_Count_add {l : Launch} {Γ : Gam} {g : Nat} {a1 : Int} {a2 : Int} {a3 : Int} {μ : Mem} {k : Mem → Prop} (hs : StatR μ.2.2) (h : f_Count_add a1 a2 a3 μ k) : CT l Γ yX2_add cX2_add 4 none 0 0 0 0 [vr Γ 73, vi a1, vi a2, vi a3] g 175 μ (pV k) := by
  refine SW.ct (by decide) (Nat.le_of_ble_eq_true rfl) ?_
  refine z_sub (lv' := [(0, vr Γ 73), (1, vi a1), (2, vi a2), (3, vi a3)]) [0, 1, 2, 3] rfl ?_
  show SW l Γ yX2_add.cls cX2_add Y_Count_add (pV k) g 175 0 0 μ 0 [(0, vr Γ 73), (1, vi a1), (2, vi a2), (3, vi a3)] []
  unfold f_Count_add at h
  refine z_rload_n dX2_add_0 rfl 0 rfl ?_
  refine z_dup dX2_add_1 rfl ?_
  refine z_getJ (q := 10356) ff_2_12 dX2_add_2 kt_73 (Nat.le_of_ble_eq_true rfl) fl_X2_154 rfl ?_
  refine z_iload_n dX2_add_5 rfl 3 rfl ?_
  refine z_i2l dX2_add_6 ?_
  refine z_ladd dX2_add_7 ?_
  refine z_putJ (q := 10356) ff_2_12 (Or.inl rfl) rfl dX2_add_8 kt_73 (Nat.le_of_ble_eq_true rfl) fl_X2_154 rfl ?_
  refine z_mm (fun μ_1 eμ_1 => ?_)
  replace h := h μ_1 eμ_1
  replace hs : StatR μ_1.2.2 := by rw [eμ_1]; exact hs
  refine z_rload_n dX2_add_11 rfl 0 rfl ?_
  refine z_dup dX2_add_12 rfl ?_
  refine z_getJ (q := 10354) ff_2_10 dX2_add_13 kt_73 (Nat.le_of_ble_eq_true rfl) fl_X2_147 rfl ?_
  refine z_iload_n dX2_add_16 rfl 2 rfl ?_
  refine z_iconst dX2_add_17 ?_
  refine z_phiL 27 [vl (rL μ_1 10354 0), vr Γ 73] (fun V9 hv J9 => ?_) h (fun x27 h => ?_)
  · refine z_icmp_ne (tgt := 26) dX2_add_18 (by decide) (eq_ite hv) (fun hv => ?_) (fun hv => ?_)
    · refine z_iload_n dX2_add_21 rfl 3 rfl ?_
      refine z_i2l dX2_add_22 ?_
      refine z_goto (tgt := 27) dX2_add_23 (by decide) ?_
      exact J9 _ hv.symm
    · refine z_lconst (v := 0) dX2_add_26 rfl ?_
      exact J9 _ hv.symm
  · refine z_ladd dX2_add_27 ?_
    refine z_putJ (q := 10354) ff_2_10 (Or.inl rfl) rfl dX2_add_28 kt_73 (Nat.le_of_ble_eq_true rfl) fl_X2_147 rfl ?_
    refine z_mm (fun μ_2 eμ_2 => ?_)
    replace h := h μ_2 eμ_2
    replace hs : StatR μ_2.2.2 := by rw [eμ_2]; exact hs
    refine z_rload_n dX2_add_31 rfl 0 rfl ?_
    refine z_dup dX2_add_32 rfl ?_
    refine z_getJ (q := 10355) ff_2_11 dX2_add_33 kt_73 (Nat.le_of_ble_eq_true rfl) fl_X2_151 rfl ?_
    refine z_iload_n dX2_add_36 rfl 2 rfl ?_
    refine z_phiL 46 [vl (rL μ_2 10355 0), vr Γ 73] (fun V9 hv J9 => ?_) h (fun x46 h => ?_)
    · refine z_if_ne (tgt := 45) dX2_add_37 (by decide) (eq_ite hv) (fun hv => ?_) (fun hv => ?_)
      · refine z_iload_n dX2_add_40 rfl 3 rfl ?_
        refine z_i2l dX2_add_41 ?_
        refine z_goto (tgt := 46) dX2_add_42 (by decide) ?_
        exact J9 _ hv.symm
      · refine z_lconst (v := 0) dX2_add_45 rfl ?_
        exact J9 _ hv.symm
    · refine z_ladd dX2_add_46 ?_
      refine z_putJ (q := 10355) ff_2_11 (Or.inl rfl) rfl dX2_add_47 kt_73 (Nat.le_of_ble_eq_true rfl) fl_X2_151 rfl ?_
      refine z_mm (fun μ_3 eμ_3 => ?_)
      replace h := h μ_3 eμ_3
      replace hs : StatR μ_3.2.2 := by rw [eμ_3]; exact hs
      refine z_iload_n dX2_add_50 rfl 1 rfl ?_
      refine z_if_lt (tgt := 93) dX2_add_51 (by decide) h (fun h => ?_) (fun h => ?_)
      · exact z_vret rfl dX2_add_93 rfl rfl rfl ⟨rfl, hs, h⟩
      · refine z_iload_n dX2_add_54 rfl 1 rfl ?_
        refine z_rload_n dX2_add_55 rfl 0 rfl ?_
        refine z_getR (q := 10351) ff_2_7 dX2_add_56 kt_73 (Nat.le_of_ble_eq_true rfl) fl_X2_30 rfl (hs.1 _ _ sr_10351) ?_
        refine z_alen dX2_add_59 kt_80 (by decide) (Nat.le_of_ble_eq_true rfl) ?_
        refine z_icmp_ge (tgt := 93) dX2_add_60 (by decide) h (fun h => ?_) (fun h => ?_)
        · refine z_rload_n dX2_add_63 rfl 0 rfl ?_
          refine z_getR (q := 10351) ff_2_7 dX2_add_64 kt_73 (Nat.le_of_ble_eq_true rfl) fl_X2_30 rfl (hs.1 _ _ sr_10351) ?_
          refine z_iload_n dX2_add_67 rfl 1 rfl ?_
          refine z_dup2 dX2_add_68 rfl rfl ?_
          obtain ⟨h0, h1, h⟩ := h
          refine z_lald dX2_add_69 kt_80 (Nat.le_of_ble_eq_true rfl) h0 h1 ?_
          refine z_iload_n dX2_add_70 rfl 2 rfl ?_
          refine z_iconst dX2_add_71 ?_
          refine z_phiL 91 [vl (rL μ_3 80 (w a1)), vi a1, vr Γ 80] (fun V9 hv J9 => ?_) h (fun x91 h => ?_)
          · refine z_icmp_ne (tgt := 80) dX2_add_72 (by decide) (eq_ite hv) (fun hv => ?_) (fun hv => ?_)
            · refine z_iload_n dX2_add_75 rfl 3 rfl ?_
              refine z_i2l dX2_add_76 ?_
              refine z_goto (tgt := 91) dX2_add_77 (by decide) ?_
              exact J9 _ hv.symm
            · refine z_iload_n dX2_add_80 rfl 2 rfl ?_
              refine z_if_ne (tgt := 90) dX2_add_81 (by decide) (eq_ite hv) (fun hv => ?_) (fun hv => ?_)
              · refine z_iload_n dX2_add_84 rfl 3 rfl ?_
                refine z_ineg dX2_add_85 ?_
                refine z_i2l dX2_add_86 ?_
                refine z_goto (tgt := 91) dX2_add_87 (by decide) ?_
                exact J9 _ hv.symm
              · refine z_lconst (v := 0) dX2_add_90 rfl ?_
                exact J9 _ hv.symm
          · refine z_ladd dX2_add_91 ?_
            obtain ⟨h0, h1, h⟩ := h
            refine z_last dX2_add_92 kt_80 (Nat.le_of_ble_eq_true rfl) h0 h1 ?_
            refine z_mm (fun μ_4 eμ_4 => ?_)
            replace h := h μ_4 eμ_4
            replace hs : StatR μ_4.2.2 := by rw [eμ_4]; exact hs
            exact z_vret rfl dX2_add_93 rfl rfl rfl ⟨rfl, hs, h⟩
        · exact z_vret rfl dX2_add_93 rfl rfl rfl ⟨rfl, hs, h⟩
abbrev Y_Count_beginSum : Yt := (2, none, yX2_beginSum.name, { frames := 0, cells := 0, slots := 0, locals := 0 }, 175, 0, 0)
def l_Count_beginSum_17 (X_17_39 : Mem → Prop) : Nat → Int → Mem → Prop
  | 0, _, _ => False
  | fu17 + 1, v1, μ_4 => if w v1 < w ((6 : Nat) : Int) then (0 ≤ w v1 ∧ w v1 < ((6 : Nat) : Int) ∧ ∀ μ_5 : Mem, μ_5 = sL μ_4 80 (w v1) 0 → (l_Count_beginSum_17 X_17_39 fu17) (v1 + 1) μ_5) else (X_17_39 μ_4)
def f_Count_beginSum  (μ : Mem) (k : Mem → Prop) : Prop := ∀ μ_1 : Mem, μ_1 = sL μ 10354 0 0 → ∀ μ_2 : Mem, μ_2 = sL μ_1 10355 0 0 → ∀ μ_3 : Mem, μ_3 = sL μ_2 10356 0 0 → ∃ m17 : Nat, l_Count_beginSum_17 (fun (μ_6 : Mem) => k μ_6) m17 0 μ_3
theorem L_Count_beginSum_17 {l : Launch} {Γ : Gam} {g : Nat} {X_17_39 : Mem → Prop} {k : Mem → Prop} (hX_17_39 : ∀ (ν : Mem), StatR ν.2.2 → X_17_39 ν → SW l Γ yX2_beginSum.cls cX2_beginSum Y_Count_beginSum (pV k) g 175 0 0 ν 39 [] []) (n9 : Nat) : ∀ (v1 : Int) (μ_4 : Mem), StatR μ_4.2.2 → l_Count_beginSum_17 X_17_39 n9 v1 μ_4 → SW l Γ yX2_beginSum.cls cX2_beginSum Y_Count_beginSum (pV k) g 175 0 0 μ_4 17 [(0, vr Γ 73), (1, vi v1)] [] := by
  induction n9 with
  | zero =>
    intro v1 μ_4 hs h
    exact h.elim
  | succ n9 hR_17 =>
    intro v1 μ_4 hs h
    rw [l_Count_beginSum_17] at h
    refine z_iload_n dX2_beginSum_17 rfl 1 rfl ?_
    refine z_rload_n dX2_beginSum_18 rfl 0 rfl ?_
    refine z_getR (q := 10351) ff_2_7 dX2_beginSum_19 kt_73 (Nat.le_of_ble_eq_true rfl) fl_X2_30 rfl (hs.1 _ _ sr_10351) ?_
    refine z_alen dX2_beginSum_22 kt_80 (by decide) (Nat.le_of_ble_eq_true rfl) ?_
    refine z_icmp_ge (tgt := 39) dX2_beginSum_23 (by decide) h (fun h => ?_) (fun h => ?_)
    · refine z_rload_n dX2_beginSum_26 rfl 0 rfl ?_
      refine z_getR (q := 10351) ff_2_7 dX2_beginSum_27 kt_73 (Nat.le_of_ble_eq_true rfl) fl_X2_30 rfl (hs.1 _ _ sr_10351) ?_
      refine z_iload_n dX2_beginSum_30 rfl 1 rfl ?_
      refine z_lconst (v := 0) dX2_beginSum_31 rfl ?_
      obtain ⟨h0, h1, h⟩ := h
      refine z_last dX2_beginSum_32 kt_80 (Nat.le_of_ble_eq_true rfl) h0 h1 ?_
      refine z_mm (fun μ_5 eμ_5 => ?_)
      replace h := h μ_5 eμ_5
      replace hs : StatR μ_5.2.2 := by rw [eμ_5]; exact hs
      refine z_iinc (j := 1) (lv' := [(1, vi (v1 + 1)), (0, vr Γ 73)]) dX2_beginSum_33 rfl (Nat.le_of_ble_eq_true rfl) rfl ?_
      refine z_goto (tgt := 17) dX2_beginSum_36 (by decide) ?_
      refine z_sub (lv' := [(0, vr Γ 73), (1, vi (v1 + 1))]) [1, 0] rfl ?_
      exact hR_17 (v1 + 1) μ_5 hs h
    · refine z_sub (lv' := []) [] rfl ?_
      exact hX_17_39 μ_4 hs h
theorem i_Count_beginSum {l : Launch} {Γ : Gam} {g : Nat} {μ : Mem} {k : Mem → Prop} (hs : StatR μ.2.2) (h : f_Count_beginSum  μ k) : CT l Γ yX2_beginSum cX2_beginSum 2 none 0 0 0 0 [vr Γ 73] g 175 μ (pV k) := by
  refine SW.ct (by decide) (Nat.le_of_ble_eq_true rfl) ?_
  refine z_sub (lv' := [(0, vr Γ 73)]) [0] rfl ?_
  show SW l Γ yX2_beginSum.cls cX2_beginSum Y_Count_beginSum (pV k) g 175 0 0 μ 0 [(0, vr Γ 73)] []
  unfold f_Count_beginSum at h
  refine z_rload_n dX2_beginSum_0 rfl 0 rfl ?_
  refine z_lconst (v := 0) dX2_beginSum_1 rfl ?_
  refine z_putJ (q := 10354) ff_2_10 (Or.inl rfl) rfl dX2_beginSum_2 kt_73 (Nat.le_of_ble_eq_true rfl) fl_X2_147 rfl ?_
  refine z_mm (fun μ_1 eμ_1 => ?_)
  replace h := h μ_1 eμ_1
  replace hs : StatR μ_1.2.2 := by rw [eμ_1]; exact hs
  refine z_rload_n dX2_beginSum_5 rfl 0 rfl ?_
  refine z_lconst (v := 0) dX2_beginSum_6 rfl ?_
  refine z_putJ (q := 10355) ff_2_11 (Or.inl rfl) rfl dX2_beginSum_7 kt_73 (Nat.le_of_ble_eq_true rfl) fl_X2_151 rfl ?_
  refine z_mm (fun μ_2 eμ_2 => ?_)
  replace h := h μ_2 eμ_2
  replace hs : StatR μ_2.2.2 := by rw [eμ_2]; exact hs
  refine z_rload_n dX2_beginSum_10 rfl 0 rfl ?_
  refine z_lconst (v := 0) dX2_beginSum_11 rfl ?_
  refine z_putJ (q := 10356) ff_2_12 (Or.inl rfl) rfl dX2_beginSum_12 kt_73 (Nat.le_of_ble_eq_true rfl) fl_X2_154 rfl ?_
  refine z_mm (fun μ_3 eμ_3 => ?_)
  replace h := h μ_3 eμ_3
  replace hs : StatR μ_3.2.2 := by rw [eμ_3]; exact hs
  refine z_iconst dX2_beginSum_15 ?_
  refine z_istore_n (lv' := [(1, vi 0), (0, vr Γ 73)]) dX2_beginSum_16 rfl (Nat.le_of_ble_eq_true rfl) rfl ?_
  obtain ⟨m17, h⟩ := h
  refine z_sub (lv' := [(0, vr Γ 73), (1, vi 0)]) [1, 0] rfl ?_
  refine L_Count_beginSum_17 (fun μ_6 hs h => ?_) m17 0 μ_3 hs h
  exact z_vret rfl dX2_beginSum_39 rfl rfl rfl ⟨rfl, hs, h⟩
abbrev Y_Count_endSum : Yt := (2, none, yX2_endSum.name, { frames := 1, cells := 0, slots := 0, locals := 21 }, 175, 0, 0)
def l_Count_endSum_40 (X_40_80 : Mem → Prop) : Nat → Int → Mem → Prop
  | 0, _, _ => False
  | fu40 + 1, v1, μ_5 => if w v1 < w ((6 : Nat) : Int) then (0 ≤ w v1 ∧ w v1 < ((6 : Nat) : Int) ∧ ∀ x70 : Int, x70 = (if 0 < (rL μ_5 80 (w v1)) then 1 else 0) → ∀ μ_6 : Mem, μ_6 = sI μ_5 10360 0 ((rI μ_5 10360 0) + x70) → (l_Count_endSum_40 X_40_80 fu40) (v1 + 1) μ_6) else (X_40_80 μ_5)
def f_Count_endSum  (μ : Mem) (k : Mem → Prop) : Prop := ∀ μ_1 : Mem, μ_1 = sI μ 10357 0 (v_Rules_bounded (rL μ 10354 0)) → ∀ μ_2 : Mem, μ_2 = sI μ_1 10358 0 (v_Rules_bounded (rL μ_1 10355 0)) → ∀ μ_3 : Mem, μ_3 = sI μ_2 10359 0 (v_Rules_bounded (rL μ_2 10356 0)) → ∀ μ_4 : Mem, μ_4 = sI μ_3 10360 0 0 → ∃ m40 : Nat, l_Count_endSum_40 (fun (μ_7 : Mem) => k μ_7) m40 0 μ_4
theorem L_Count_endSum_40 {l : Launch} {Γ : Gam} {g : Nat} {X_40_80 : Mem → Prop} {k : Mem → Prop} (hX_40_80 : ∀ (ν : Mem), StatR ν.2.2 → X_40_80 ν → SW l Γ yX2_endSum.cls cX2_endSum Y_Count_endSum (pV k) g 175 0 0 ν 80 [] []) (n9 : Nat) : ∀ (v1 : Int) (μ_5 : Mem), StatR μ_5.2.2 → l_Count_endSum_40 X_40_80 n9 v1 μ_5 → SW l Γ yX2_endSum.cls cX2_endSum Y_Count_endSum (pV k) g 175 0 0 μ_5 40 [(0, vr Γ 73), (1, vi v1)] [] := by
  induction n9 with
  | zero =>
    intro v1 μ_5 hs h
    exact h.elim
  | succ n9 hR_40 =>
    intro v1 μ_5 hs h
    rw [l_Count_endSum_40] at h
    refine z_iload_n dX2_endSum_40 rfl 1 rfl ?_
    refine z_rload_n dX2_endSum_41 rfl 0 rfl ?_
    refine z_getR (q := 10351) ff_2_7 dX2_endSum_42 kt_73 (Nat.le_of_ble_eq_true rfl) fl_X2_30 rfl (hs.1 _ _ sr_10351) ?_
    refine z_alen dX2_endSum_45 kt_80 (by decide) (Nat.le_of_ble_eq_true rfl) ?_
    refine z_icmp_ge (tgt := 80) dX2_endSum_46 (by decide) h (fun h => ?_) (fun h => ?_)
    · refine z_rload_n dX2_endSum_49 rfl 0 rfl ?_
      refine z_dup dX2_endSum_50 rfl ?_
      refine z_getI (q := 10360) ff_2_16 dX2_endSum_51 kt_73 (Nat.le_of_ble_eq_true rfl) fl_X2_170 rfl ?_
      refine z_rload_n dX2_endSum_54 rfl 0 rfl ?_
      refine z_getR (q := 10351) ff_2_7 dX2_endSum_55 kt_73 (Nat.le_of_ble_eq_true rfl) fl_X2_30 rfl (hs.1 _ _ sr_10351) ?_
      refine z_iload_n dX2_endSum_58 rfl 1 rfl ?_
      obtain ⟨h0, h1, h⟩ := h
      refine z_lald dX2_endSum_59 kt_80 (Nat.le_of_ble_eq_true rfl) h0 h1 ?_
      refine z_lconst (v := 0) dX2_endSum_60 rfl ?_
      refine z_phi 70 [vi (rI μ_5 10360 0), vr Γ 73] (fun V9 hv J9 => ?_) h (fun x70 h => ?_)
      · refine z_lcmp_le (tgt := 69) dX2_endSum_61 dX2_endSum_62 (by decide) (eq_ite hv) (fun hv => ?_) (fun hv => ?_)
        · refine z_iconst dX2_endSum_65 ?_
          refine z_goto (tgt := 70) dX2_endSum_66 (by decide) ?_
          exact J9 _ hv.symm
        · refine z_iconst dX2_endSum_69 ?_
          exact J9 _ hv.symm
      · refine z_iadd dX2_endSum_70 ?_
        refine z_putI (q := 10360) ff_2_16 (Or.inl rfl) rfl dX2_endSum_71 kt_73 (Nat.le_of_ble_eq_true rfl) fl_X2_170 rfl ?_
        refine z_mm (fun μ_6 eμ_6 => ?_)
        replace h := h μ_6 eμ_6
        replace hs : StatR μ_6.2.2 := by rw [eμ_6]; exact hs
        refine z_iinc (j := 1) (lv' := [(1, vi (v1 + 1)), (0, vr Γ 73)]) dX2_endSum_74 rfl (Nat.le_of_ble_eq_true rfl) rfl ?_
        refine z_goto (tgt := 40) dX2_endSum_77 (by decide) ?_
        refine z_sub (lv' := [(0, vr Γ 73), (1, vi (v1 + 1))]) [1, 0] rfl ?_
        exact hR_40 (v1 + 1) μ_6 hs h
    · refine z_sub (lv' := []) [] rfl ?_
      exact hX_40_80 μ_5 hs h
theorem i_Count_endSum {l : Launch} {Γ : Gam} {g : Nat} {μ : Mem} {k : Mem → Prop} (hs : StatR μ.2.2) (h : f_Count_endSum  μ k) : CT l Γ yX2_endSum cX2_endSum 2 none 1 21 0 0 [vr Γ 73] g 175 μ (pV k) := by
  refine SW.ct (by decide) (Nat.le_of_ble_eq_true rfl) ?_
  refine z_sub (lv' := [(0, vr Γ 73)]) [0] rfl ?_
  show SW l Γ yX2_endSum.cls cX2_endSum Y_Count_endSum (pV k) g 175 0 0 μ 0 [(0, vr Γ 73)] []
  unfold f_Count_endSum at h
  refine z_rload_n dX2_endSum_0 rfl 0 rfl ?_
  refine z_rload_n dX2_endSum_1 rfl 0 rfl ?_
  refine z_getJ (q := 10354) ff_2_10 dX2_endSum_2 kt_73 (Nat.le_of_ble_eq_true rfl) fl_X2_147 rfl ?_
  refine z_SE (i_Rules_bounded ) sk_X8_bounded ml_X2_157 ⟨Nat.le_of_ble_eq_true rfl, Nat.le_of_ble_eq_true rfl⟩ ⟨Nat.zero_le _, Nat.zero_le _⟩ rfl rfl (Nat.le_of_ble_eq_true rfl) dX2_endSum_5 ?_
  refine z_putI (q := 10357) ff_2_13 (Or.inl rfl) rfl dX2_endSum_8 kt_73 (Nat.le_of_ble_eq_true rfl) fl_X2_161 rfl ?_
  refine z_mm (fun μ_1 eμ_1 => ?_)
  replace h := h μ_1 eμ_1
  replace hs : StatR μ_1.2.2 := by rw [eμ_1]; exact hs
  refine z_rload_n dX2_endSum_11 rfl 0 rfl ?_
  refine z_rload_n dX2_endSum_12 rfl 0 rfl ?_
  refine z_getJ (q := 10355) ff_2_11 dX2_endSum_13 kt_73 (Nat.le_of_ble_eq_true rfl) fl_X2_151 rfl ?_
  refine z_SE (i_Rules_bounded ) sk_X8_bounded ml_X2_157 ⟨Nat.le_of_ble_eq_true rfl, Nat.le_of_ble_eq_true rfl⟩ ⟨Nat.zero_le _, Nat.zero_le _⟩ rfl rfl (Nat.le_of_ble_eq_true rfl) dX2_endSum_16 ?_
  refine z_putI (q := 10358) ff_2_14 (Or.inl rfl) rfl dX2_endSum_19 kt_73 (Nat.le_of_ble_eq_true rfl) fl_X2_164 rfl ?_
  refine z_mm (fun μ_2 eμ_2 => ?_)
  replace h := h μ_2 eμ_2
  replace hs : StatR μ_2.2.2 := by rw [eμ_2]; exact hs
  refine z_rload_n dX2_endSum_22 rfl 0 rfl ?_
  refine z_rload_n dX2_endSum_23 rfl 0 rfl ?_
  refine z_getJ (q := 10356) ff_2_12 dX2_endSum_24 kt_73 (Nat.le_of_ble_eq_true rfl) fl_X2_154 rfl ?_
  refine z_SE (i_Rules_bounded ) sk_X8_bounded ml_X2_157 ⟨Nat.le_of_ble_eq_true rfl, Nat.le_of_ble_eq_true rfl⟩ ⟨Nat.zero_le _, Nat.zero_le _⟩ rfl rfl (Nat.le_of_ble_eq_true rfl) dX2_endSum_27 ?_
  refine z_putI (q := 10359) ff_2_15 (Or.inl rfl) rfl dX2_endSum_30 kt_73 (Nat.le_of_ble_eq_true rfl) fl_X2_167 rfl ?_
  refine z_mm (fun μ_3 eμ_3 => ?_)
  replace h := h μ_3 eμ_3
  replace hs : StatR μ_3.2.2 := by rw [eμ_3]; exact hs
  refine z_rload_n dX2_endSum_33 rfl 0 rfl ?_
  refine z_iconst dX2_endSum_34 ?_
  refine z_putI (q := 10360) ff_2_16 (Or.inl rfl) rfl dX2_endSum_35 kt_73 (Nat.le_of_ble_eq_true rfl) fl_X2_170 rfl ?_
  refine z_mm (fun μ_4 eμ_4 => ?_)
  replace h := h μ_4 eμ_4
  replace hs : StatR μ_4.2.2 := by rw [eμ_4]; exact hs
  refine z_iconst dX2_endSum_38 ?_
  refine z_istore_n (lv' := [(1, vi 0), (0, vr Γ 73)]) dX2_endSum_39 rfl (Nat.le_of_ble_eq_true rfl) rfl ?_
  obtain ⟨m40, h⟩ := h
  refine z_sub (lv' := [(0, vr Γ 73), (1, vi 0)]) [1, 0] rfl ?_
  refine L_Count_endSum_40 (fun μ_7 hs h => ?_) m40 0 μ_4 hs h
  exact z_vret rfl dX2_endSum_80 rfl rfl rfl ⟨rfl, hs, h⟩
abbrev Y_Count_sumUp : Yt := (4, none, yX2_sumUp.name, { frames := 2, cells := 0, slots := 0, locals := 42 }, 175, 0, 0)
def l_Count_sumUp_6 (a1 : Int) (X_6_72 : Mem → Prop) : Nat → Int → Mem → Prop
  | 0, _, _ => False
  | fu6 + 1, v2, μ_2 => if w v2 < w (rI μ_2 1136 0) then (∀ v3 : Int, v3 = at' μ_2 79 12 v2 → ∀ x55 : Int, x55 = (if w v2 = w a1 then (if w v3 = w 2 then v3 else (1 - v3)) else v3) → f_Count_add (at' μ_2 2 12 v2) x55 (at' μ_2 78 12 v2) μ_2 (fun μ_3 => (l_Count_sumUp_6 a1 X_6_72 fu6) (v2 + 1) μ_3)) else (X_6_72 μ_2)
def f_Count_sumUp (a1 : Int) (μ : Mem) (k : Mem → Prop) : Prop := f_Count_beginSum  μ (fun μ_1 => ∃ m6 : Nat, l_Count_sumUp_6 a1 (fun (μ_4 : Mem) => f_Count_endSum  μ_4 (fun μ_5 => k μ_5)) m6 0 μ_1)
theorem L_Count_sumUp_6 {l : Launch} {Γ : Gam} {g : Nat} {a1 : Int} {X_6_72 : Mem → Prop} {k : Mem → Prop} (hX_6_72 : ∀ (ν : Mem), StatR ν.2.2 → X_6_72 ν → SW l Γ yX2_sumUp.cls cX2_sumUp Y_Count_sumUp (pV k) g 175 0 0 ν 72 [(0, vr Γ 73)] []) (n9 : Nat) : ∀ (v2 : Int) (μ_2 : Mem), StatR μ_2.2.2 → l_Count_sumUp_6 a1 X_6_72 n9 v2 μ_2 → SW l Γ yX2_sumUp.cls cX2_sumUp Y_Count_sumUp (pV k) g 175 0 0 μ_2 6 [(0, vr Γ 73), (1, vi a1), (2, vi v2)] [] := by
  induction n9 with
  | zero =>
    intro v2 μ_2 hs h
    exact h.elim
  | succ n9 hR_6 =>
    intro v2 μ_2 hs h
    rw [l_Count_sumUp_6] at h
    refine z_iload_n dX2_sumUp_6 rfl 2 rfl ?_
    refine z_rload_n dX2_sumUp_7 rfl 0 rfl ?_
    refine z_getR (q := 10344) ff_2_0 dX2_sumUp_8 kt_73 (Nat.le_of_ble_eq_true rfl) fl_X2_42 rfl (hs.1 _ _ sr_10344) ?_
    refine z_getI (q := 1136) ff_7_8 dX2_sumUp_11 kt_1 (Nat.le_of_ble_eq_true rfl) fl_X2_67 rfl ?_
    refine z_icmp_ge (tgt := 72) dX2_sumUp_14 (by decide) h (fun h => ?_) (fun h => ?_)
    · refine z_rload_n dX2_sumUp_17 rfl 0 rfl ?_
      refine z_getR (q := 10350) ff_2_6 dX2_sumUp_18 kt_73 (Nat.le_of_ble_eq_true rfl) fl_X2_27 rfl (hs.1 _ _ sr_10350) ?_
      refine z_iload_n dX2_sumUp_21 rfl 2 rfl ?_
      refine z_NE (i_X11_at kt_79 (Nat.le_of_ble_eq_true rfl)) ok_X11_at nw_X2_59 ⟨Nat.le_of_ble_eq_true rfl, Nat.le_of_ble_eq_true rfl⟩ ⟨Nat.zero_le _, Nat.zero_le _⟩ rfl rfl (Nat.le_of_ble_eq_true rfl) dX2_sumUp_22 ?_
      refine z_nm (fun v3 ev3 => ?_)
      replace h := h v3 ev3
      refine z_istore_n (lv' := [(3, vi v3), (0, vr Γ 73), (1, vi a1), (2, vi v2)]) dX2_sumUp_25 rfl (Nat.le_of_ble_eq_true rfl) rfl ?_
      refine z_rload_n dX2_sumUp_26 rfl 1 rfl ?_
      refine z_rload_n dX2_sumUp_27 rfl 1 rfl ?_
      refine z_getR (q := 10344) ff_2_0 dX2_sumUp_28 kt_73 (Nat.le_of_ble_eq_true rfl) fl_X2_42 rfl (hs.1 _ _ sr_10344) ?_
      refine z_getR (q := 1128) ff_7_0 dX2_sumUp_31 kt_1 (Nat.le_of_ble_eq_true rfl) fl_X2_124 rfl (hs.1 _ _ sr_1128) ?_
      refine z_iload_n dX2_sumUp_34 rfl 3 rfl ?_
      refine z_NE (i_X11_at kt_2 (Nat.le_of_ble_eq_true rfl)) ok_X11_at nw_X2_59 ⟨Nat.le_of_ble_eq_true rfl, Nat.le_of_ble_eq_true rfl⟩ ⟨Nat.zero_le _, Nat.zero_le _⟩ rfl rfl (Nat.le_of_ble_eq_true rfl) dX2_sumUp_35 ?_
      refine z_iload_n dX2_sumUp_38 rfl 3 rfl ?_
      refine z_iload_n dX2_sumUp_39 rfl 2 rfl ?_
      refine z_phi 55 [vi (at' μ_2 2 12 v2), vr Γ 73] (fun V9 hv J9 => ?_) h (fun x55 h => ?_)
      · refine z_icmp_ne (tgt := 54) dX2_sumUp_40 (by decide) (eq_ite hv) (fun hv => ?_) (fun hv => ?_)
        · refine z_iload_n dX2_sumUp_43 rfl 0 rfl ?_
          refine z_iconst dX2_sumUp_44 ?_
          refine z_icmp_eq (tgt := 54) dX2_sumUp_45 (by decide) (eq_ite hv) (fun hv => ?_) (fun hv => ?_)
          · refine z_iload_n dX2_sumUp_54 rfl 0 rfl ?_
            exact J9 _ hv.symm
          · refine z_iconst dX2_sumUp_48 ?_
            refine z_iload_n dX2_sumUp_49 rfl 0 rfl ?_
            refine z_isub dX2_sumUp_50 ?_
            refine z_goto (tgt := 55) dX2_sumUp_51 (by decide) ?_
            exact J9 _ hv.symm
        · refine z_iload_n dX2_sumUp_54 rfl 0 rfl ?_
          exact J9 _ hv.symm
      · refine z_rload_n dX2_sumUp_55 rfl 1 rfl ?_
        refine z_getR (q := 10349) ff_2_5 dX2_sumUp_56 kt_73 (Nat.le_of_ble_eq_true rfl) fl_X2_24 rfl (hs.1 _ _ sr_10349) ?_
        refine z_iload_n dX2_sumUp_59 rfl 3 rfl ?_
        refine z_NE (i_X11_at kt_78 (Nat.le_of_ble_eq_true rfl)) ok_X11_at nw_X2_59 ⟨Nat.le_of_ble_eq_true rfl, Nat.le_of_ble_eq_true rfl⟩ ⟨Nat.zero_le _, Nat.zero_le _⟩ rfl rfl (Nat.le_of_ble_eq_true rfl) dX2_sumUp_60 ?_
        refine z_VU (i_Count_add  hs h) vk_X2_add kt_73 (Nat.le_of_ble_eq_true rfl) rfl ml_X2_140 ⟨Nat.le_of_ble_eq_true rfl, Nat.le_of_ble_eq_true rfl⟩ ⟨Nat.zero_le _, Nat.zero_le _⟩ rfl rfl (Nat.le_of_ble_eq_true rfl) dX2_sumUp_63 (fun μ_3 hs h => ?_)
        refine z_iinc (j := 3) (lv' := [(2, vi (v2 + 1)), (3, vi v3), (0, vr Γ 73), (1, vi a1)]) dX2_sumUp_66 rfl (Nat.le_of_ble_eq_true rfl) rfl ?_
        refine z_goto (tgt := 6) dX2_sumUp_69 (by decide) ?_
        refine z_sub (lv' := [(0, vr Γ 73), (1, vi a1), (2, vi (v2 + 1))]) [2, 3, 0] rfl ?_
        exact hR_6 (v2 + 1) μ_3 hs h
    · refine z_sub (lv' := [(0, vr Γ 73)]) [0] rfl ?_
      exact hX_6_72 μ_2 hs h
theorem i_Count_sumUp {l : Launch} {Γ : Gam} {g : Nat} {a1 : Int} {μ : Mem} {k : Mem → Prop} (hs : StatR μ.2.2) (h : f_Count_sumUp a1 μ k) : CT l Γ yX2_sumUp cX2_sumUp 4 none 2 42 0 0 [vr Γ 73, vi a1] g 175 μ (pV k) := by
  refine SW.ct (by decide) (Nat.le_of_ble_eq_true rfl) ?_
  refine z_sub (lv' := [(0, vr Γ 73), (1, vi a1)]) [0, 1] rfl ?_
  show SW l Γ yX2_sumUp.cls cX2_sumUp Y_Count_sumUp (pV k) g 175 0 0 μ 0 [(0, vr Γ 73), (1, vi a1)] []
  unfold f_Count_sumUp at h
  refine z_rload_n dX2_sumUp_0 rfl 0 rfl ?_
  refine z_VU (i_Count_beginSum  hs h) vk_X2_beginSum kt_73 (Nat.le_of_ble_eq_true rfl) rfl ml_X2_137 ⟨Nat.le_of_ble_eq_true rfl, Nat.le_of_ble_eq_true rfl⟩ ⟨Nat.zero_le _, Nat.zero_le _⟩ rfl rfl (Nat.le_of_ble_eq_true rfl) dX2_sumUp_1 (fun μ_1 hs h => ?_)
  refine z_iconst dX2_sumUp_4 ?_
  refine z_istore_n (lv' := [(2, vi 0), (0, vr Γ 73), (1, vi a1)]) dX2_sumUp_5 rfl (Nat.le_of_ble_eq_true rfl) rfl ?_
  obtain ⟨m6, h⟩ := h
  refine z_sub (lv' := [(0, vr Γ 73), (1, vi a1), (2, vi 0)]) [1, 2, 0] rfl ?_
  refine L_Count_sumUp_6 (fun μ_4 hs h => ?_) m6 0 μ_1 hs h
  refine z_rload_n dX2_sumUp_72 rfl 0 rfl ?_
  refine z_VU (i_Count_endSum  hs h) vk_X2_endSum kt_73 (Nat.le_of_ble_eq_true rfl) rfl ml_X2_144 ⟨Nat.le_of_ble_eq_true rfl, Nat.le_of_ble_eq_true rfl⟩ ⟨Nat.zero_le _, Nat.zero_le _⟩ rfl rfl (Nat.le_of_ble_eq_true rfl) dX2_sumUp_73 (fun μ_5 hs h => ?_)
  exact z_vret rfl dX2_sumUp_76 rfl rfl rfl ⟨rfl, hs, h⟩
abbrev Y_Count_weigh : Yt := (4, none, yX2_weigh.name, { frames := 3, cells := 0, slots := 0, locals := 75 }, 175, 0, 0)
def l_Count_weigh_2 (a1 : Nat) (a2 : Int) (X_2_59 : Mem → Prop) : Nat → Int → Mem → Prop
  | 0, _, _ => False
  | fu2 + 1, v3, μ_1 => if w v3 < w (rI μ_1 1136 0) then (if w a2 = w 2 then (∀ μ_2 : Mem, μ_2 = set' μ_1 78 12 v3 1 → (l_Count_weigh_2 a1 a2 X_2_59 fu2) (v3 + 1) μ_2) else (if w a2 = w 1 then (f_Count_paidHeadsOf v3 (rI μ_1 (gid a1 4) 0) μ_1 (fun r38 μ_3 => ∀ μ_4 : Mem, μ_4 = set' μ_3 78 12 v3 r38 → (l_Count_weigh_2 a1 a2 X_2_59 fu2) (v3 + 1) μ_4)) else (f_Count_cardsOf v3 a1 μ_1 (fun r47 μ_5 => ∀ μ_6 : Mem, μ_6 = set' μ_5 78 12 v3 r47 → (l_Count_weigh_2 a1 a2 X_2_59 fu2) (v3 + 1) μ_6)))) else (X_2_59 μ_1)
def f_Count_weigh (a1 : Nat) (a2 : Int) (μ : Mem) (k : Mem → Prop) : Prop := ∃ m2 : Nat, l_Count_weigh_2 a1 a2 (fun (μ_7 : Mem) => k μ_7) m2 0 μ
theorem L_Count_weigh_2 {l : Launch} {Γ : Gam} {g : Nat} {a1 : Nat} {a2 : Int} {X_2_59 : Mem → Prop} {k : Mem → Prop} (hr_a1 : isRu a1 = true) (hX_2_59 : ∀ (ν : Mem), StatR ν.2.2 → X_2_59 ν → SW l Γ yX2_weigh.cls cX2_weigh Y_Count_weigh (pV k) g 175 0 0 ν 59 [] []) (n9 : Nat) : ∀ (v3 : Int) (μ_1 : Mem), StatR μ_1.2.2 → l_Count_weigh_2 a1 a2 X_2_59 n9 v3 μ_1 → SW l Γ yX2_weigh.cls cX2_weigh Y_Count_weigh (pV k) g 175 0 0 μ_1 2 [(0, vr Γ 73), (1, vr Γ a1), (2, vi a2), (3, vi v3)] [] := by
  induction n9 with
  | zero =>
    intro v3 μ_1 hs h
    exact h.elim
  | succ n9 hR_2 =>
    intro v3 μ_1 hs h
    rw [l_Count_weigh_2] at h
    refine z_iload_n dX2_weigh_2 rfl 3 rfl ?_
    refine z_rload_n dX2_weigh_3 rfl 0 rfl ?_
    refine z_getR (q := 10344) ff_2_0 dX2_weigh_4 kt_73 (Nat.le_of_ble_eq_true rfl) fl_X2_42 rfl (hs.1 _ _ sr_10344) ?_
    refine z_getI (q := 1136) ff_7_8 dX2_weigh_7 kt_1 (Nat.le_of_ble_eq_true rfl) fl_X2_67 rfl ?_
    refine z_icmp_ge (tgt := 59) dX2_weigh_10 (by decide) h (fun h => ?_) (fun h => ?_)
    · refine z_rload_n dX2_weigh_13 rfl 0 rfl ?_
      refine z_getR (q := 10349) ff_2_5 dX2_weigh_14 kt_73 (Nat.le_of_ble_eq_true rfl) fl_X2_24 rfl (hs.1 _ _ sr_10349) ?_
      refine z_iload_n dX2_weigh_17 rfl 3 rfl ?_
      refine z_iload_n dX2_weigh_18 rfl 2 rfl ?_
      refine z_iconst dX2_weigh_19 ?_
      refine z_icmp_ne (tgt := 27) dX2_weigh_20 (by decide) h (fun h => ?_) (fun h => ?_)
      · refine z_iconst dX2_weigh_23 ?_
        refine z_goto (tgt := 50) dX2_weigh_24 (by decide) ?_
        refine z_NM (i_X11_set kt_78 (Nat.le_of_ble_eq_true rfl)) ok_X11_set nw_X2_74 ⟨Nat.le_of_ble_eq_true rfl, Nat.le_of_ble_eq_true rfl⟩ ⟨Nat.zero_le _, Nat.zero_le _⟩ rfl rfl (Nat.le_of_ble_eq_true rfl) dX2_weigh_50 ?_
        refine z_mm (fun μ_2 eμ_2 => ?_)
        replace h := h μ_2 eμ_2
        replace hs : StatR μ_2.2.2 := by rw [eμ_2]; exact (StatR.set hs)
        refine z_iinc (j := 3) (lv' := [(3, vi (v3 + 1)), (0, vr Γ 73), (1, vr Γ a1), (2, vi a2)]) dX2_weigh_53 rfl (Nat.le_of_ble_eq_true rfl) rfl ?_
        refine z_goto (tgt := 2) dX2_weigh_56 (by decide) ?_
        refine z_sub (lv' := [(0, vr Γ 73), (1, vr Γ a1), (2, vi a2), (3, vi (v3 + 1))]) [1, 2, 3, 0] rfl ?_
        exact hR_2 (v3 + 1) μ_2 hs h
      · refine z_iload_n dX2_weigh_27 rfl 2 rfl ?_
        refine z_iconst dX2_weigh_28 ?_
        refine z_icmp_ne (tgt := 44) dX2_weigh_29 (by decide) h (fun h => ?_) (fun h => ?_)
        · refine z_rload_n dX2_weigh_32 rfl 0 rfl ?_
          refine z_iload_n dX2_weigh_33 rfl 3 rfl ?_
          refine z_rload_n dX2_weigh_34 rfl 1 rfl ?_
          refine z_getI (q := (gid a1 4)) ff_8_4 dX2_weigh_35 (ru_k hr_a1) (ru_l hr_a1) fl_X2_108 rfl ?_
          refine z_VI (i_Count_paidHeadsOf  hs h) vk_X2_paidHeadsOf kt_73 (Nat.le_of_ble_eq_true rfl) rfl ml_X2_111 ⟨Nat.le_of_ble_eq_true rfl, Nat.le_of_ble_eq_true rfl⟩ ⟨Nat.zero_le _, Nat.zero_le _⟩ rfl rfl (Nat.le_of_ble_eq_true rfl) dX2_weigh_38 (fun r38 μ_3 hs h => ?_)
          refine z_goto (tgt := 50) dX2_weigh_41 (by decide) ?_
          refine z_NM (i_X11_set kt_78 (Nat.le_of_ble_eq_true rfl)) ok_X11_set nw_X2_74 ⟨Nat.le_of_ble_eq_true rfl, Nat.le_of_ble_eq_true rfl⟩ ⟨Nat.zero_le _, Nat.zero_le _⟩ rfl rfl (Nat.le_of_ble_eq_true rfl) dX2_weigh_50 ?_
          refine z_mm (fun μ_4 eμ_4 => ?_)
          replace h := h μ_4 eμ_4
          replace hs : StatR μ_4.2.2 := by rw [eμ_4]; exact (StatR.set hs)
          refine z_iinc (j := 3) (lv' := [(3, vi (v3 + 1)), (0, vr Γ 73), (1, vr Γ a1), (2, vi a2)]) dX2_weigh_53 rfl (Nat.le_of_ble_eq_true rfl) rfl ?_
          refine z_goto (tgt := 2) dX2_weigh_56 (by decide) ?_
          refine z_sub (lv' := [(0, vr Γ 73), (1, vr Γ a1), (2, vi a2), (3, vi (v3 + 1))]) [1, 2, 3, 0] rfl ?_
          exact hR_2 (v3 + 1) μ_4 hs h
        · refine z_rload_n dX2_weigh_44 rfl 0 rfl ?_
          refine z_iload_n dX2_weigh_45 rfl 3 rfl ?_
          refine z_rload_n dX2_weigh_46 rfl 1 rfl ?_
          refine z_VI (i_Count_cardsOf hr_a1 hs h) vk_X2_cardsOf kt_73 (Nat.le_of_ble_eq_true rfl) rfl ml_X2_133 ⟨Nat.le_of_ble_eq_true rfl, Nat.le_of_ble_eq_true rfl⟩ ⟨Nat.zero_le _, Nat.zero_le _⟩ rfl rfl (Nat.le_of_ble_eq_true rfl) dX2_weigh_47 (fun r47 μ_5 hs h => ?_)
          refine z_NM (i_X11_set kt_78 (Nat.le_of_ble_eq_true rfl)) ok_X11_set nw_X2_74 ⟨Nat.le_of_ble_eq_true rfl, Nat.le_of_ble_eq_true rfl⟩ ⟨Nat.zero_le _, Nat.zero_le _⟩ rfl rfl (Nat.le_of_ble_eq_true rfl) dX2_weigh_50 ?_
          refine z_mm (fun μ_6 eμ_6 => ?_)
          replace h := h μ_6 eμ_6
          replace hs : StatR μ_6.2.2 := by rw [eμ_6]; exact (StatR.set hs)
          refine z_iinc (j := 3) (lv' := [(3, vi (v3 + 1)), (0, vr Γ 73), (1, vr Γ a1), (2, vi a2)]) dX2_weigh_53 rfl (Nat.le_of_ble_eq_true rfl) rfl ?_
          refine z_goto (tgt := 2) dX2_weigh_56 (by decide) ?_
          refine z_sub (lv' := [(0, vr Γ 73), (1, vr Γ a1), (2, vi a2), (3, vi (v3 + 1))]) [1, 2, 3, 0] rfl ?_
          exact hR_2 (v3 + 1) μ_6 hs h
    · refine z_sub (lv' := []) [] rfl ?_
      exact hX_2_59 μ_1 hs h
theorem i_Count_weigh {l : Launch} {Γ : Gam} {g : Nat} {a1 : Nat} {a2 : Int} {μ : Mem} {k : Mem → Prop} (hr_a1 : isRu a1 = true) (hs : StatR μ.2.2) (h : f_Count_weigh a1 a2 μ k) : CT l Γ yX2_weigh cX2_weigh 4 none 3 75 0 0 [vr Γ 73, vr Γ a1, vi a2] g 175 μ (pV k) := by
  refine SW.ct (by decide) (Nat.le_of_ble_eq_true rfl) ?_
  refine z_sub (lv' := [(0, vr Γ 73), (1, vr Γ a1), (2, vi a2)]) [0, 1, 2] rfl ?_
  show SW l Γ yX2_weigh.cls cX2_weigh Y_Count_weigh (pV k) g 175 0 0 μ 0 [(0, vr Γ 73), (1, vr Γ a1), (2, vi a2)] []
  unfold f_Count_weigh at h
  refine z_iconst dX2_weigh_0 ?_
  refine z_istore_n (lv' := [(3, vi 0), (0, vr Γ 73), (1, vr Γ a1), (2, vi a2)]) dX2_weigh_1 rfl (Nat.le_of_ble_eq_true rfl) rfl ?_
  obtain ⟨m2, h⟩ := h
  refine z_sub (lv' := [(0, vr Γ 73), (1, vr Γ a1), (2, vi a2), (3, vi 0)]) [1, 2, 3, 0] rfl ?_
  refine L_Count_weigh_2 hr_a1 (fun μ_7 hs h => ?_) m2 0 μ hs h
  exact z_vret rfl dX2_weigh_59 rfl rfl rfl ⟨rfl, hs, h⟩
abbrev Y_H_counted : Yt := (4, (some .int), yX11_counted.name, { frames := 4, cells := 0, slots := 0, locals := 98 }, 175, 0, 0)
def f_H_counted (a1 : Int) (a2 : Int) (a3 : Int) (μ : Mem) (k : Int → Mem → Prop) : Prop := if (v_Floor_has a1 μ) = true then (if (v_Reg_isKnownDay a2 μ) = true then (if w a3 < 0 then (k (-1) μ) else (if w 3 < w a3 then (k (-1) μ) else (f_Count_take a1 a2 μ (fun μ_1 => f_Papers_inForce (rI μ_1 9584 0) μ_1 (fun r57 μ_2 => isRu r57 = true ∧ f_Count_weigh r57 0 μ_2 (fun μ_3 => f_Count_sumUp (-1) μ_3 (fun μ_4 => if w a3 = 0 then (k (rI μ_4 10357 0) μ_4) else (if w a3 = 1 then (k (rI μ_4 10358 0) μ_4) else (if w a3 = 2 then (k (rI μ_4 10359 0) μ_4) else (k (rI μ_4 10360 0) μ_4)))))))))) else (k (-1) μ)) else (k (-1) μ)
theorem i_H_counted {l : Launch} {Γ : Gam} {g : Nat} {a1 : Int} {a2 : Int} {a3 : Int} {μ : Mem} {k : Int → Mem → Prop} (hs : StatR μ.2.2) (h : f_H_counted a1 a2 a3 μ k) : CT l Γ yX11_counted cX11_counted 4 (some .int) 4 98 0 0 [vr Γ 0, vi a1, vi a2, vi a3] g 175 μ (pI k) := by
  refine SW.ct (by decide) (Nat.le_of_ble_eq_true rfl) ?_
  refine z_sub (lv' := [(0, vr Γ 0), (1, vi a1), (2, vi a2), (3, vi a3)]) [0, 1, 2, 3] rfl ?_
  show SW l Γ yX11_counted.cls cX11_counted Y_H_counted (pI k) g 175 0 0 μ 0 [(0, vr Γ 0), (1, vi a1), (2, vi a2), (3, vi a3)] []
  unfold f_H_counted at h
  refine z_rload_n dX11_counted_0 rfl 0 rfl ?_
  refine z_getR (q := 1005) ff_11_5 dX11_counted_1 kt_0 (Nat.le_of_ble_eq_true rfl) fl_X11_57 rfl (hs.1 _ _ sr_1005) ?_
  refine z_iload_n dX11_counted_4 rfl 1 rfl ?_
  refine z_VE (i_Floor_has hs) vk_X3_has kt_67 (Nat.le_of_ble_eq_true rfl) rfl ml_X11_115 ⟨Nat.le_of_ble_eq_true rfl, Nat.le_of_ble_eq_true rfl⟩ ⟨Nat.zero_le _, Nat.zero_le _⟩ rfl rfl (Nat.le_of_ble_eq_true rfl) dX11_counted_5 ?_
  refine z_ifeq_b (tgt := 31) dX11_counted_8 (by decide) h (fun h => ?_) (fun h => ?_)
  · refine z_rload_n dX11_counted_11 rfl 0 rfl ?_
    refine z_getR (q := 1000) ff_11_0 dX11_counted_12 kt_0 (Nat.le_of_ble_eq_true rfl) fl_X11_12 rfl (hs.1 _ _ sr_1000) ?_
    refine z_iload_n dX11_counted_15 rfl 2 rfl ?_
    refine z_VE (i_Reg_isKnownDay ) vk_X7_isKnownDay kt_1 (Nat.le_of_ble_eq_true rfl) rfl ml_X11_238 ⟨Nat.le_of_ble_eq_true rfl, Nat.le_of_ble_eq_true rfl⟩ ⟨Nat.zero_le _, Nat.zero_le _⟩ rfl rfl (Nat.le_of_ble_eq_true rfl) dX11_counted_16 ?_
    refine z_ifeq_b (tgt := 31) dX11_counted_19 (by decide) h (fun h => ?_) (fun h => ?_)
    · refine z_iload_n dX11_counted_22 rfl 3 rfl ?_
      refine z_if_lt (tgt := 31) dX11_counted_23 (by decide) h (fun h => ?_) (fun h => ?_)
      · refine z_iconst dX11_counted_31 ?_
        exact z_iret rfl dX11_counted_32 rfl rfl rfl ⟨_, rfl, hs, h⟩
      · refine z_iload_n dX11_counted_26 rfl 3 rfl ?_
        refine z_iconst dX11_counted_27 ?_
        refine z_icmp_le (tgt := 33) dX11_counted_28 (by decide) h (fun h => ?_) (fun h => ?_)
        · refine z_iconst dX11_counted_31 ?_
          exact z_iret rfl dX11_counted_32 rfl rfl rfl ⟨_, rfl, hs, h⟩
        · refine z_rload_n dX11_counted_33 rfl 0 rfl ?_
          refine z_getR (q := 1006) ff_11_6 dX11_counted_34 kt_0 (Nat.le_of_ble_eq_true rfl) fl_X11_66 rfl (hs.1 _ _ sr_1006) ?_
          refine z_iload_n dX11_counted_37 rfl 1 rfl ?_
          refine z_iload_n dX11_counted_38 rfl 2 rfl ?_
          refine z_VU (i_Count_take  hs h) vk_X2_take kt_73 (Nat.le_of_ble_eq_true rfl) rfl ml_X11_142 ⟨Nat.le_of_ble_eq_true rfl, Nat.le_of_ble_eq_true rfl⟩ ⟨Nat.zero_le _, Nat.zero_le _⟩ rfl rfl (Nat.le_of_ble_eq_true rfl) dX11_counted_39 (fun μ_1 hs h => ?_)
          refine z_rload_n dX11_counted_42 rfl 0 rfl ?_
          refine z_getR (q := 1006) ff_11_6 dX11_counted_43 kt_0 (Nat.le_of_ble_eq_true rfl) fl_X11_66 rfl (hs.1 _ _ sr_1006) ?_
          refine z_rload_n dX11_counted_46 rfl 0 rfl ?_
          refine z_getR (q := 1004) ff_11_4 dX11_counted_47 kt_0 (Nat.le_of_ble_eq_true rfl) fl_X11_26 rfl (hs.1 _ _ sr_1004) ?_
          refine z_rload_n dX11_counted_50 rfl 0 rfl ?_
          refine z_getR (q := 1005) ff_11_5 dX11_counted_51 kt_0 (Nat.le_of_ble_eq_true rfl) fl_X11_57 rfl (hs.1 _ _ sr_1005) ?_
          refine z_getI (q := 9584) ff_3_8 dX11_counted_54 kt_67 (Nat.le_of_ble_eq_true rfl) fl_X11_125 rfl ?_
          refine z_VA (i_Papers_inForce  hs h) vk_X6_inForce kt_12 (Nat.le_of_ble_eq_true rfl) rfl ml_X11_129 ⟨Nat.le_of_ble_eq_true rfl, Nat.le_of_ble_eq_true rfl⟩ ⟨Nat.zero_le _, Nat.zero_le _⟩ rfl rfl (Nat.le_of_ble_eq_true rfl) dX11_counted_57 (fun r57 μ_2 hs h => ?_)
          obtain ⟨hr_r57, h⟩ := h
          refine z_iconst dX11_counted_60 ?_
          refine z_VU (i_Count_weigh hr_r57 hs h) vk_X2_weigh kt_73 (Nat.le_of_ble_eq_true rfl) rfl ml_X11_254 ⟨Nat.le_of_ble_eq_true rfl, Nat.le_of_ble_eq_true rfl⟩ ⟨Nat.zero_le _, Nat.zero_le _⟩ rfl rfl (Nat.le_of_ble_eq_true rfl) dX11_counted_61 (fun μ_3 hs h => ?_)
          refine z_rload_n dX11_counted_64 rfl 0 rfl ?_
          refine z_getR (q := 1006) ff_11_6 dX11_counted_65 kt_0 (Nat.le_of_ble_eq_true rfl) fl_X11_66 rfl (hs.1 _ _ sr_1006) ?_
          refine z_iconst dX11_counted_68 ?_
          refine z_VU (i_Count_sumUp  hs h) vk_X2_sumUp kt_73 (Nat.le_of_ble_eq_true rfl) rfl ml_X11_258 ⟨Nat.le_of_ble_eq_true rfl, Nat.le_of_ble_eq_true rfl⟩ ⟨Nat.zero_le _, Nat.zero_le _⟩ rfl rfl (Nat.le_of_ble_eq_true rfl) dX11_counted_69 (fun μ_4 hs h => ?_)
          refine z_iload_n dX11_counted_72 rfl 3 rfl ?_
          by_cases hc0 : w a3 = 0
          · rw [if_pos hc0] at h
            refine z_tcase (tgt := 100) 0 hc0 dX11_counted_73 (by decide) (by decide) rfl (by decide) ?_
            refine z_rload_n dX11_counted_100 rfl 0 rfl ?_
            refine z_getR (q := 1006) ff_11_6 dX11_counted_101 kt_0 (Nat.le_of_ble_eq_true rfl) fl_X11_66 rfl (hs.1 _ _ sr_1006) ?_
            refine z_getI (q := 10357) ff_2_13 dX11_counted_104 kt_73 (Nat.le_of_ble_eq_true rfl) fl_X11_261 rfl ?_
            exact z_iret rfl dX11_counted_107 rfl rfl rfl ⟨_, rfl, hs, h⟩
          · rw [if_neg hc0] at h
            by_cases hc1 : w a3 = 1
            · rw [if_pos hc1] at h
              refine z_tcase (tgt := 108) 1 hc1 dX11_counted_73 (by decide) (by decide) rfl (by decide) ?_
              refine z_rload_n dX11_counted_108 rfl 0 rfl ?_
              refine z_getR (q := 1006) ff_11_6 dX11_counted_109 kt_0 (Nat.le_of_ble_eq_true rfl) fl_X11_66 rfl (hs.1 _ _ sr_1006) ?_
              refine z_getI (q := 10358) ff_2_14 dX11_counted_112 kt_73 (Nat.le_of_ble_eq_true rfl) fl_X11_264 rfl ?_
              exact z_iret rfl dX11_counted_115 rfl rfl rfl ⟨_, rfl, hs, h⟩
            · rw [if_neg hc1] at h
              by_cases hc2 : w a3 = 2
              · rw [if_pos hc2] at h
                refine z_tcase (tgt := 116) 2 hc2 dX11_counted_73 (by decide) (by decide) rfl (by decide) ?_
                refine z_rload_n dX11_counted_116 rfl 0 rfl ?_
                refine z_getR (q := 1006) ff_11_6 dX11_counted_117 kt_0 (Nat.le_of_ble_eq_true rfl) fl_X11_66 rfl (hs.1 _ _ sr_1006) ?_
                refine z_getI (q := 10359) ff_2_15 dX11_counted_120 kt_73 (Nat.le_of_ble_eq_true rfl) fl_X11_267 rfl ?_
                exact z_iret rfl dX11_counted_123 rfl rfl rfl ⟨_, rfl, hs, h⟩
              · rw [if_neg hc2] at h
                refine z_tdef (tgt := 124) (by omega) dX11_counted_73 (by decide) ?_
                refine z_rload_n dX11_counted_124 rfl 0 rfl ?_
                refine z_getR (q := 1006) ff_11_6 dX11_counted_125 kt_0 (Nat.le_of_ble_eq_true rfl) fl_X11_66 rfl (hs.1 _ _ sr_1006) ?_
                refine z_getI (q := 10360) ff_2_16 dX11_counted_128 kt_73 (Nat.le_of_ble_eq_true rfl) fl_X11_270 rfl ?_
                exact z_iret rfl dX11_counted_131 rfl rfl rfl ⟨_, rfl, hs, h⟩
    · refine z_iconst dX11_counted_31 ?_
      exact z_iret rfl dX11_counted_32 rfl rfl rfl ⟨_, rfl, hs, h⟩
  · refine z_iconst dX11_counted_31 ?_
    exact z_iret rfl dX11_counted_32 rfl rfl rfl ⟨_, rfl, hs, h⟩
abbrev Y_Count_brokenMandates : Yt := (5, (some .int), yX2_brokenMandates.name, { frames := 2, cells := 0, slots := 0, locals := 44 }, 175, 0, 0)
def l_Count_brokenMandates_4 (X_4_62 : Int → Mem → Prop) : Nat → Int → Int → Mem → Prop
  | 0, _, _, _ => False
  | fu4 + 1, v1, v2, μ_1 => if w v2 < w (rI μ_1 1136 0) then (f_Count_mandateOf v2 μ_1 (fun r17 μ_2 => ∀ v4 : Int, v4 = at' μ_2 76 12 v2 → ∀ x54 : Int, x54 = (if w r17 = w 2 then 0 else (if w v4 = w 3 then 0 else (if w v4 = w r17 then 0 else 1))) → ∀ v1_1 : Int, v1_1 = v1 + x54 → (l_Count_brokenMandates_4 X_4_62 fu4) v1_1 (v2 + 1) μ_2)) else (X_4_62 v1 μ_1)
def f_Count_brokenMandates  (μ : Mem) (k : Int → Mem → Prop) : Prop := ∃ m4 : Nat, l_Count_brokenMandates_4 (fun (v1_2 : Int) (μ_3 : Mem) => k v1_2 μ_3) m4 0 0 μ
theorem L_Count_brokenMandates_4 {l : Launch} {Γ : Gam} {g : Nat} {X_4_62 : Int → Mem → Prop} {k : Int → Mem → Prop} (hX_4_62 : ∀ (u1 : Int) (ν : Mem), StatR ν.2.2 → X_4_62 u1 ν → SW l Γ yX2_brokenMandates.cls cX2_brokenMandates Y_Count_brokenMandates (pI k) g 175 0 0 ν 62 [(1, vi u1)] []) (n9 : Nat) : ∀ (v1 : Int) (v2 : Int) (μ_1 : Mem), StatR μ_1.2.2 → l_Count_brokenMandates_4 X_4_62 n9 v1 v2 μ_1 → SW l Γ yX2_brokenMandates.cls cX2_brokenMandates Y_Count_brokenMandates (pI k) g 175 0 0 μ_1 4 [(0, vr Γ 73), (1, vi v1), (2, vi v2)] [] := by
  induction n9 with
  | zero =>
    intro v1 v2 μ_1 hs h
    exact h.elim
  | succ n9 hR_4 =>
    intro v1 v2 μ_1 hs h
    rw [l_Count_brokenMandates_4] at h
    refine z_iload_n dX2_brokenMandates_4 rfl 2 rfl ?_
    refine z_rload_n dX2_brokenMandates_5 rfl 0 rfl ?_
    refine z_getR (q := 10344) ff_2_0 dX2_brokenMandates_6 kt_73 (Nat.le_of_ble_eq_true rfl) fl_X2_42 rfl (hs.1 _ _ sr_10344) ?_
    refine z_getI (q := 1136) ff_7_8 dX2_brokenMandates_9 kt_1 (Nat.le_of_ble_eq_true rfl) fl_X2_67 rfl ?_
    refine z_icmp_ge (tgt := 62) dX2_brokenMandates_12 (by decide) h (fun h => ?_) (fun h => ?_)
    · refine z_rload_n dX2_brokenMandates_15 rfl 0 rfl ?_
      refine z_iload_n dX2_brokenMandates_16 rfl 2 rfl ?_
      refine z_VI (i_Count_mandateOf  hs h) vk_X2_mandateOf kt_73 (Nat.le_of_ble_eq_true rfl) rfl ml_X2_99 ⟨Nat.le_of_ble_eq_true rfl, Nat.le_of_ble_eq_true rfl⟩ ⟨Nat.zero_le _, Nat.zero_le _⟩ rfl rfl (Nat.le_of_ble_eq_true rfl) dX2_brokenMandates_17 (fun r17 μ_2 hs h => ?_)
      refine z_istore_n (lv' := [(3, vi r17), (0, vr Γ 73), (1, vi v1), (2, vi v2)]) dX2_brokenMandates_20 rfl (Nat.le_of_ble_eq_true rfl) rfl ?_
      refine z_rload_n dX2_brokenMandates_21 rfl 1 rfl ?_
      refine z_getR (q := 10347) ff_2_3 dX2_brokenMandates_22 kt_73 (Nat.le_of_ble_eq_true rfl) fl_X2_18 rfl (hs.1 _ _ sr_10347) ?_
      refine z_iload_n dX2_brokenMandates_25 rfl 3 rfl ?_
      refine z_NE (i_X11_at kt_76 (Nat.le_of_ble_eq_true rfl)) ok_X11_at nw_X2_59 ⟨Nat.le_of_ble_eq_true rfl, Nat.le_of_ble_eq_true rfl⟩ ⟨Nat.zero_le _, Nat.zero_le _⟩ rfl rfl (Nat.le_of_ble_eq_true rfl) dX2_brokenMandates_26 ?_
      refine z_nm (fun v4 ev4 => ?_)
      replace h := h v4 ev4
      refine z_istore (lv' := [(4, vi v4), (3, vi r17), (0, vr Γ 73), (1, vi v1), (2, vi v2)]) dX2_brokenMandates_29 (Nat.le_of_ble_eq_true rfl) rfl ?_
      refine z_iload_n dX2_brokenMandates_31 rfl 3 rfl ?_
      refine z_iload_n dX2_brokenMandates_32 rfl 1 rfl ?_
      refine z_iconst dX2_brokenMandates_33 ?_
      refine z_phi 54 [vi v1] (fun V9 hv J9 => ?_) h (fun x54 h => ?_)
      · refine z_icmp_eq (tgt := 53) dX2_brokenMandates_34 (by decide) (eq_ite hv) (fun hv => ?_) (fun hv => ?_)
        · refine z_iconst dX2_brokenMandates_53 ?_
          exact J9 _ hv.symm
        · refine z_iload dX2_brokenMandates_37 0 rfl ?_
          refine z_iconst dX2_brokenMandates_39 ?_
          refine z_icmp_eq (tgt := 53) dX2_brokenMandates_40 (by decide) (eq_ite hv) (fun hv => ?_) (fun hv => ?_)
          · refine z_iconst dX2_brokenMandates_53 ?_
            exact J9 _ hv.symm
          · refine z_iload dX2_brokenMandates_43 0 rfl ?_
            refine z_iload_n dX2_brokenMandates_45 rfl 1 rfl ?_
            refine z_icmp_eq (tgt := 53) dX2_brokenMandates_46 (by decide) (eq_ite hv) (fun hv => ?_) (fun hv => ?_)
            · refine z_iconst dX2_brokenMandates_53 ?_
              exact J9 _ hv.symm
            · refine z_iconst dX2_brokenMandates_49 ?_
              refine z_goto (tgt := 54) dX2_brokenMandates_50 (by decide) ?_
              exact J9 _ hv.symm
      · refine z_iadd dX2_brokenMandates_54 ?_
        refine z_nm (fun v1_1 ev1_1 => ?_)
        replace h := h v1_1 ev1_1
        refine z_istore_n (lv' := [(1, vi v1_1), (4, vi v4), (3, vi r17), (0, vr Γ 73), (2, vi v2)]) dX2_brokenMandates_55 rfl (Nat.le_of_ble_eq_true rfl) rfl ?_
        refine z_iinc (j := 4) (lv' := [(2, vi (v2 + 1)), (1, vi v1_1), (4, vi v4), (3, vi r17), (0, vr Γ 73)]) dX2_brokenMandates_56 rfl (Nat.le_of_ble_eq_true rfl) rfl ?_
        refine z_goto (tgt := 4) dX2_brokenMandates_59 (by decide) ?_
        refine z_sub (lv' := [(0, vr Γ 73), (1, vi v1_1), (2, vi (v2 + 1))]) [4, 1, 0] rfl ?_
        exact hR_4 v1_1 (v2 + 1) μ_2 hs h
    · refine z_sub (lv' := [(1, vi v1)]) [1] rfl ?_
      exact hX_4_62 v1 μ_1 hs h
theorem i_Count_brokenMandates {l : Launch} {Γ : Gam} {g : Nat} {μ : Mem} {k : Int → Mem → Prop} (hs : StatR μ.2.2) (h : f_Count_brokenMandates  μ k) : CT l Γ yX2_brokenMandates cX2_brokenMandates 5 (some .int) 2 44 0 0 [vr Γ 73] g 175 μ (pI k) := by
  refine SW.ct (by decide) (Nat.le_of_ble_eq_true rfl) ?_
  refine z_sub (lv' := [(0, vr Γ 73)]) [0] rfl ?_
  show SW l Γ yX2_brokenMandates.cls cX2_brokenMandates Y_Count_brokenMandates (pI k) g 175 0 0 μ 0 [(0, vr Γ 73)] []
  unfold f_Count_brokenMandates at h
  refine z_iconst dX2_brokenMandates_0 ?_
  refine z_istore_n (lv' := [(1, vi 0), (0, vr Γ 73)]) dX2_brokenMandates_1 rfl (Nat.le_of_ble_eq_true rfl) rfl ?_
  refine z_iconst dX2_brokenMandates_2 ?_
  refine z_istore_n (lv' := [(2, vi 0), (1, vi 0), (0, vr Γ 73)]) dX2_brokenMandates_3 rfl (Nat.le_of_ble_eq_true rfl) rfl ?_
  obtain ⟨m4, h⟩ := h
  refine z_sub (lv' := [(0, vr Γ 73), (1, vi 0), (2, vi 0)]) [2, 1, 0] rfl ?_
  refine L_Count_brokenMandates_4 (fun v1_2 μ_3 hs h => ?_) m4 0 0 μ hs h
  refine z_iload_n dX2_brokenMandates_62 rfl 0 rfl ?_
  exact z_iret rfl dX2_brokenMandates_63 rfl rfl rfl ⟨_, rfl, hs, h⟩
abbrev Y_H_broken : Yt := (3, (some .int), yX11_broken.name, { frames := 4, cells := 0, slots := 0, locals := 89 }, 175, 0, 0)
def f_H_broken (a1 : Int) (a2 : Int) (μ : Mem) (k : Int → Mem → Prop) : Prop := if (v_Floor_has a1 μ) = true then (if (v_Reg_isKnownDay a2 μ) = true then (f_Count_take a1 a2 μ (fun μ_1 => f_Count_brokenMandates  μ_1 (fun r37 μ_2 => k r37 μ_2))) else (k (-1) μ)) else (k (-1) μ)
theorem i_H_broken {l : Launch} {Γ : Gam} {g : Nat} {a1 : Int} {a2 : Int} {μ : Mem} {k : Int → Mem → Prop} (hs : StatR μ.2.2) (h : f_H_broken a1 a2 μ k) : CT l Γ yX11_broken cX11_broken 3 (some .int) 4 89 0 0 [vr Γ 0, vi a1, vi a2] g 175 μ (pI k) := by
  refine SW.ct (by decide) (Nat.le_of_ble_eq_true rfl) ?_
  refine z_sub (lv' := [(0, vr Γ 0), (1, vi a1), (2, vi a2)]) [0, 1, 2] rfl ?_
  show SW l Γ yX11_broken.cls cX11_broken Y_H_broken (pI k) g 175 0 0 μ 0 [(0, vr Γ 0), (1, vi a1), (2, vi a2)] []
  unfold f_H_broken at h
  refine z_rload_n dX11_broken_0 rfl 0 rfl ?_
  refine z_getR (q := 1005) ff_11_5 dX11_broken_1 kt_0 (Nat.le_of_ble_eq_true rfl) fl_X11_57 rfl (hs.1 _ _ sr_1005) ?_
  refine z_iload_n dX11_broken_4 rfl 1 rfl ?_
  refine z_VE (i_Floor_has hs) vk_X3_has kt_67 (Nat.le_of_ble_eq_true rfl) rfl ml_X11_115 ⟨Nat.le_of_ble_eq_true rfl, Nat.le_of_ble_eq_true rfl⟩ ⟨Nat.zero_le _, Nat.zero_le _⟩ rfl rfl (Nat.le_of_ble_eq_true rfl) dX11_broken_5 ?_
  refine z_ifeq_b (tgt := 22) dX11_broken_8 (by decide) h (fun h => ?_) (fun h => ?_)
  · refine z_rload_n dX11_broken_11 rfl 0 rfl ?_
    refine z_getR (q := 1000) ff_11_0 dX11_broken_12 kt_0 (Nat.le_of_ble_eq_true rfl) fl_X11_12 rfl (hs.1 _ _ sr_1000) ?_
    refine z_iload_n dX11_broken_15 rfl 2 rfl ?_
    refine z_VE (i_Reg_isKnownDay ) vk_X7_isKnownDay kt_1 (Nat.le_of_ble_eq_true rfl) rfl ml_X11_238 ⟨Nat.le_of_ble_eq_true rfl, Nat.le_of_ble_eq_true rfl⟩ ⟨Nat.zero_le _, Nat.zero_le _⟩ rfl rfl (Nat.le_of_ble_eq_true rfl) dX11_broken_16 ?_
    refine z_ifne_b (tgt := 24) dX11_broken_19 (by decide) h (fun h => ?_) (fun h => ?_)
    · refine z_rload_n dX11_broken_24 rfl 0 rfl ?_
      refine z_getR (q := 1006) ff_11_6 dX11_broken_25 kt_0 (Nat.le_of_ble_eq_true rfl) fl_X11_66 rfl (hs.1 _ _ sr_1006) ?_
      refine z_iload_n dX11_broken_28 rfl 1 rfl ?_
      refine z_iload_n dX11_broken_29 rfl 2 rfl ?_
      refine z_VU (i_Count_take  hs h) vk_X2_take kt_73 (Nat.le_of_ble_eq_true rfl) rfl ml_X11_142 ⟨Nat.le_of_ble_eq_true rfl, Nat.le_of_ble_eq_true rfl⟩ ⟨Nat.zero_le _, Nat.zero_le _⟩ rfl rfl (Nat.le_of_ble_eq_true rfl) dX11_broken_30 (fun μ_1 hs h => ?_)
      refine z_rload_n dX11_broken_33 rfl 0 rfl ?_
      refine z_getR (q := 1006) ff_11_6 dX11_broken_34 kt_0 (Nat.le_of_ble_eq_true rfl) fl_X11_66 rfl (hs.1 _ _ sr_1006) ?_
      refine z_VI (i_Count_brokenMandates  hs h) vk_X2_brokenMandates kt_73 (Nat.le_of_ble_eq_true rfl) rfl ml_X11_273 ⟨Nat.le_of_ble_eq_true rfl, Nat.le_of_ble_eq_true rfl⟩ ⟨Nat.zero_le _, Nat.zero_le _⟩ rfl rfl (Nat.le_of_ble_eq_true rfl) dX11_broken_37 (fun r37 μ_2 hs h => ?_)
      exact z_iret rfl dX11_broken_40 rfl rfl rfl ⟨_, rfl, hs, h⟩
    · refine z_iconst dX11_broken_22 ?_
      exact z_iret rfl dX11_broken_23 rfl rfl rfl ⟨_, rfl, hs, h⟩
  · refine z_iconst dX11_broken_22 ?_
    exact z_iret rfl dX11_broken_23 rfl rfl rfl ⟨_, rfl, hs, h⟩
def v_H_kindOf (a1 : Int) : Int := if w a1 < w 200 then (if w a1 < w 100 then 0 else 1) else 2
theorem i_H_kindOf {l : Launch} {Γ : Gam} {g : Nat} {μ : Mem} {a1 : Int} : CT l Γ yX11_kindOf cX11_kindOf 1 (some .int) 0 0 0 0 [vi a1] g 175 μ (pE (vi (v_H_kindOf a1)) μ) := by
  refine SW.ct (by decide) (Nat.le_of_ble_eq_true rfl) ?_
  refine z_sub (lv' := [(0, vi a1)]) [0] rfl ?_
  have hv : v_H_kindOf a1 = v_H_kindOf a1 := rfl
  refine z_iload_n dX11_kindOf_0 rfl 0 rfl ?_
  refine z_sipush dX11_kindOf_1 (by decide) ?_
  refine z_icmp_lt (tgt := 11) dX11_kindOf_4 (by decide) (eq_ite hv) (fun hv => ?_) (fun hv => ?_)
  · refine z_iload_n dX11_kindOf_11 rfl 0 rfl ?_
    refine z_bipush dX11_kindOf_12 (by decide) ?_
    refine z_icmp_lt (tgt := 21) dX11_kindOf_14 (by decide) (eq_ite hv) (fun hv => ?_) (fun hv => ?_)
    · refine z_iconst dX11_kindOf_21 ?_
      exact z_iret rfl dX11_kindOf_22 rfl rfl rfl ⟨by first | (rw [hv]; done) | rfl, rfl⟩
    · refine z_iconst dX11_kindOf_17 ?_
      refine z_goto (tgt := 22) dX11_kindOf_18 (by decide) ?_
      exact z_iret rfl dX11_kindOf_22 rfl rfl rfl ⟨by first | (rw [hv]; done) | rfl, rfl⟩
  · refine z_iconst dX11_kindOf_7 ?_
    refine z_goto (tgt := 22) dX11_kindOf_8 (by decide) ?_
    exact z_iret rfl dX11_kindOf_22 rfl rfl rfl ⟨by first | (rw [hv]; done) | rfl, rfl⟩
abbrev Y_Floor_closeMotion : Yt := (4, none, yX3_closeMotion.name, { frames := 2, cells := 0, slots := 0, locals := 44 }, 175, 0, 0)
def l_Floor_closeMotion_8 (a1 : Int) (X_8_60 : Mem → Prop) : Nat → Int → Mem → Prop
  | 0, _, _ => False
  | fu8 + 1, v3, μ_2 => if w v3 < w (rI μ_2 2544 0) then (if w (at' μ_2 14 40 v3) = w a1 then (if w (v_Floor_stateOf (100 + v3) μ_2) = 0 then (f_Floor_put (100 + v3) 3 μ_2 (fun μ_3 => (l_Floor_closeMotion_8 a1 X_8_60 fu8) (v3 + 1) μ_3)) else ((l_Floor_closeMotion_8 a1 X_8_60 fu8) (v3 + 1) μ_2)) else ((l_Floor_closeMotion_8 a1 X_8_60 fu8) (v3 + 1) μ_2)) else (X_8_60 μ_2)
def f_Floor_closeMotion (a1 : Int) (a2 : Int) (μ : Mem) (k : Mem → Prop) : Prop := f_Floor_put a1 a2 μ (fun μ_1 => ∃ m8 : Nat, l_Floor_closeMotion_8 a1 (fun (μ_4 : Mem) => k μ_4) m8 0 μ_1)
theorem L_Floor_closeMotion_8 {l : Launch} {Γ : Gam} {g : Nat} {a1 : Int} {X_8_60 : Mem → Prop} {k : Mem → Prop} (hX_8_60 : ∀ (ν : Mem), StatR ν.2.2 → X_8_60 ν → SW l Γ yX3_closeMotion.cls cX3_closeMotion Y_Floor_closeMotion (pV k) g 175 0 0 ν 60 [] []) (n9 : Nat) : ∀ (v3 : Int) (μ_2 : Mem), StatR μ_2.2.2 → l_Floor_closeMotion_8 a1 X_8_60 n9 v3 μ_2 → SW l Γ yX3_closeMotion.cls cX3_closeMotion Y_Floor_closeMotion (pV k) g 175 0 0 μ_2 8 [(0, vr Γ 67), (1, vi a1), (3, vi v3)] [] := by
  induction n9 with
  | zero =>
    intro v3 μ_2 hs h
    exact h.elim
  | succ n9 hR_8 =>
    intro v3 μ_2 hs h
    rw [l_Floor_closeMotion_8] at h
    refine z_iload_n dX3_closeMotion_8 rfl 2 rfl ?_
    refine z_rload_n dX3_closeMotion_9 rfl 0 rfl ?_
    refine z_getR (q := 9576) ff_3_0 dX3_closeMotion_10 kt_67 (Nat.le_of_ble_eq_true rfl) fl_X3_31 rfl (hs.1 _ _ sr_9576) ?_
    refine z_getI (q := 2544) ff_6_8 dX3_closeMotion_13 kt_12 (Nat.le_of_ble_eq_true rfl) fl_X3_129 rfl ?_
    refine z_icmp_ge (tgt := 60) dX3_closeMotion_16 (by decide) h (fun h => ?_) (fun h => ?_)
    · refine z_rload_n dX3_closeMotion_19 rfl 0 rfl ?_
      refine z_getR (q := 9576) ff_3_0 dX3_closeMotion_20 kt_67 (Nat.le_of_ble_eq_true rfl) fl_X3_31 rfl (hs.1 _ _ sr_9576) ?_
      refine z_getR (q := 2537) ff_6_1 dX3_closeMotion_23 kt_12 (Nat.le_of_ble_eq_true rfl) fl_X3_115 rfl (hs.1 _ _ sr_2537) ?_
      refine z_iload_n dX3_closeMotion_26 rfl 2 rfl ?_
      refine z_NE (i_X11_at kt_14 (Nat.le_of_ble_eq_true rfl)) ok_X11_at nw_X3_54 ⟨Nat.le_of_ble_eq_true rfl, Nat.le_of_ble_eq_true rfl⟩ ⟨Nat.zero_le _, Nat.zero_le _⟩ rfl rfl (Nat.le_of_ble_eq_true rfl) dX3_closeMotion_27 ?_
      refine z_iload_n dX3_closeMotion_30 rfl 1 rfl ?_
      refine z_icmp_ne (tgt := 54) dX3_closeMotion_31 (by decide) h (fun h => ?_) (fun h => ?_)
      · refine z_rload_n dX3_closeMotion_34 rfl 0 rfl ?_
        refine z_bipush dX3_closeMotion_35 (by decide) ?_
        refine z_iload_n dX3_closeMotion_37 rfl 2 rfl ?_
        refine z_iadd dX3_closeMotion_38 ?_
        refine z_VE (i_Floor_stateOf hs) vk_X3_stateOf kt_67 (Nat.le_of_ble_eq_true rfl) rfl ml_X3_50 ⟨Nat.le_of_ble_eq_true rfl, Nat.le_of_ble_eq_true rfl⟩ ⟨Nat.zero_le _, Nat.zero_le _⟩ rfl rfl (Nat.le_of_ble_eq_true rfl) dX3_closeMotion_39 ?_
        refine z_if_ne (tgt := 54) dX3_closeMotion_42 (by decide) h (fun h => ?_) (fun h => ?_)
        · refine z_rload_n dX3_closeMotion_45 rfl 0 rfl ?_
          refine z_bipush dX3_closeMotion_46 (by decide) ?_
          refine z_iload_n dX3_closeMotion_48 rfl 2 rfl ?_
          refine z_iadd dX3_closeMotion_49 ?_
          refine z_iconst dX3_closeMotion_50 ?_
          refine z_VU (i_Floor_put  hs h) vk_X3_put kt_67 (Nat.le_of_ble_eq_true rfl) rfl ml_X3_62 ⟨Nat.le_of_ble_eq_true rfl, Nat.le_of_ble_eq_true rfl⟩ ⟨Nat.zero_le _, Nat.zero_le _⟩ rfl rfl (Nat.le_of_ble_eq_true rfl) dX3_closeMotion_51 (fun μ_3 hs h => ?_)
          refine z_iinc (j := 2) (lv' := [(3, vi (v3 + 1)), (0, vr Γ 67), (1, vi a1)]) dX3_closeMotion_54 rfl (Nat.le_of_ble_eq_true rfl) rfl ?_
          refine z_goto (tgt := 8) dX3_closeMotion_57 (by decide) ?_
          refine z_sub (lv' := [(0, vr Γ 67), (1, vi a1), (3, vi (v3 + 1))]) [1, 2, 0] rfl ?_
          exact hR_8 (v3 + 1) μ_3 hs h
        · refine z_iinc (j := 2) (lv' := [(3, vi (v3 + 1)), (0, vr Γ 67), (1, vi a1)]) dX3_closeMotion_54 rfl (Nat.le_of_ble_eq_true rfl) rfl ?_
          refine z_goto (tgt := 8) dX3_closeMotion_57 (by decide) ?_
          refine z_sub (lv' := [(0, vr Γ 67), (1, vi a1), (3, vi (v3 + 1))]) [1, 2, 0] rfl ?_
          exact hR_8 (v3 + 1) μ_2 hs h
      · refine z_iinc (j := 2) (lv' := [(3, vi (v3 + 1)), (0, vr Γ 67), (1, vi a1)]) dX3_closeMotion_54 rfl (Nat.le_of_ble_eq_true rfl) rfl ?_
        refine z_goto (tgt := 8) dX3_closeMotion_57 (by decide) ?_
        refine z_sub (lv' := [(0, vr Γ 67), (1, vi a1), (3, vi (v3 + 1))]) [1, 2, 0] rfl ?_
        exact hR_8 (v3 + 1) μ_2 hs h
    · refine z_sub (lv' := []) [] rfl ?_
      exact hX_8_60 μ_2 hs h
theorem i_Floor_closeMotion {l : Launch} {Γ : Gam} {g : Nat} {a1 : Int} {a2 : Int} {μ : Mem} {k : Mem → Prop} (hs : StatR μ.2.2) (h : f_Floor_closeMotion a1 a2 μ k) : CT l Γ yX3_closeMotion cX3_closeMotion 4 none 2 44 0 0 [vr Γ 67, vi a1, vi a2] g 175 μ (pV k) := by
  refine SW.ct (by decide) (Nat.le_of_ble_eq_true rfl) ?_
  refine z_sub (lv' := [(0, vr Γ 67), (1, vi a1), (2, vi a2)]) [0, 1, 2] rfl ?_
  show SW l Γ yX3_closeMotion.cls cX3_closeMotion Y_Floor_closeMotion (pV k) g 175 0 0 μ 0 [(0, vr Γ 67), (1, vi a1), (2, vi a2)] []
  unfold f_Floor_closeMotion at h
  refine z_rload_n dX3_closeMotion_0 rfl 0 rfl ?_
  refine z_iload_n dX3_closeMotion_1 rfl 1 rfl ?_
  refine z_iload_n dX3_closeMotion_2 rfl 2 rfl ?_
  refine z_VU (i_Floor_put  hs h) vk_X3_put kt_67 (Nat.le_of_ble_eq_true rfl) rfl ml_X3_62 ⟨Nat.le_of_ble_eq_true rfl, Nat.le_of_ble_eq_true rfl⟩ ⟨Nat.zero_le _, Nat.zero_le _⟩ rfl rfl (Nat.le_of_ble_eq_true rfl) dX3_closeMotion_3 (fun μ_1 hs h => ?_)
  refine z_iconst dX3_closeMotion_6 ?_
  refine z_istore_n (lv' := [(3, vi 0), (0, vr Γ 67), (1, vi a1), (2, vi a2)]) dX3_closeMotion_7 rfl (Nat.le_of_ble_eq_true rfl) rfl ?_
  obtain ⟨m8, h⟩ := h
  refine z_sub (lv' := [(0, vr Γ 67), (1, vi a1), (3, vi 0)]) [1, 2, 0] rfl ?_
  refine L_Floor_closeMotion_8 (fun μ_4 hs h => ?_) m8 0 μ_1 hs h
  exact z_vret rfl dX3_closeMotion_60 rfl rfl rfl ⟨rfl, hs, h⟩
abbrev Y_Floor_find : Yt := (4, (some .int), yX3_find.name, { frames := 1, cells := 0, slots := 0, locals := 21 }, 175, 0, 0)
def l_Floor_find_2 (a1 : Int) (a2 : Int) (μ : Mem) (k : Int → Mem → Prop) : Nat → Int → Prop
  | 0, _ => False
  | fu2 + 1, v3 => if w v3 < w (at' μ 69 25 a1) then (if w (w_abs (at' μ 70 300 ((a1 * 12) + v3))) = w a2 then (k v3 μ) else ((l_Floor_find_2 a1 a2 μ k fu2) (v3 + 1))) else (k (-1) μ)
def f_Floor_find (a1 : Int) (a2 : Int) (μ : Mem) (k : Int → Mem → Prop) : Prop := ∃ m2 : Nat, l_Floor_find_2 a1 a2 μ k m2 0
theorem L_Floor_find_2 {l : Launch} {Γ : Gam} {g : Nat} {a1 : Int} {a2 : Int} {μ : Mem} {k : Int → Mem → Prop} (hs : StatR μ.2.2) (n9 : Nat) : ∀ (v3 : Int), l_Floor_find_2 a1 a2 μ k n9 v3 → SW l Γ yX3_find.cls cX3_find Y_Floor_find (pI k) g 175 0 0 μ 2 [(0, vr Γ 67), (1, vi a1), (2, vi a2), (3, vi v3)] [] := by
  induction n9 with
  | zero =>
    intro v3 h
    exact h.elim
  | succ n9 hR_2 =>
    intro v3 h
    rw [l_Floor_find_2] at h
    refine z_iload_n dX3_find_2 rfl 3 rfl ?_
    refine z_rload_n dX3_find_3 rfl 0 rfl ?_
    refine z_getR (q := 9578) ff_3_2 dX3_find_4 kt_67 (Nat.le_of_ble_eq_true rfl) fl_X3_15 rfl (hs.1 _ _ sr_9578) ?_
    refine z_iload_n dX3_find_7 rfl 1 rfl ?_
    refine z_NE (i_X11_at kt_69 (Nat.le_of_ble_eq_true rfl)) ok_X11_at nw_X3_54 ⟨Nat.le_of_ble_eq_true rfl, Nat.le_of_ble_eq_true rfl⟩ ⟨Nat.zero_le _, Nat.zero_le _⟩ rfl rfl (Nat.le_of_ble_eq_true rfl) dX3_find_8 ?_
    refine z_icmp_ge (tgt := 42) dX3_find_11 (by decide) h (fun h => ?_) (fun h => ?_)
    · refine z_rload_n dX3_find_14 rfl 0 rfl ?_
      refine z_getR (q := 9579) ff_3_3 dX3_find_15 kt_67 (Nat.le_of_ble_eq_true rfl) fl_X3_18 rfl (hs.1 _ _ sr_9579) ?_
      refine z_iload_n dX3_find_18 rfl 1 rfl ?_
      refine z_bipush dX3_find_19 (by decide) ?_
      refine z_imul dX3_find_21 ?_
      refine z_iload_n dX3_find_22 rfl 3 rfl ?_
      refine z_iadd dX3_find_23 ?_
      refine z_NE (i_X11_at kt_70 (Nat.le_of_ble_eq_true rfl)) ok_X11_at nw_X3_54 ⟨Nat.le_of_ble_eq_true rfl, Nat.le_of_ble_eq_true rfl⟩ ⟨Nat.zero_le _, Nat.zero_le _⟩ rfl rfl (Nat.le_of_ble_eq_true rfl) dX3_find_24 ?_
      refine z_abs dX3_find_27 mm_X3_71 ms_abs mi_math mc_abs ⟨Nat.le_of_ble_eq_true rfl, Nat.le_of_ble_eq_true rfl⟩ ⟨Nat.zero_le _, Nat.zero_le _⟩ ?_
      refine z_iload_n dX3_find_30 rfl 2 rfl ?_
      refine z_icmp_ne (tgt := 36) dX3_find_31 (by decide) h (fun h => ?_) (fun h => ?_)
      · refine z_iload_n dX3_find_34 rfl 3 rfl ?_
        exact z_iret rfl dX3_find_35 rfl rfl rfl ⟨_, rfl, hs, h⟩
      · refine z_iinc (j := 3) (lv' := [(3, vi (v3 + 1)), (0, vr Γ 67), (1, vi a1), (2, vi a2)]) dX3_find_36 rfl (Nat.le_of_ble_eq_true rfl) rfl ?_
        refine z_goto (tgt := 2) dX3_find_39 (by decide) ?_
        refine z_sub (lv' := [(0, vr Γ 67), (1, vi a1), (2, vi a2), (3, vi (v3 + 1))]) [1, 2, 3, 0] rfl ?_
        exact hR_2 (v3 + 1) h
    · refine z_iconst dX3_find_42 ?_
      exact z_iret rfl dX3_find_43 rfl rfl rfl ⟨_, rfl, hs, h⟩
theorem i_Floor_find {l : Launch} {Γ : Gam} {g : Nat} {a1 : Int} {a2 : Int} {μ : Mem} {k : Int → Mem → Prop} (hs : StatR μ.2.2) (h : f_Floor_find a1 a2 μ k) : CT l Γ yX3_find cX3_find 4 (some .int) 1 21 0 0 [vr Γ 67, vi a1, vi a2] g 175 μ (pI k) := by
  refine SW.ct (by decide) (Nat.le_of_ble_eq_true rfl) ?_
  refine z_sub (lv' := [(0, vr Γ 67), (1, vi a1), (2, vi a2)]) [0, 1, 2] rfl ?_
  show SW l Γ yX3_find.cls cX3_find Y_Floor_find (pI k) g 175 0 0 μ 0 [(0, vr Γ 67), (1, vi a1), (2, vi a2)] []
  unfold f_Floor_find at h
  refine z_iconst dX3_find_0 ?_
  refine z_istore_n (lv' := [(3, vi 0), (0, vr Γ 67), (1, vi a1), (2, vi a2)]) dX3_find_1 rfl (Nat.le_of_ble_eq_true rfl) rfl ?_
  obtain ⟨m2, h⟩ := h
  refine z_sub (lv' := [(0, vr Γ 67), (1, vi a1), (2, vi a2), (3, vi 0)]) [1, 2, 3, 0] rfl ?_
  refine L_Floor_find_2 hs  m2 0 h
abbrev Y_Floor_strikeLine : Yt := (5, none, yX3_strikeLine.name, { frames := 1, cells := 0, slots := 0, locals := 22 }, 175, 0, 0)
def l_Floor_strikeLine_24 (a1 : Int) (v3 : Int) (X_24_96 : Mem → Prop) : Nat → Int → Mem → Prop
  | 0, _, _ => False
  | fu24 + 1, v4_1, μ_1 => if w v4_1 < w v3 then (∀ μ_2 : Mem, μ_2 = set' μ_1 70 300 v4_1 (at' μ_1 70 300 (v4_1 + 1)) → ∀ μ_3 : Mem, μ_3 = set' μ_2 71 300 v4_1 (at' μ_2 71 300 (v4_1 + 1)) → ∀ μ_4 : Mem, μ_4 = set' μ_3 72 300 v4_1 (at' μ_3 72 300 (v4_1 + 1)) → (l_Floor_strikeLine_24 a1 v3 X_24_96 fu24) (v4_1 + 1) μ_4) else (X_24_96 μ_1)
def f_Floor_strikeLine (a1 : Int) (a2 : Int) (μ : Mem) (k : Mem → Prop) : Prop := ∀ v3 : Int, v3 = ((a1 * 12) + (at' μ 69 25 a1)) - 1 → ∀ v4 : Int, v4 = (a1 * 12) + a2 → ∃ m24 : Nat, l_Floor_strikeLine_24 a1 v3 (fun (μ_5 : Mem) => ∀ μ_6 : Mem, μ_6 = set' μ_5 69 25 a1 ((at' μ_5 69 25 a1) - 1) → k μ_6) m24 v4 μ
theorem L_Floor_strikeLine_24 {l : Launch} {Γ : Gam} {g : Nat} {a1 : Int} {v3 : Int} {X_24_96 : Mem → Prop} {k : Mem → Prop} (hX_24_96 : ∀ (ν : Mem), StatR ν.2.2 → X_24_96 ν → SW l Γ yX3_strikeLine.cls cX3_strikeLine Y_Floor_strikeLine (pV k) g 175 0 0 ν 96 [(0, vr Γ 67), (1, vi a1)] []) (n9 : Nat) : ∀ (v4_1 : Int) (μ_1 : Mem), StatR μ_1.2.2 → l_Floor_strikeLine_24 a1 v3 X_24_96 n9 v4_1 μ_1 → SW l Γ yX3_strikeLine.cls cX3_strikeLine Y_Floor_strikeLine (pV k) g 175 0 0 μ_1 24 [(0, vr Γ 67), (1, vi a1), (3, vi v3), (4, vi v4_1)] [] := by
  induction n9 with
  | zero =>
    intro v4_1 μ_1 hs h
    exact h.elim
  | succ n9 hR_24 =>
    intro v4_1 μ_1 hs h
    rw [l_Floor_strikeLine_24] at h
    refine z_iload dX3_strikeLine_24 3 rfl ?_
    refine z_iload_n dX3_strikeLine_26 rfl 2 rfl ?_
    refine z_icmp_ge (tgt := 96) dX3_strikeLine_27 (by decide) h (fun h => ?_) (fun h => ?_)
    · refine z_rload_n dX3_strikeLine_30 rfl 0 rfl ?_
      refine z_getR (q := 9579) ff_3_3 dX3_strikeLine_31 kt_67 (Nat.le_of_ble_eq_true rfl) fl_X3_18 rfl (hs.1 _ _ sr_9579) ?_
      refine z_iload dX3_strikeLine_34 3 rfl ?_
      refine z_rload_n dX3_strikeLine_36 rfl 0 rfl ?_
      refine z_getR (q := 9579) ff_3_3 dX3_strikeLine_37 kt_67 (Nat.le_of_ble_eq_true rfl) fl_X3_18 rfl (hs.1 _ _ sr_9579) ?_
      refine z_iload dX3_strikeLine_40 3 rfl ?_
      refine z_iconst dX3_strikeLine_42 ?_
      refine z_iadd dX3_strikeLine_43 ?_
      refine z_NE (i_X11_at kt_70 (Nat.le_of_ble_eq_true rfl)) ok_X11_at nw_X3_54 ⟨Nat.le_of_ble_eq_true rfl, Nat.le_of_ble_eq_true rfl⟩ ⟨Nat.zero_le _, Nat.zero_le _⟩ rfl rfl (Nat.le_of_ble_eq_true rfl) dX3_strikeLine_44 ?_
      refine z_NM (i_X11_set kt_70 (Nat.le_of_ble_eq_true rfl)) ok_X11_set nw_X3_58 ⟨Nat.le_of_ble_eq_true rfl, Nat.le_of_ble_eq_true rfl⟩ ⟨Nat.zero_le _, Nat.zero_le _⟩ rfl rfl (Nat.le_of_ble_eq_true rfl) dX3_strikeLine_47 ?_
      refine z_mm (fun μ_2 eμ_2 => ?_)
      replace h := h μ_2 eμ_2
      replace hs : StatR μ_2.2.2 := by rw [eμ_2]; exact (StatR.set hs)
      refine z_rload_n dX3_strikeLine_50 rfl 0 rfl ?_
      refine z_getR (q := 9580) ff_3_4 dX3_strikeLine_51 kt_67 (Nat.le_of_ble_eq_true rfl) fl_X3_21 rfl (hs.1 _ _ sr_9580) ?_
      refine z_iload dX3_strikeLine_54 3 rfl ?_
      refine z_rload_n dX3_strikeLine_56 rfl 0 rfl ?_
      refine z_getR (q := 9580) ff_3_4 dX3_strikeLine_57 kt_67 (Nat.le_of_ble_eq_true rfl) fl_X3_21 rfl (hs.1 _ _ sr_9580) ?_
      refine z_iload dX3_strikeLine_60 3 rfl ?_
      refine z_iconst dX3_strikeLine_62 ?_
      refine z_iadd dX3_strikeLine_63 ?_
      refine z_NE (i_X11_at kt_71 (Nat.le_of_ble_eq_true rfl)) ok_X11_at nw_X3_54 ⟨Nat.le_of_ble_eq_true rfl, Nat.le_of_ble_eq_true rfl⟩ ⟨Nat.zero_le _, Nat.zero_le _⟩ rfl rfl (Nat.le_of_ble_eq_true rfl) dX3_strikeLine_64 ?_
      refine z_NM (i_X11_set kt_71 (Nat.le_of_ble_eq_true rfl)) ok_X11_set nw_X3_58 ⟨Nat.le_of_ble_eq_true rfl, Nat.le_of_ble_eq_true rfl⟩ ⟨Nat.zero_le _, Nat.zero_le _⟩ rfl rfl (Nat.le_of_ble_eq_true rfl) dX3_strikeLine_67 ?_
      refine z_mm (fun μ_3 eμ_3 => ?_)
      replace h := h μ_3 eμ_3
      replace hs : StatR μ_3.2.2 := by rw [eμ_3]; exact (StatR.set hs)
      refine z_rload_n dX3_strikeLine_70 rfl 0 rfl ?_
      refine z_getR (q := 9581) ff_3_5 dX3_strikeLine_71 kt_67 (Nat.le_of_ble_eq_true rfl) fl_X3_24 rfl (hs.1 _ _ sr_9581) ?_
      refine z_iload dX3_strikeLine_74 3 rfl ?_
      refine z_rload_n dX3_strikeLine_76 rfl 0 rfl ?_
      refine z_getR (q := 9581) ff_3_5 dX3_strikeLine_77 kt_67 (Nat.le_of_ble_eq_true rfl) fl_X3_24 rfl (hs.1 _ _ sr_9581) ?_
      refine z_iload dX3_strikeLine_80 3 rfl ?_
      refine z_iconst dX3_strikeLine_82 ?_
      refine z_iadd dX3_strikeLine_83 ?_
      refine z_NE (i_X11_at kt_72 (Nat.le_of_ble_eq_true rfl)) ok_X11_at nw_X3_54 ⟨Nat.le_of_ble_eq_true rfl, Nat.le_of_ble_eq_true rfl⟩ ⟨Nat.zero_le _, Nat.zero_le _⟩ rfl rfl (Nat.le_of_ble_eq_true rfl) dX3_strikeLine_84 ?_
      refine z_NM (i_X11_set kt_72 (Nat.le_of_ble_eq_true rfl)) ok_X11_set nw_X3_58 ⟨Nat.le_of_ble_eq_true rfl, Nat.le_of_ble_eq_true rfl⟩ ⟨Nat.zero_le _, Nat.zero_le _⟩ rfl rfl (Nat.le_of_ble_eq_true rfl) dX3_strikeLine_87 ?_
      refine z_mm (fun μ_4 eμ_4 => ?_)
      replace h := h μ_4 eμ_4
      replace hs : StatR μ_4.2.2 := by rw [eμ_4]; exact (StatR.set hs)
      refine z_iinc (j := 3) (lv' := [(4, vi (v4_1 + 1)), (0, vr Γ 67), (1, vi a1), (3, vi v3)]) dX3_strikeLine_90 rfl (Nat.le_of_ble_eq_true rfl) rfl ?_
      refine z_goto (tgt := 24) dX3_strikeLine_93 (by decide) ?_
      refine z_sub (lv' := [(0, vr Γ 67), (1, vi a1), (3, vi v3), (4, vi (v4_1 + 1))]) [1, 2, 3, 0] rfl ?_
      exact hR_24 (v4_1 + 1) μ_4 hs h
    · refine z_sub (lv' := [(0, vr Γ 67), (1, vi a1)]) [0, 1] rfl ?_
      exact hX_24_96 μ_1 hs h
theorem i_Floor_strikeLine {l : Launch} {Γ : Gam} {g : Nat} {a1 : Int} {a2 : Int} {μ : Mem} {k : Mem → Prop} (hs : StatR μ.2.2) (h : f_Floor_strikeLine a1 a2 μ k) : CT l Γ yX3_strikeLine cX3_strikeLine 5 none 1 22 0 0 [vr Γ 67, vi a1, vi a2] g 175 μ (pV k) := by
  refine SW.ct (by decide) (Nat.le_of_ble_eq_true rfl) ?_
  refine z_sub (lv' := [(0, vr Γ 67), (1, vi a1), (2, vi a2)]) [0, 1, 2] rfl ?_
  show SW l Γ yX3_strikeLine.cls cX3_strikeLine Y_Floor_strikeLine (pV k) g 175 0 0 μ 0 [(0, vr Γ 67), (1, vi a1), (2, vi a2)] []
  unfold f_Floor_strikeLine at h
  refine z_iload_n dX3_strikeLine_0 rfl 1 rfl ?_
  refine z_bipush dX3_strikeLine_1 (by decide) ?_
  refine z_imul dX3_strikeLine_3 ?_
  refine z_rload_n dX3_strikeLine_4 rfl 0 rfl ?_
  refine z_getR (q := 9578) ff_3_2 dX3_strikeLine_5 kt_67 (Nat.le_of_ble_eq_true rfl) fl_X3_15 rfl (hs.1 _ _ sr_9578) ?_
  refine z_iload_n dX3_strikeLine_8 rfl 1 rfl ?_
  refine z_NE (i_X11_at kt_69 (Nat.le_of_ble_eq_true rfl)) ok_X11_at nw_X3_54 ⟨Nat.le_of_ble_eq_true rfl, Nat.le_of_ble_eq_true rfl⟩ ⟨Nat.zero_le _, Nat.zero_le _⟩ rfl rfl (Nat.le_of_ble_eq_true rfl) dX3_strikeLine_9 ?_
  refine z_iadd dX3_strikeLine_12 ?_
  refine z_iconst dX3_strikeLine_13 ?_
  refine z_isub dX3_strikeLine_14 ?_
  refine z_nm (fun v3 ev3 => ?_)
  replace h := h v3 ev3
  refine z_istore_n (lv' := [(3, vi v3), (0, vr Γ 67), (1, vi a1), (2, vi a2)]) dX3_strikeLine_15 rfl (Nat.le_of_ble_eq_true rfl) rfl ?_
  refine z_iload_n dX3_strikeLine_16 rfl 2 rfl ?_
  refine z_bipush dX3_strikeLine_17 (by decide) ?_
  refine z_imul dX3_strikeLine_19 ?_
  refine z_iload_n dX3_strikeLine_20 rfl 3 rfl ?_
  refine z_iadd dX3_strikeLine_21 ?_
  refine z_nm (fun v4 ev4 => ?_)
  replace h := h v4 ev4
  refine z_istore (lv' := [(4, vi v4), (3, vi v3), (0, vr Γ 67), (1, vi a1), (2, vi a2)]) dX3_strikeLine_22 (Nat.le_of_ble_eq_true rfl) rfl ?_
  obtain ⟨m24, h⟩ := h
  refine z_sub (lv' := [(0, vr Γ 67), (1, vi a1), (3, vi v3), (4, vi v4)]) [2, 3, 1, 0] rfl ?_
  refine L_Floor_strikeLine_24 (fun μ_5 hs h => ?_) m24 v4 μ hs h
  refine z_rload_n dX3_strikeLine_96 rfl 0 rfl ?_
  refine z_getR (q := 9578) ff_3_2 dX3_strikeLine_97 kt_67 (Nat.le_of_ble_eq_true rfl) fl_X3_15 rfl (hs.1 _ _ sr_9578) ?_
  refine z_iload_n dX3_strikeLine_100 rfl 1 rfl ?_
  refine z_rload_n dX3_strikeLine_101 rfl 0 rfl ?_
  refine z_getR (q := 9578) ff_3_2 dX3_strikeLine_102 kt_67 (Nat.le_of_ble_eq_true rfl) fl_X3_15 rfl (hs.1 _ _ sr_9578) ?_
  refine z_iload_n dX3_strikeLine_105 rfl 1 rfl ?_
  refine z_NE (i_X11_at kt_69 (Nat.le_of_ble_eq_true rfl)) ok_X11_at nw_X3_54 ⟨Nat.le_of_ble_eq_true rfl, Nat.le_of_ble_eq_true rfl⟩ ⟨Nat.zero_le _, Nat.zero_le _⟩ rfl rfl (Nat.le_of_ble_eq_true rfl) dX3_strikeLine_106 ?_
  refine z_iconst dX3_strikeLine_109 ?_
  refine z_isub dX3_strikeLine_110 ?_
  refine z_NM (i_X11_set kt_69 (Nat.le_of_ble_eq_true rfl)) ok_X11_set nw_X3_58 ⟨Nat.le_of_ble_eq_true rfl, Nat.le_of_ble_eq_true rfl⟩ ⟨Nat.zero_le _, Nat.zero_le _⟩ rfl rfl (Nat.le_of_ble_eq_true rfl) dX3_strikeLine_111 ?_
  refine z_mm (fun μ_6 eμ_6 => ?_)
  replace h := h μ_6 eμ_6
  replace hs : StatR μ_6.2.2 := by rw [eμ_6]; exact (StatR.set hs)
  exact z_vret rfl dX3_strikeLine_114 rfl rfl rfl ⟨rfl, hs, h⟩
abbrev Y_Floor_turnLine : Yt := (5, none, yX3_turnLine.name, { frames := 1, cells := 0, slots := 0, locals := 22 }, 175, 0, 0)
def f_Floor_turnLine (a1 : Int) (a2 : Int) (a3 : Int) (μ : Mem) (k : Mem → Prop) : Prop := ∀ v4 : Int, v4 = (a1 * 12) + a2 → ∀ μ_1 : Mem, μ_1 = set' μ 70 300 v4 (-(at' μ 70 300 v4)) → ∀ μ_2 : Mem, μ_2 = set' μ_1 72 300 v4 a3 → k μ_2
theorem i_Floor_turnLine {l : Launch} {Γ : Gam} {g : Nat} {a1 : Int} {a2 : Int} {a3 : Int} {μ : Mem} {k : Mem → Prop} (hs : StatR μ.2.2) (h : f_Floor_turnLine a1 a2 a3 μ k) : CT l Γ yX3_turnLine cX3_turnLine 5 none 1 22 0 0 [vr Γ 67, vi a1, vi a2, vi a3] g 175 μ (pV k) := by
  refine SW.ct (by decide) (Nat.le_of_ble_eq_true rfl) ?_
  refine z_sub (lv' := [(0, vr Γ 67), (1, vi a1), (2, vi a2), (3, vi a3)]) [0, 1, 2, 3] rfl ?_
  show SW l Γ yX3_turnLine.cls cX3_turnLine Y_Floor_turnLine (pV k) g 175 0 0 μ 0 [(0, vr Γ 67), (1, vi a1), (2, vi a2), (3, vi a3)] []
  unfold f_Floor_turnLine at h
  refine z_iload_n dX3_turnLine_0 rfl 1 rfl ?_
  refine z_bipush dX3_turnLine_1 (by decide) ?_
  refine z_imul dX3_turnLine_3 ?_
  refine z_iload_n dX3_turnLine_4 rfl 2 rfl ?_
  refine z_iadd dX3_turnLine_5 ?_
  refine z_nm (fun v4 ev4 => ?_)
  replace h := h v4 ev4
  refine z_istore (lv' := [(4, vi v4), (0, vr Γ 67), (1, vi a1), (2, vi a2), (3, vi a3)]) dX3_turnLine_6 (Nat.le_of_ble_eq_true rfl) rfl ?_
  refine z_rload_n dX3_turnLine_8 rfl 1 rfl ?_
  refine z_getR (q := 9579) ff_3_3 dX3_turnLine_9 kt_67 (Nat.le_of_ble_eq_true rfl) fl_X3_18 rfl (hs.1 _ _ sr_9579) ?_
  refine z_iload dX3_turnLine_12 0 rfl ?_
  refine z_rload_n dX3_turnLine_14 rfl 1 rfl ?_
  refine z_getR (q := 9579) ff_3_3 dX3_turnLine_15 kt_67 (Nat.le_of_ble_eq_true rfl) fl_X3_18 rfl (hs.1 _ _ sr_9579) ?_
  refine z_iload dX3_turnLine_18 0 rfl ?_
  refine z_NE (i_X11_at kt_70 (Nat.le_of_ble_eq_true rfl)) ok_X11_at nw_X3_54 ⟨Nat.le_of_ble_eq_true rfl, Nat.le_of_ble_eq_true rfl⟩ ⟨Nat.zero_le _, Nat.zero_le _⟩ rfl rfl (Nat.le_of_ble_eq_true rfl) dX3_turnLine_20 ?_
  refine z_ineg dX3_turnLine_23 ?_
  refine z_NM (i_X11_set kt_70 (Nat.le_of_ble_eq_true rfl)) ok_X11_set nw_X3_58 ⟨Nat.le_of_ble_eq_true rfl, Nat.le_of_ble_eq_true rfl⟩ ⟨Nat.zero_le _, Nat.zero_le _⟩ rfl rfl (Nat.le_of_ble_eq_true rfl) dX3_turnLine_24 ?_
  refine z_mm (fun μ_1 eμ_1 => ?_)
  replace h := h μ_1 eμ_1
  replace hs : StatR μ_1.2.2 := by rw [eμ_1]; exact (StatR.set hs)
  refine z_rload_n dX3_turnLine_27 rfl 1 rfl ?_
  refine z_getR (q := 9581) ff_3_5 dX3_turnLine_28 kt_67 (Nat.le_of_ble_eq_true rfl) fl_X3_24 rfl (hs.1 _ _ sr_9581) ?_
  refine z_iload dX3_turnLine_31 0 rfl ?_
  refine z_iload_n dX3_turnLine_33 rfl 4 rfl ?_
  refine z_NM (i_X11_set kt_72 (Nat.le_of_ble_eq_true rfl)) ok_X11_set nw_X3_58 ⟨Nat.le_of_ble_eq_true rfl, Nat.le_of_ble_eq_true rfl⟩ ⟨Nat.zero_le _, Nat.zero_le _⟩ rfl rfl (Nat.le_of_ble_eq_true rfl) dX3_turnLine_34 ?_
  refine z_mm (fun μ_2 eμ_2 => ?_)
  replace h := h μ_2 eμ_2
  replace hs : StatR μ_2.2.2 := by rw [eμ_2]; exact (StatR.set hs)
  exact z_vret rfl dX3_turnLine_37 rfl rfl rfl ⟨rfl, hs, h⟩
