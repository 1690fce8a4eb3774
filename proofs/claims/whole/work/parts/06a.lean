abbrev Y_Reg_addAffiliate : Yt := (2, (some .int), yX7_addAffiliate.name, { frames := 1, cells := 0, slots := 0, locals := 22 }, 175, 0, 0)
def f_Reg_addAffiliate (a1 : Int) (μ : Mem) (k : Int → Mem → Prop) : Prop := if w a1 < 0 then (k (-1) μ) else (if w a1 < w 6 then (if w (rI μ 1136 0) < w 12 then (∀ μ_1 : Mem, μ_1 = set' μ 2 12 (rI μ 1136 0) a1 → ∀ μ_2 : Mem, μ_2 = sI μ_1 1136 0 ((rI μ_1 1136 0) + 1) → k ((rI μ_2 1136 0) - 1) μ_2) else (k (-1) μ)) else (k (-1) μ))
theorem i_Reg_addAffiliate {l : Launch} {Γ : Gam} {g : Nat} {a1 : Int} {μ : Mem} {k : Int → Mem → Prop} (hs : StatR μ.2.2) (h : f_Reg_addAffiliate a1 μ k) : CT l Γ yX7_addAffiliate cX7_addAffiliate 2 (some .int) 1 22 0 0 [vr Γ 1, vi a1] g 175 μ (pI k) := by
  refine SW.ct (by decide) (Nat.le_of_ble_eq_true rfl) ?_
  refine z_sub (lv' := [(0, vr Γ 1), (1, vi a1)]) [0, 1] rfl ?_
  show SW l Γ yX7_addAffiliate.cls cX7_addAffiliate Y_Reg_addAffiliate (pI k) g 175 0 0 μ 0 [(0, vr Γ 1), (1, vi a1)] []
  unfold f_Reg_addAffiliate at h
  refine z_iload_n dX7_addAffiliate_0 rfl 1 rfl ?_
  refine z_if_lt (tgt := 19) dX7_addAffiliate_1 (by decide) h (fun h => ?_) (fun h => ?_)
  · refine z_iconst dX7_addAffiliate_19 ?_
    exact z_iret rfl dX7_addAffiliate_20 rfl rfl rfl ⟨_, rfl, hs, h⟩
  · refine z_iload_n dX7_addAffiliate_4 rfl 1 rfl ?_
    refine z_bipush dX7_addAffiliate_5 (by decide) ?_
    refine z_icmp_ge (tgt := 19) dX7_addAffiliate_7 (by decide) h (fun h => ?_) (fun h => ?_)
    · refine z_rload_n dX7_addAffiliate_10 rfl 0 rfl ?_
      refine z_getI (q := 1136) ff_7_8 dX7_addAffiliate_11 kt_1 (Nat.le_of_ble_eq_true rfl) fl_X7_40 rfl ?_
      refine z_bipush dX7_addAffiliate_14 (by decide) ?_
      refine z_icmp_lt (tgt := 21) dX7_addAffiliate_16 (by decide) h (fun h => ?_) (fun h => ?_)
      · refine z_rload_n dX7_addAffiliate_21 rfl 0 rfl ?_
        refine z_getR (q := 1128) ff_7_0 dX7_addAffiliate_22 kt_1 (Nat.le_of_ble_eq_true rfl) fl_X7_9 rfl (hs.1 _ _ sr_1128) ?_
        refine z_rload_n dX7_addAffiliate_25 rfl 0 rfl ?_
        refine z_getI (q := 1136) ff_7_8 dX7_addAffiliate_26 kt_1 (Nat.le_of_ble_eq_true rfl) fl_X7_40 rfl ?_
        refine z_iload_n dX7_addAffiliate_29 rfl 1 rfl ?_
        refine z_NM (i_X11_set kt_2 (Nat.le_of_ble_eq_true rfl)) ok_X11_set nw_X7_49 ⟨Nat.le_of_ble_eq_true rfl, Nat.le_of_ble_eq_true rfl⟩ ⟨Nat.zero_le _, Nat.zero_le _⟩ rfl rfl (Nat.le_of_ble_eq_true rfl) dX7_addAffiliate_30 ?_
        refine z_mm (fun μ_1 eμ_1 => ?_)
        replace h := h μ_1 eμ_1
        replace hs : StatR μ_1.2.2 := by rw [eμ_1]; exact (StatR.set hs)
        refine z_rload_n dX7_addAffiliate_33 rfl 0 rfl ?_
        refine z_dup dX7_addAffiliate_34 rfl ?_
        refine z_getI (q := 1136) ff_7_8 dX7_addAffiliate_35 kt_1 (Nat.le_of_ble_eq_true rfl) fl_X7_40 rfl ?_
        refine z_iconst dX7_addAffiliate_38 ?_
        refine z_iadd dX7_addAffiliate_39 ?_
        refine z_putI (q := 1136) ff_7_8 (Or.inl rfl) rfl dX7_addAffiliate_40 kt_1 (Nat.le_of_ble_eq_true rfl) fl_X7_40 rfl ?_
        refine z_mm (fun μ_2 eμ_2 => ?_)
        replace h := h μ_2 eμ_2
        replace hs : StatR μ_2.2.2 := by rw [eμ_2]; exact hs
        refine z_rload_n dX7_addAffiliate_43 rfl 0 rfl ?_
        refine z_getI (q := 1136) ff_7_8 dX7_addAffiliate_44 kt_1 (Nat.le_of_ble_eq_true rfl) fl_X7_40 rfl ?_
        refine z_iconst dX7_addAffiliate_47 ?_
        refine z_isub dX7_addAffiliate_48 ?_
        exact z_iret rfl dX7_addAffiliate_49 rfl rfl rfl ⟨_, rfl, hs, h⟩
      · refine z_iconst dX7_addAffiliate_19 ?_
        exact z_iret rfl dX7_addAffiliate_20 rfl rfl rfl ⟨_, rfl, hs, h⟩
    · refine z_iconst dX7_addAffiliate_19 ?_
      exact z_iret rfl dX7_addAffiliate_20 rfl rfl rfl ⟨_, rfl, hs, h⟩
abbrev Y_H_affiliate : Yt := (2, (some .int), yX11_affiliate.name, { frames := 2, cells := 0, slots := 0, locals := 43 }, 175, 0, 0)
def f_H_affiliate (a1 : Int) (μ : Mem) (k : Int → Mem → Prop) : Prop := f_Reg_addAffiliate a1 μ (fun r5 μ_1 => k r5 μ_1)
theorem i_H_affiliate {l : Launch} {Γ : Gam} {g : Nat} {a1 : Int} {μ : Mem} {k : Int → Mem → Prop} (hs : StatR μ.2.2) (h : f_H_affiliate a1 μ k) : CT l Γ yX11_affiliate cX11_affiliate 2 (some .int) 2 43 0 0 [vr Γ 0, vi a1] g 175 μ (pI k) := by
  refine SW.ct (by decide) (Nat.le_of_ble_eq_true rfl) ?_
  refine z_sub (lv' := [(0, vr Γ 0), (1, vi a1)]) [0, 1] rfl ?_
  show SW l Γ yX11_affiliate.cls cX11_affiliate Y_H_affiliate (pI k) g 175 0 0 μ 0 [(0, vr Γ 0), (1, vi a1)] []
  unfold f_H_affiliate at h
  refine z_rload_n dX11_affiliate_0 rfl 0 rfl ?_
  refine z_getR (q := 1000) ff_11_0 dX11_affiliate_1 kt_0 (Nat.le_of_ble_eq_true rfl) fl_X11_12 rfl (hs.1 _ _ sr_1000) ?_
  refine z_iload_n dX11_affiliate_4 rfl 1 rfl ?_
  refine z_VI (i_Reg_addAffiliate  hs h) vk_X7_addAffiliate kt_1 (Nat.le_of_ble_eq_true rfl) rfl ml_X11_95 ⟨Nat.le_of_ble_eq_true rfl, Nat.le_of_ble_eq_true rfl⟩ ⟨Nat.zero_le _, Nat.zero_le _⟩ rfl rfl (Nat.le_of_ble_eq_true rfl) dX11_affiliate_5 (fun r5 μ_1 hs h => ?_)
  exact z_iret rfl dX11_affiliate_8 rfl rfl rfl ⟨_, rfl, hs, h⟩
def v_Reg_hasAffiliate (a1 : Int) (μ : Mem) : Bool := if w a1 < 0 then false else (if w a1 < w (rI μ 1136 0) then true else false)
theorem i_Reg_hasAffiliate {l : Launch} {Γ : Gam} {g : Nat} {μ : Mem} {a1 : Int} : CT l Γ yX7_hasAffiliate cX7_hasAffiliate 2 (some .boolean) 0 0 0 0 [vr Γ 1, vi a1] g 175 μ (pE (vi (b2i (v_Reg_hasAffiliate a1 μ))) μ) := by
  refine SW.ct (by decide) (Nat.le_of_ble_eq_true rfl) ?_
  refine z_sub (lv' := [(0, vr Γ 1), (1, vi a1)]) [0, 1] rfl ?_
  have hv : v_Reg_hasAffiliate a1 μ = v_Reg_hasAffiliate a1 μ := rfl
  refine z_iload_n dX7_hasAffiliate_0 rfl 1 rfl ?_
  refine z_if_lt (tgt := 16) dX7_hasAffiliate_1 (by decide) (eq_ite hv) (fun hv => ?_) (fun hv => ?_)
  · refine z_iconst dX7_hasAffiliate_16 ?_
    exact z_zret (b := false) rfl dX7_hasAffiliate_17 rfl rfl rfl ⟨by first | (rw [hv]; done) | rfl, rfl⟩
  · refine z_iload_n dX7_hasAffiliate_4 rfl 1 rfl ?_
    refine z_rload_n dX7_hasAffiliate_5 rfl 0 rfl ?_
    refine z_getI (q := 1136) ff_7_8 dX7_hasAffiliate_6 kt_1 (Nat.le_of_ble_eq_true rfl) fl_X7_40 rfl ?_
    refine z_icmp_ge (tgt := 16) dX7_hasAffiliate_9 (by decide) (eq_ite hv) (fun hv => ?_) (fun hv => ?_)
    · refine z_iconst dX7_hasAffiliate_12 ?_
      refine z_goto (tgt := 17) dX7_hasAffiliate_13 (by decide) ?_
      exact z_zret (b := true) rfl dX7_hasAffiliate_17 rfl rfl rfl ⟨by first | (rw [hv]; done) | rfl, rfl⟩
    · refine z_iconst dX7_hasAffiliate_16 ?_
      exact z_zret (b := false) rfl dX7_hasAffiliate_17 rfl rfl rfl ⟨by first | (rw [hv]; done) | rfl, rfl⟩
abbrev Y_Reg_addBranch : Yt := (3, (some .int), yX7_addBranch.name, { frames := 1, cells := 0, slots := 0, locals := 22 }, 175, 0, 0)
def f_Reg_addBranch (a1 : Int) (a2 : Int) (μ : Mem) (k : Int → Mem → Prop) : Prop := if (v_Reg_hasAffiliate a1 μ) = true then (if w a2 < w 1 then (k (-1) μ) else (if w 999 < w a2 then (k (-1) μ) else (if w (rI μ 1137 0) < w 48 then (∀ μ_1 : Mem, μ_1 = set' μ 3 48 (rI μ 1137 0) a1 → ∀ μ_2 : Mem, μ_2 = set' μ_1 4 48 (rI μ_1 1137 0) a2 → ∀ μ_3 : Mem, μ_3 = sI μ_2 1137 0 ((rI μ_2 1137 0) + 1) → k ((rI μ_3 1137 0) - 1) μ_3) else (k (-1) μ)))) else (k (-1) μ)
theorem i_Reg_addBranch {l : Launch} {Γ : Gam} {g : Nat} {a1 : Int} {a2 : Int} {μ : Mem} {k : Int → Mem → Prop} (hs : StatR μ.2.2) (h : f_Reg_addBranch a1 a2 μ k) : CT l Γ yX7_addBranch cX7_addBranch 3 (some .int) 1 22 0 0 [vr Γ 1, vi a1, vi a2] g 175 μ (pI k) := by
  refine SW.ct (by decide) (Nat.le_of_ble_eq_true rfl) ?_
  refine z_sub (lv' := [(0, vr Γ 1), (1, vi a1), (2, vi a2)]) [0, 1, 2] rfl ?_
  show SW l Γ yX7_addBranch.cls cX7_addBranch Y_Reg_addBranch (pI k) g 175 0 0 μ 0 [(0, vr Γ 1), (1, vi a1), (2, vi a2)] []
  unfold f_Reg_addBranch at h
  refine z_rload_n dX7_addBranch_0 rfl 0 rfl ?_
  refine z_iload_n dX7_addBranch_1 rfl 1 rfl ?_
  refine z_VE (i_Reg_hasAffiliate ) vk_X7_hasAffiliate kt_1 (Nat.le_of_ble_eq_true rfl) rfl ml_X7_53 ⟨Nat.le_of_ble_eq_true rfl, Nat.le_of_ble_eq_true rfl⟩ ⟨Nat.zero_le _, Nat.zero_le _⟩ rfl rfl (Nat.le_of_ble_eq_true rfl) dX7_addBranch_2 ?_
  refine z_ifeq_b (tgt := 29) dX7_addBranch_5 (by decide) h (fun h => ?_) (fun h => ?_)
  · refine z_iload_n dX7_addBranch_8 rfl 2 rfl ?_
    refine z_iconst dX7_addBranch_9 ?_
    refine z_icmp_lt (tgt := 29) dX7_addBranch_10 (by decide) h (fun h => ?_) (fun h => ?_)
    · refine z_iconst dX7_addBranch_29 ?_
      exact z_iret rfl dX7_addBranch_30 rfl rfl rfl ⟨_, rfl, hs, h⟩
    · refine z_iload_n dX7_addBranch_13 rfl 2 rfl ?_
      refine z_sipush dX7_addBranch_14 (by decide) ?_
      refine z_icmp_gt (tgt := 29) dX7_addBranch_17 (by decide) h (fun h => ?_) (fun h => ?_)
      · refine z_iconst dX7_addBranch_29 ?_
        exact z_iret rfl dX7_addBranch_30 rfl rfl rfl ⟨_, rfl, hs, h⟩
      · refine z_rload_n dX7_addBranch_20 rfl 0 rfl ?_
        refine z_getI (q := 1137) ff_7_9 dX7_addBranch_21 kt_1 (Nat.le_of_ble_eq_true rfl) fl_X7_43 rfl ?_
        refine z_bipush dX7_addBranch_24 (by decide) ?_
        refine z_icmp_lt (tgt := 31) dX7_addBranch_26 (by decide) h (fun h => ?_) (fun h => ?_)
        · refine z_rload_n dX7_addBranch_31 rfl 0 rfl ?_
          refine z_getR (q := 1129) ff_7_1 dX7_addBranch_32 kt_1 (Nat.le_of_ble_eq_true rfl) fl_X7_15 rfl (hs.1 _ _ sr_1129) ?_
          refine z_rload_n dX7_addBranch_35 rfl 0 rfl ?_
          refine z_getI (q := 1137) ff_7_9 dX7_addBranch_36 kt_1 (Nat.le_of_ble_eq_true rfl) fl_X7_43 rfl ?_
          refine z_iload_n dX7_addBranch_39 rfl 1 rfl ?_
          refine z_NM (i_X11_set kt_3 (Nat.le_of_ble_eq_true rfl)) ok_X11_set nw_X7_49 ⟨Nat.le_of_ble_eq_true rfl, Nat.le_of_ble_eq_true rfl⟩ ⟨Nat.zero_le _, Nat.zero_le _⟩ rfl rfl (Nat.le_of_ble_eq_true rfl) dX7_addBranch_40 ?_
          refine z_mm (fun μ_1 eμ_1 => ?_)
          replace h := h μ_1 eμ_1
          replace hs : StatR μ_1.2.2 := by rw [eμ_1]; exact (StatR.set hs)
          refine z_rload_n dX7_addBranch_43 rfl 0 rfl ?_
          refine z_getR (q := 1130) ff_7_2 dX7_addBranch_44 kt_1 (Nat.le_of_ble_eq_true rfl) fl_X7_18 rfl (hs.1 _ _ sr_1130) ?_
          refine z_rload_n dX7_addBranch_47 rfl 0 rfl ?_
          refine z_getI (q := 1137) ff_7_9 dX7_addBranch_48 kt_1 (Nat.le_of_ble_eq_true rfl) fl_X7_43 rfl ?_
          refine z_iload_n dX7_addBranch_51 rfl 2 rfl ?_
          refine z_NM (i_X11_set kt_4 (Nat.le_of_ble_eq_true rfl)) ok_X11_set nw_X7_49 ⟨Nat.le_of_ble_eq_true rfl, Nat.le_of_ble_eq_true rfl⟩ ⟨Nat.zero_le _, Nat.zero_le _⟩ rfl rfl (Nat.le_of_ble_eq_true rfl) dX7_addBranch_52 ?_
          refine z_mm (fun μ_2 eμ_2 => ?_)
          replace h := h μ_2 eμ_2
          replace hs : StatR μ_2.2.2 := by rw [eμ_2]; exact (StatR.set hs)
          refine z_rload_n dX7_addBranch_55 rfl 0 rfl ?_
          refine z_dup dX7_addBranch_56 rfl ?_
          refine z_getI (q := 1137) ff_7_9 dX7_addBranch_57 kt_1 (Nat.le_of_ble_eq_true rfl) fl_X7_43 rfl ?_
          refine z_iconst dX7_addBranch_60 ?_
          refine z_iadd dX7_addBranch_61 ?_
          refine z_putI (q := 1137) ff_7_9 (Or.inl rfl) rfl dX7_addBranch_62 kt_1 (Nat.le_of_ble_eq_true rfl) fl_X7_43 rfl ?_
          refine z_mm (fun μ_3 eμ_3 => ?_)
          replace h := h μ_3 eμ_3
          replace hs : StatR μ_3.2.2 := by rw [eμ_3]; exact hs
          refine z_rload_n dX7_addBranch_65 rfl 0 rfl ?_
          refine z_getI (q := 1137) ff_7_9 dX7_addBranch_66 kt_1 (Nat.le_of_ble_eq_true rfl) fl_X7_43 rfl ?_
          refine z_iconst dX7_addBranch_69 ?_
          refine z_isub dX7_addBranch_70 ?_
          exact z_iret rfl dX7_addBranch_71 rfl rfl rfl ⟨_, rfl, hs, h⟩
        · refine z_iconst dX7_addBranch_29 ?_
          exact z_iret rfl dX7_addBranch_30 rfl rfl rfl ⟨_, rfl, hs, h⟩
  · refine z_iconst dX7_addBranch_29 ?_
    exact z_iret rfl dX7_addBranch_30 rfl rfl rfl ⟨_, rfl, hs, h⟩
abbrev Y_H_branch : Yt := (3, (some .int), yX11_branch.name, { frames := 2, cells := 0, slots := 0, locals := 44 }, 175, 0, 0)
def f_H_branch (a1 : Int) (a2 : Int) (μ : Mem) (k : Int → Mem → Prop) : Prop := f_Reg_addBranch a1 a2 μ (fun r6 μ_1 => k r6 μ_1)
theorem i_H_branch {l : Launch} {Γ : Gam} {g : Nat} {a1 : Int} {a2 : Int} {μ : Mem} {k : Int → Mem → Prop} (hs : StatR μ.2.2) (h : f_H_branch a1 a2 μ k) : CT l Γ yX11_branch cX11_branch 3 (some .int) 2 44 0 0 [vr Γ 0, vi a1, vi a2] g 175 μ (pI k) := by
  refine SW.ct (by decide) (Nat.le_of_ble_eq_true rfl) ?_
  refine z_sub (lv' := [(0, vr Γ 0), (1, vi a1), (2, vi a2)]) [0, 1, 2] rfl ?_
  show SW l Γ yX11_branch.cls cX11_branch Y_H_branch (pI k) g 175 0 0 μ 0 [(0, vr Γ 0), (1, vi a1), (2, vi a2)] []
  unfold f_H_branch at h
  refine z_rload_n dX11_branch_0 rfl 0 rfl ?_
  refine z_getR (q := 1000) ff_11_0 dX11_branch_1 kt_0 (Nat.le_of_ble_eq_true rfl) fl_X11_12 rfl (hs.1 _ _ sr_1000) ?_
  refine z_iload_n dX11_branch_4 rfl 1 rfl ?_
  refine z_iload_n dX11_branch_5 rfl 2 rfl ?_
  refine z_VI (i_Reg_addBranch  hs h) vk_X7_addBranch kt_1 (Nat.le_of_ble_eq_true rfl) rfl ml_X11_99 ⟨Nat.le_of_ble_eq_true rfl, Nat.le_of_ble_eq_true rfl⟩ ⟨Nat.zero_le _, Nat.zero_le _⟩ rfl rfl (Nat.le_of_ble_eq_true rfl) dX11_branch_6 (fun r6 μ_1 hs h => ?_)
  exact z_iret rfl dX11_branch_9 rfl rfl rfl ⟨_, rfl, hs, h⟩
abbrev Y_Reg_tell : Yt := (5, (some .boolean), yX7_tell.name, { frames := 1, cells := 0, slots := 0, locals := 22 }, 175, 0, 0)
def f_Reg_tell (a1 : Int) (a2 : Int) (a3 : Int) (a4 : Int) (μ : Mem) (k : Bool → Mem → Prop) : Prop := if w (rI μ 1138 0) < w 600 then (∀ μ_1 : Mem, μ_1 = set' μ 5 600 (rI μ 1138 0) a1 → ∀ μ_2 : Mem, μ_2 = set' μ_1 6 600 (rI μ_1 1138 0) a2 → ∀ μ_3 : Mem, μ_3 = set' μ_2 7 600 (rI μ_2 1138 0) a3 → ∀ μ_4 : Mem, μ_4 = set' μ_3 8 600 (rI μ_3 1138 0) (rI μ_3 1139 0) → ∀ μ_5 : Mem, μ_5 = set' μ_4 9 600 (rI μ_4 1138 0) a4 → ∀ μ_6 : Mem, μ_6 = sI μ_5 1138 0 ((rI μ_5 1138 0) + 1) → k true μ_6) else (k false μ)
theorem i_Reg_tell {l : Launch} {Γ : Gam} {g : Nat} {a1 : Int} {a2 : Int} {a3 : Int} {a4 : Int} {μ : Mem} {k : Bool → Mem → Prop} (hs : StatR μ.2.2) (h : f_Reg_tell a1 a2 a3 a4 μ k) : CT l Γ yX7_tell cX7_tell 5 (some .boolean) 1 22 0 0 [vr Γ 1, vi a1, vi a2, vi a3, vi a4] g 175 μ (pB k) := by
  refine SW.ct (by decide) (Nat.le_of_ble_eq_true rfl) ?_
  refine z_sub (lv' := [(0, vr Γ 1), (1, vi a1), (2, vi a2), (3, vi a3), (4, vi a4)]) [0, 1, 2, 3, 4] rfl ?_
  show SW l Γ yX7_tell.cls cX7_tell Y_Reg_tell (pB k) g 175 0 0 μ 0 [(0, vr Γ 1), (1, vi a1), (2, vi a2), (3, vi a3), (4, vi a4)] []
  unfold f_Reg_tell at h
  refine z_rload_n dX7_tell_0 rfl 0 rfl ?_
  refine z_getI (q := 1138) ff_7_10 dX7_tell_1 kt_1 (Nat.le_of_ble_eq_true rfl) fl_X7_61 rfl ?_
  refine z_sipush dX7_tell_4 (by decide) ?_
  refine z_icmp_lt (tgt := 12) dX7_tell_7 (by decide) h (fun h => ?_) (fun h => ?_)
  · refine z_rload_n dX7_tell_12 rfl 0 rfl ?_
    refine z_getR (q := 1131) ff_7_3 dX7_tell_13 kt_1 (Nat.le_of_ble_eq_true rfl) fl_X7_21 rfl (hs.1 _ _ sr_1131) ?_
    refine z_rload_n dX7_tell_16 rfl 0 rfl ?_
    refine z_getI (q := 1138) ff_7_10 dX7_tell_17 kt_1 (Nat.le_of_ble_eq_true rfl) fl_X7_61 rfl ?_
    refine z_iload_n dX7_tell_20 rfl 1 rfl ?_
    refine z_NM (i_X11_set kt_5 (Nat.le_of_ble_eq_true rfl)) ok_X11_set nw_X7_49 ⟨Nat.le_of_ble_eq_true rfl, Nat.le_of_ble_eq_true rfl⟩ ⟨Nat.zero_le _, Nat.zero_le _⟩ rfl rfl (Nat.le_of_ble_eq_true rfl) dX7_tell_21 ?_
    refine z_mm (fun μ_1 eμ_1 => ?_)
    replace h := h μ_1 eμ_1
    replace hs : StatR μ_1.2.2 := by rw [eμ_1]; exact (StatR.set hs)
    refine z_rload_n dX7_tell_24 rfl 0 rfl ?_
    refine z_getR (q := 1132) ff_7_4 dX7_tell_25 kt_1 (Nat.le_of_ble_eq_true rfl) fl_X7_24 rfl (hs.1 _ _ sr_1132) ?_
    refine z_rload_n dX7_tell_28 rfl 0 rfl ?_
    refine z_getI (q := 1138) ff_7_10 dX7_tell_29 kt_1 (Nat.le_of_ble_eq_true rfl) fl_X7_61 rfl ?_
    refine z_iload_n dX7_tell_32 rfl 2 rfl ?_
    refine z_NM (i_X11_set kt_6 (Nat.le_of_ble_eq_true rfl)) ok_X11_set nw_X7_49 ⟨Nat.le_of_ble_eq_true rfl, Nat.le_of_ble_eq_true rfl⟩ ⟨Nat.zero_le _, Nat.zero_le _⟩ rfl rfl (Nat.le_of_ble_eq_true rfl) dX7_tell_33 ?_
    refine z_mm (fun μ_2 eμ_2 => ?_)
    replace h := h μ_2 eμ_2
    replace hs : StatR μ_2.2.2 := by rw [eμ_2]; exact (StatR.set hs)
    refine z_rload_n dX7_tell_36 rfl 0 rfl ?_
    refine z_getR (q := 1133) ff_7_5 dX7_tell_37 kt_1 (Nat.le_of_ble_eq_true rfl) fl_X7_27 rfl (hs.1 _ _ sr_1133) ?_
    refine z_rload_n dX7_tell_40 rfl 0 rfl ?_
    refine z_getI (q := 1138) ff_7_10 dX7_tell_41 kt_1 (Nat.le_of_ble_eq_true rfl) fl_X7_61 rfl ?_
    refine z_iload_n dX7_tell_44 rfl 3 rfl ?_
    refine z_NM (i_X11_set kt_7 (Nat.le_of_ble_eq_true rfl)) ok_X11_set nw_X7_49 ⟨Nat.le_of_ble_eq_true rfl, Nat.le_of_ble_eq_true rfl⟩ ⟨Nat.zero_le _, Nat.zero_le _⟩ rfl rfl (Nat.le_of_ble_eq_true rfl) dX7_tell_45 ?_
    refine z_mm (fun μ_3 eμ_3 => ?_)
    replace h := h μ_3 eμ_3
    replace hs : StatR μ_3.2.2 := by rw [eμ_3]; exact (StatR.set hs)
    refine z_rload_n dX7_tell_48 rfl 0 rfl ?_
    refine z_getR (q := 1134) ff_7_6 dX7_tell_49 kt_1 (Nat.le_of_ble_eq_true rfl) fl_X7_30 rfl (hs.1 _ _ sr_1134) ?_
    refine z_rload_n dX7_tell_52 rfl 0 rfl ?_
    refine z_getI (q := 1138) ff_7_10 dX7_tell_53 kt_1 (Nat.le_of_ble_eq_true rfl) fl_X7_61 rfl ?_
    refine z_rload_n dX7_tell_56 rfl 0 rfl ?_
    refine z_getI (q := 1139) ff_7_11 dX7_tell_57 kt_1 (Nat.le_of_ble_eq_true rfl) fl_X7_46 rfl ?_
    refine z_NM (i_X11_set kt_8 (Nat.le_of_ble_eq_true rfl)) ok_X11_set nw_X7_49 ⟨Nat.le_of_ble_eq_true rfl, Nat.le_of_ble_eq_true rfl⟩ ⟨Nat.zero_le _, Nat.zero_le _⟩ rfl rfl (Nat.le_of_ble_eq_true rfl) dX7_tell_60 ?_
    refine z_mm (fun μ_4 eμ_4 => ?_)
    replace h := h μ_4 eμ_4
    replace hs : StatR μ_4.2.2 := by rw [eμ_4]; exact (StatR.set hs)
    refine z_rload_n dX7_tell_63 rfl 0 rfl ?_
    refine z_getR (q := 1135) ff_7_7 dX7_tell_64 kt_1 (Nat.le_of_ble_eq_true rfl) fl_X7_33 rfl (hs.1 _ _ sr_1135) ?_
    refine z_rload_n dX7_tell_67 rfl 0 rfl ?_
    refine z_getI (q := 1138) ff_7_10 dX7_tell_68 kt_1 (Nat.le_of_ble_eq_true rfl) fl_X7_61 rfl ?_
    refine z_iload dX7_tell_71 4 rfl ?_
    refine z_NM (i_X11_set kt_9 (Nat.le_of_ble_eq_true rfl)) ok_X11_set nw_X7_49 ⟨Nat.le_of_ble_eq_true rfl, Nat.le_of_ble_eq_true rfl⟩ ⟨Nat.zero_le _, Nat.zero_le _⟩ rfl rfl (Nat.le_of_ble_eq_true rfl) dX7_tell_73 ?_
    refine z_mm (fun μ_5 eμ_5 => ?_)
    replace h := h μ_5 eμ_5
    replace hs : StatR μ_5.2.2 := by rw [eμ_5]; exact (StatR.set hs)
    refine z_rload_n dX7_tell_76 rfl 0 rfl ?_
    refine z_dup dX7_tell_77 rfl ?_
    refine z_getI (q := 1138) ff_7_10 dX7_tell_78 kt_1 (Nat.le_of_ble_eq_true rfl) fl_X7_61 rfl ?_
    refine z_iconst dX7_tell_81 ?_
    refine z_iadd dX7_tell_82 ?_
    refine z_putI (q := 1138) ff_7_10 (Or.inl rfl) rfl dX7_tell_83 kt_1 (Nat.le_of_ble_eq_true rfl) fl_X7_61 rfl ?_
    refine z_mm (fun μ_6 eμ_6 => ?_)
    replace h := h μ_6 eμ_6
    replace hs : StatR μ_6.2.2 := by rw [eμ_6]; exact hs
    refine z_iconst dX7_tell_86 ?_
    exact z_zret (b := true) rfl dX7_tell_87 rfl rfl rfl ⟨_, rfl, hs, h⟩
  · refine z_iconst dX7_tell_10 ?_
    exact z_zret (b := false) rfl dX7_tell_11 rfl rfl rfl ⟨_, rfl, hs, h⟩
abbrev Y_H_heads : Yt := (3, (some .boolean), yX11_heads.name, { frames := 2, cells := 0, slots := 0, locals := 46 }, 175, 0, 0)
def f_H_heads (a1 : Int) (a2 : Int) (μ : Mem) (k : Bool → Mem → Prop) : Prop := if (v_Reg_hasAffiliate a1 μ) = true then (if w a2 < 0 then (k false μ) else (if w 9999 < w a2 then (k false μ) else (f_Reg_tell 0 a1 (-1) a2 μ (fun r30 μ_1 => ∀ x41 : Bool, x41 = (if r30 = true then true else false) → k x41 μ_1)))) else (k false μ)
theorem i_H_heads {l : Launch} {Γ : Gam} {g : Nat} {a1 : Int} {a2 : Int} {μ : Mem} {k : Bool → Mem → Prop} (hs : StatR μ.2.2) (h : f_H_heads a1 a2 μ k) : CT l Γ yX11_heads cX11_heads 3 (some .boolean) 2 46 0 0 [vr Γ 0, vi a1, vi a2] g 175 μ (pB k) := by
  refine SW.ct (by decide) (Nat.le_of_ble_eq_true rfl) ?_
  refine z_sub (lv' := [(0, vr Γ 0), (1, vi a1), (2, vi a2)]) [0, 1, 2] rfl ?_
  show SW l Γ yX11_heads.cls cX11_heads Y_H_heads (pB k) g 175 0 0 μ 0 [(0, vr Γ 0), (1, vi a1), (2, vi a2)] []
  unfold f_H_heads at h
  refine z_rload_n dX11_heads_0 rfl 0 rfl ?_
  refine z_getR (q := 1000) ff_11_0 dX11_heads_1 kt_0 (Nat.le_of_ble_eq_true rfl) fl_X11_12 rfl (hs.1 _ _ sr_1000) ?_
  refine z_iload_n dX11_heads_4 rfl 1 rfl ?_
  refine z_VE (i_Reg_hasAffiliate ) vk_X7_hasAffiliate kt_1 (Nat.le_of_ble_eq_true rfl) rfl ml_X11_103 ⟨Nat.le_of_ble_eq_true rfl, Nat.le_of_ble_eq_true rfl⟩ ⟨Nat.zero_le _, Nat.zero_le _⟩ rfl rfl (Nat.le_of_ble_eq_true rfl) dX11_heads_5 ?_
  refine z_ifeq_b (tgt := 40) dX11_heads_8 (by decide) h (fun h => ?_) (fun h => ?_)
  · refine z_iload_n dX11_heads_11 rfl 2 rfl ?_
    refine z_if_lt (tgt := 40) dX11_heads_12 (by decide) h (fun h => ?_) (fun h => ?_)
    · refine z_iconst dX11_heads_40 ?_
      exact z_zret (b := false) rfl dX11_heads_41 rfl rfl rfl ⟨_, rfl, hs, h⟩
    · refine z_iload_n dX11_heads_15 rfl 2 rfl ?_
      refine z_sipush dX11_heads_16 (by decide) ?_
      refine z_icmp_gt (tgt := 40) dX11_heads_19 (by decide) h (fun h => ?_) (fun h => ?_)
      · refine z_iconst dX11_heads_40 ?_
        exact z_zret (b := false) rfl dX11_heads_41 rfl rfl rfl ⟨_, rfl, hs, h⟩
      · refine z_rload_n dX11_heads_22 rfl 0 rfl ?_
        refine z_getR (q := 1000) ff_11_0 dX11_heads_23 kt_0 (Nat.le_of_ble_eq_true rfl) fl_X11_12 rfl (hs.1 _ _ sr_1000) ?_
        refine z_iconst dX11_heads_26 ?_
        refine z_iload_n dX11_heads_27 rfl 1 rfl ?_
        refine z_iconst dX11_heads_28 ?_
        refine z_iload_n dX11_heads_29 rfl 2 rfl ?_
        refine z_VB (i_Reg_tell  hs h) vk_X7_tell kt_1 (Nat.le_of_ble_eq_true rfl) rfl ml_X11_107 ⟨Nat.le_of_ble_eq_true rfl, Nat.le_of_ble_eq_true rfl⟩ ⟨Nat.zero_le _, Nat.zero_le _⟩ rfl rfl (Nat.le_of_ble_eq_true rfl) dX11_heads_30 (fun r30 μ_1 hs h => ?_)
        refine z_phiB 41 [] (fun V9 hv J9 => ?_) h (fun x41 h => ?_)
        · refine z_ifeq_b (tgt := 40) dX11_heads_33 (by decide) (eq_ite hv) (fun hv => ?_) (fun hv => ?_)
          · refine z_iconst dX11_heads_36 ?_
            refine z_goto (tgt := 41) dX11_heads_37 (by decide) ?_
            exact J9 true hv.symm
          · refine z_iconst dX11_heads_40 ?_
            exact J9 false hv.symm
        · exact z_zret (b := x41) rfl dX11_heads_41 rfl rfl rfl ⟨_, rfl, hs, h⟩
  · refine z_iconst dX11_heads_40 ?_
    exact z_zret (b := false) rfl dX11_heads_41 rfl rfl rfl ⟨_, rfl, hs, h⟩
abbrev Y_H_dues : Yt := (3, (some .boolean), yX11_dues.name, { frames := 2, cells := 0, slots := 0, locals := 46 }, 175, 0, 0)
def f_H_dues (a1 : Int) (a2 : Int) (μ : Mem) (k : Bool → Mem → Prop) : Prop := if (v_Reg_hasAffiliate a1 μ) = true then (if w a2 < 0 then (k false μ) else (if w 99999 < w a2 then (k false μ) else (f_Reg_tell 1 a1 (-1) a2 μ (fun r29 μ_1 => ∀ x40 : Bool, x40 = (if r29 = true then true else false) → k x40 μ_1)))) else (k false μ)
theorem i_H_dues {l : Launch} {Γ : Gam} {g : Nat} {a1 : Int} {a2 : Int} {μ : Mem} {k : Bool → Mem → Prop} (hs : StatR μ.2.2) (h : f_H_dues a1 a2 μ k) : CT l Γ yX11_dues cX11_dues 3 (some .boolean) 2 46 0 0 [vr Γ 0, vi a1, vi a2] g 175 μ (pB k) := by
  refine SW.ct (by decide) (Nat.le_of_ble_eq_true rfl) ?_
  refine z_sub (lv' := [(0, vr Γ 0), (1, vi a1), (2, vi a2)]) [0, 1, 2] rfl ?_
  show SW l Γ yX11_dues.cls cX11_dues Y_H_dues (pB k) g 175 0 0 μ 0 [(0, vr Γ 0), (1, vi a1), (2, vi a2)] []
  unfold f_H_dues at h
  refine z_rload_n dX11_dues_0 rfl 0 rfl ?_
  refine z_getR (q := 1000) ff_11_0 dX11_dues_1 kt_0 (Nat.le_of_ble_eq_true rfl) fl_X11_12 rfl (hs.1 _ _ sr_1000) ?_
  refine z_iload_n dX11_dues_4 rfl 1 rfl ?_
  refine z_VE (i_Reg_hasAffiliate ) vk_X7_hasAffiliate kt_1 (Nat.le_of_ble_eq_true rfl) rfl ml_X11_103 ⟨Nat.le_of_ble_eq_true rfl, Nat.le_of_ble_eq_true rfl⟩ ⟨Nat.zero_le _, Nat.zero_le _⟩ rfl rfl (Nat.le_of_ble_eq_true rfl) dX11_dues_5 ?_
  refine z_ifeq_b (tgt := 39) dX11_dues_8 (by decide) h (fun h => ?_) (fun h => ?_)
  · refine z_iload_n dX11_dues_11 rfl 2 rfl ?_
    refine z_if_lt (tgt := 39) dX11_dues_12 (by decide) h (fun h => ?_) (fun h => ?_)
    · refine z_iconst dX11_dues_39 ?_
      exact z_zret (b := false) rfl dX11_dues_40 rfl rfl rfl ⟨_, rfl, hs, h⟩
    · refine z_iload_n dX11_dues_15 rfl 2 rfl ?_
      refine z_ldc (x := 99999) dX11_dues_16 cs_X11_111 ?_
      refine z_icmp_gt (tgt := 39) dX11_dues_18 (by decide) h (fun h => ?_) (fun h => ?_)
      · refine z_iconst dX11_dues_39 ?_
        exact z_zret (b := false) rfl dX11_dues_40 rfl rfl rfl ⟨_, rfl, hs, h⟩
      · refine z_rload_n dX11_dues_21 rfl 0 rfl ?_
        refine z_getR (q := 1000) ff_11_0 dX11_dues_22 kt_0 (Nat.le_of_ble_eq_true rfl) fl_X11_12 rfl (hs.1 _ _ sr_1000) ?_
        refine z_iconst dX11_dues_25 ?_
        refine z_iload_n dX11_dues_26 rfl 1 rfl ?_
        refine z_iconst dX11_dues_27 ?_
        refine z_iload_n dX11_dues_28 rfl 2 rfl ?_
        refine z_VB (i_Reg_tell  hs h) vk_X7_tell kt_1 (Nat.le_of_ble_eq_true rfl) rfl ml_X11_107 ⟨Nat.le_of_ble_eq_true rfl, Nat.le_of_ble_eq_true rfl⟩ ⟨Nat.zero_le _, Nat.zero_le _⟩ rfl rfl (Nat.le_of_ble_eq_true rfl) dX11_dues_29 (fun r29 μ_1 hs h => ?_)
        refine z_phiB 40 [] (fun V9 hv J9 => ?_) h (fun x40 h => ?_)
        · refine z_ifeq_b (tgt := 39) dX11_dues_32 (by decide) (eq_ite hv) (fun hv => ?_) (fun hv => ?_)
          · refine z_iconst dX11_dues_35 ?_
            refine z_goto (tgt := 40) dX11_dues_36 (by decide) ?_
            exact J9 true hv.symm
          · refine z_iconst dX11_dues_39 ?_
            exact J9 false hv.symm
        · exact z_zret (b := x40) rfl dX11_dues_40 rfl rfl rfl ⟨_, rfl, hs, h⟩
  · refine z_iconst dX11_dues_39 ?_
    exact z_zret (b := false) rfl dX11_dues_40 rfl rfl rfl ⟨_, rfl, hs, h⟩
def v_Floor_stateOf (a1 : Int) (μ : Mem) : Int := if w a1 < 0 then (-1) else (if w a1 < w 210 then (at' μ 68 210 a1) else (-1))
theorem i_Floor_stateOf {l : Launch} {Γ : Gam} {g : Nat} {μ : Mem} {a1 : Int} (hs : StatR μ.2.2) : CT l Γ yX3_stateOf cX3_stateOf 2 (some .int) 1 21 0 0 [vr Γ 67, vi a1] g 175 μ (pE (vi (v_Floor_stateOf a1 μ)) μ) := by
  refine SW.ct (by decide) (Nat.le_of_ble_eq_true rfl) ?_
  refine z_sub (lv' := [(0, vr Γ 67), (1, vi a1)]) [0, 1] rfl ?_
  have hv : v_Floor_stateOf a1 μ = v_Floor_stateOf a1 μ := rfl
  refine z_iload_n dX3_stateOf_0 rfl 1 rfl ?_
  refine z_if_lt (tgt := 22) dX3_stateOf_1 (by decide) (eq_ite hv) (fun hv => ?_) (fun hv => ?_)
  · refine z_iconst dX3_stateOf_22 ?_
    exact z_iret rfl dX3_stateOf_23 rfl rfl rfl ⟨by first | (rw [hv]; done) | rfl, rfl⟩
  · refine z_iload_n dX3_stateOf_4 rfl 1 rfl ?_
    refine z_sipush dX3_stateOf_5 (by decide) ?_
    refine z_icmp_ge (tgt := 22) dX3_stateOf_8 (by decide) (eq_ite hv) (fun hv => ?_) (fun hv => ?_)
    · refine z_rload_n dX3_stateOf_11 rfl 0 rfl ?_
      refine z_getR (q := 9577) ff_3_1 dX3_stateOf_12 kt_67 (Nat.le_of_ble_eq_true rfl) fl_X3_9 rfl (hs.1 _ _ sr_9577) ?_
      refine z_iload_n dX3_stateOf_15 rfl 1 rfl ?_
      refine z_NE (i_X11_at kt_68 (Nat.le_of_ble_eq_true rfl)) ok_X11_at nw_X3_54 ⟨Nat.le_of_ble_eq_true rfl, Nat.le_of_ble_eq_true rfl⟩ ⟨Nat.zero_le _, Nat.zero_le _⟩ rfl rfl (Nat.le_of_ble_eq_true rfl) dX3_stateOf_16 ?_
      refine z_goto (tgt := 23) dX3_stateOf_19 (by decide) ?_
      exact z_iret rfl dX3_stateOf_23 rfl rfl rfl ⟨by first | (rw [hv]; done) | rfl, rfl⟩
    · refine z_iconst dX3_stateOf_22 ?_
      exact z_iret rfl dX3_stateOf_23 rfl rfl rfl ⟨by first | (rw [hv]; done) | rfl, rfl⟩
def v_Floor_has (a1 : Int) (μ : Mem) : Bool := if w (v_Floor_stateOf a1 μ) = w (-1) then false else true
theorem i_Floor_has {l : Launch} {Γ : Gam} {g : Nat} {μ : Mem} {a1 : Int} (hs : StatR μ.2.2) : CT l Γ yX3_has cX3_has 2 (some .boolean) 2 42 0 0 [vr Γ 67, vi a1] g 175 μ (pE (vi (b2i (v_Floor_has a1 μ))) μ) := by
  refine SW.ct (by decide) (Nat.le_of_ble_eq_true rfl) ?_
  refine z_sub (lv' := [(0, vr Γ 67), (1, vi a1)]) [0, 1] rfl ?_
  have hv : v_Floor_has a1 μ = v_Floor_has a1 μ := rfl
  refine z_rload_n dX3_has_0 rfl 0 rfl ?_
  refine z_iload_n dX3_has_1 rfl 1 rfl ?_
  refine z_VE (i_Floor_stateOf hs) vk_X3_stateOf kt_67 (Nat.le_of_ble_eq_true rfl) rfl ml_X3_50 ⟨Nat.le_of_ble_eq_true rfl, Nat.le_of_ble_eq_true rfl⟩ ⟨Nat.zero_le _, Nat.zero_le _⟩ rfl rfl (Nat.le_of_ble_eq_true rfl) dX3_has_2 ?_
  refine z_iconst dX3_has_5 ?_
  refine z_icmp_eq (tgt := 13) dX3_has_6 (by decide) (eq_ite hv) (fun hv => ?_) (fun hv => ?_)
  · refine z_iconst dX3_has_13 ?_
    exact z_zret (b := false) rfl dX3_has_14 rfl rfl rfl ⟨by first | (rw [hv]; done) | rfl, rfl⟩
  · refine z_iconst dX3_has_9 ?_
    refine z_goto (tgt := 14) dX3_has_10 (by decide) ?_
    exact z_zret (b := true) rfl dX3_has_14 rfl rfl rfl ⟨by first | (rw [hv]; done) | rfl, rfl⟩
def v_Reg_hasBranch (a1 : Int) (μ : Mem) : Bool := if w a1 < 0 then false else (if w a1 < w (rI μ 1137 0) then true else false)
theorem i_Reg_hasBranch {l : Launch} {Γ : Gam} {g : Nat} {μ : Mem} {a1 : Int} : CT l Γ yX7_hasBranch cX7_hasBranch 2 (some .boolean) 0 0 0 0 [vr Γ 1, vi a1] g 175 μ (pE (vi (b2i (v_Reg_hasBranch a1 μ))) μ) := by
  refine SW.ct (by decide) (Nat.le_of_ble_eq_true rfl) ?_
  refine z_sub (lv' := [(0, vr Γ 1), (1, vi a1)]) [0, 1] rfl ?_
  have hv : v_Reg_hasBranch a1 μ = v_Reg_hasBranch a1 μ := rfl
  refine z_iload_n dX7_hasBranch_0 rfl 1 rfl ?_
  refine z_if_lt (tgt := 16) dX7_hasBranch_1 (by decide) (eq_ite hv) (fun hv => ?_) (fun hv => ?_)
  · refine z_iconst dX7_hasBranch_16 ?_
    exact z_zret (b := false) rfl dX7_hasBranch_17 rfl rfl rfl ⟨by first | (rw [hv]; done) | rfl, rfl⟩
  · refine z_iload_n dX7_hasBranch_4 rfl 1 rfl ?_
    refine z_rload_n dX7_hasBranch_5 rfl 0 rfl ?_
    refine z_getI (q := 1137) ff_7_9 dX7_hasBranch_6 kt_1 (Nat.le_of_ble_eq_true rfl) fl_X7_43 rfl ?_
    refine z_icmp_ge (tgt := 16) dX7_hasBranch_9 (by decide) (eq_ite hv) (fun hv => ?_) (fun hv => ?_)
    · refine z_iconst dX7_hasBranch_12 ?_
      refine z_goto (tgt := 17) dX7_hasBranch_13 (by decide) ?_
      exact z_zret (b := true) rfl dX7_hasBranch_17 rfl rfl rfl ⟨by first | (rw [hv]; done) | rfl, rfl⟩
    · refine z_iconst dX7_hasBranch_16 ?_
      exact z_zret (b := false) rfl dX7_hasBranch_17 rfl rfl rfl ⟨by first | (rw [hv]; done) | rfl, rfl⟩
abbrev Y_H_mandate : Yt := (4, (some .boolean), yX11_mandate.name, { frames := 3, cells := 0, slots := 0, locals := 63 }, 175, 0, 0)
def f_H_mandate (a1 : Int) (a2 : Int) (a3 : Int) (μ : Mem) (k : Bool → Mem → Prop) : Prop := if (v_Reg_hasBranch a1 μ) = true then (if (v_Floor_has a2 μ) = true then (if w a3 < 0 then (k false μ) else (if w 2 < w a3 then (k false μ) else (f_Reg_tell 2 a1 a2 a3 μ (fun r39 μ_1 => ∀ x50 : Bool, x50 = (if r39 = true then true else false) → k x50 μ_1)))) else (k false μ)) else (k false μ)
theorem i_H_mandate {l : Launch} {Γ : Gam} {g : Nat} {a1 : Int} {a2 : Int} {a3 : Int} {μ : Mem} {k : Bool → Mem → Prop} (hs : StatR μ.2.2) (h : f_H_mandate a1 a2 a3 μ k) : CT l Γ yX11_mandate cX11_mandate 4 (some .boolean) 3 63 0 0 [vr Γ 0, vi a1, vi a2, vi a3] g 175 μ (pB k) := by
  refine SW.ct (by decide) (Nat.le_of_ble_eq_true rfl) ?_
  refine z_sub (lv' := [(0, vr Γ 0), (1, vi a1), (2, vi a2), (3, vi a3)]) [0, 1, 2, 3] rfl ?_
  show SW l Γ yX11_mandate.cls cX11_mandate Y_H_mandate (pB k) g 175 0 0 μ 0 [(0, vr Γ 0), (1, vi a1), (2, vi a2), (3, vi a3)] []
  unfold f_H_mandate at h
  refine z_rload_n dX11_mandate_0 rfl 0 rfl ?_
  refine z_getR (q := 1000) ff_11_0 dX11_mandate_1 kt_0 (Nat.le_of_ble_eq_true rfl) fl_X11_12 rfl (hs.1 _ _ sr_1000) ?_
  refine z_iload_n dX11_mandate_4 rfl 1 rfl ?_
  refine z_VE (i_Reg_hasBranch ) vk_X7_hasBranch kt_1 (Nat.le_of_ble_eq_true rfl) rfl ml_X11_112 ⟨Nat.le_of_ble_eq_true rfl, Nat.le_of_ble_eq_true rfl⟩ ⟨Nat.zero_le _, Nat.zero_le _⟩ rfl rfl (Nat.le_of_ble_eq_true rfl) dX11_mandate_5 ?_
  refine z_ifeq_b (tgt := 49) dX11_mandate_8 (by decide) h (fun h => ?_) (fun h => ?_)
  · refine z_rload_n dX11_mandate_11 rfl 0 rfl ?_
    refine z_getR (q := 1005) ff_11_5 dX11_mandate_12 kt_0 (Nat.le_of_ble_eq_true rfl) fl_X11_57 rfl (hs.1 _ _ sr_1005) ?_
    refine z_iload_n dX11_mandate_15 rfl 2 rfl ?_
    refine z_VE (i_Floor_has hs) vk_X3_has kt_67 (Nat.le_of_ble_eq_true rfl) rfl ml_X11_115 ⟨Nat.le_of_ble_eq_true rfl, Nat.le_of_ble_eq_true rfl⟩ ⟨Nat.zero_le _, Nat.zero_le _⟩ rfl rfl (Nat.le_of_ble_eq_true rfl) dX11_mandate_16 ?_
    refine z_ifeq_b (tgt := 49) dX11_mandate_19 (by decide) h (fun h => ?_) (fun h => ?_)
    · refine z_iload_n dX11_mandate_22 rfl 3 rfl ?_
      refine z_if_lt (tgt := 49) dX11_mandate_23 (by decide) h (fun h => ?_) (fun h => ?_)
      · refine z_iconst dX11_mandate_49 ?_
        exact z_zret (b := false) rfl dX11_mandate_50 rfl rfl rfl ⟨_, rfl, hs, h⟩
      · refine z_iload_n dX11_mandate_26 rfl 3 rfl ?_
        refine z_iconst dX11_mandate_27 ?_
        refine z_icmp_gt (tgt := 49) dX11_mandate_28 (by decide) h (fun h => ?_) (fun h => ?_)
        · refine z_iconst dX11_mandate_49 ?_
          exact z_zret (b := false) rfl dX11_mandate_50 rfl rfl rfl ⟨_, rfl, hs, h⟩
        · refine z_rload_n dX11_mandate_31 rfl 0 rfl ?_
          refine z_getR (q := 1000) ff_11_0 dX11_mandate_32 kt_0 (Nat.le_of_ble_eq_true rfl) fl_X11_12 rfl (hs.1 _ _ sr_1000) ?_
          refine z_iconst dX11_mandate_35 ?_
          refine z_iload_n dX11_mandate_36 rfl 1 rfl ?_
          refine z_iload_n dX11_mandate_37 rfl 2 rfl ?_
          refine z_iload_n dX11_mandate_38 rfl 3 rfl ?_
          refine z_VB (i_Reg_tell  hs h) vk_X7_tell kt_1 (Nat.le_of_ble_eq_true rfl) rfl ml_X11_107 ⟨Nat.le_of_ble_eq_true rfl, Nat.le_of_ble_eq_true rfl⟩ ⟨Nat.zero_le _, Nat.zero_le _⟩ rfl rfl (Nat.le_of_ble_eq_true rfl) dX11_mandate_39 (fun r39 μ_1 hs h => ?_)
          refine z_phiB 50 [] (fun V9 hv J9 => ?_) h (fun x50 h => ?_)
          · refine z_ifeq_b (tgt := 49) dX11_mandate_42 (by decide) (eq_ite hv) (fun hv => ?_) (fun hv => ?_)
            · refine z_iconst dX11_mandate_45 ?_
              refine z_goto (tgt := 50) dX11_mandate_46 (by decide) ?_
              exact J9 true hv.symm
            · refine z_iconst dX11_mandate_49 ?_
              exact J9 false hv.symm
          · exact z_zret (b := x50) rfl dX11_mandate_50 rfl rfl rfl ⟨_, rfl, hs, h⟩
    · refine z_iconst dX11_mandate_49 ?_
      exact z_zret (b := false) rfl dX11_mandate_50 rfl rfl rfl ⟨_, rfl, hs, h⟩
  · refine z_iconst dX11_mandate_49 ?_
    exact z_zret (b := false) rfl dX11_mandate_50 rfl rfl rfl ⟨_, rfl, hs, h⟩
abbrev Y_Count_mandateOf : Yt := (4, (some .int), yX2_mandateOf.name, { frames := 1, cells := 0, slots := 0, locals := 21 }, 175, 0, 0)
def l_Count_mandateOf_4 (a1 : Int) (μ : Mem) (X_4_89 : Int → Prop) : Nat → Int → Int → Prop
  | 0, _, _ => False
  | fu4 + 1, v2, v3 => if w v3 < w (rI μ 1137 0) then (if w (at' μ 3 48 v3) = w a1 then (if w (at' μ 77 48 v3) = w 2 then ((l_Count_mandateOf_4 a1 μ X_4_89 fu4) v2 (v3 + 1)) else (∀ x81 : Int, x81 = (if w (at' μ 77 48 v3) = w 1 then (at' μ 4 48 v3) else (-(at' μ 4 48 v3))) → ∀ v2_1 : Int, v2_1 = v2 + x81 → (l_Count_mandateOf_4 a1 μ X_4_89 fu4) v2_1 (v3 + 1))) else ((l_Count_mandateOf_4 a1 μ X_4_89 fu4) v2 (v3 + 1))) else (X_4_89 v2)
def f_Count_mandateOf (a1 : Int) (μ : Mem) (k : Int → Mem → Prop) : Prop := ∃ m4 : Nat, l_Count_mandateOf_4 a1 μ (fun (v2_2 : Int) => ∀ x106 : Int, x106 = (if 0 < w v2_2 then 1 else (if w v2_2 < 0 then 0 else 2)) → k x106 μ) m4 0 0
theorem L_Count_mandateOf_4 {l : Launch} {Γ : Gam} {g : Nat} {a1 : Int} {μ : Mem} {X_4_89 : Int → Prop} {k : Int → Mem → Prop} (hs : StatR μ.2.2) (hX_4_89 : ∀ (u2 : Int), X_4_89 u2 → SW l Γ yX2_mandateOf.cls cX2_mandateOf Y_Count_mandateOf (pI k) g 175 0 0 μ 89 [(2, vi u2)] []) (n9 : Nat) : ∀ (v2 : Int) (v3 : Int), l_Count_mandateOf_4 a1 μ X_4_89 n9 v2 v3 → SW l Γ yX2_mandateOf.cls cX2_mandateOf Y_Count_mandateOf (pI k) g 175 0 0 μ 4 [(0, vr Γ 73), (1, vi a1), (2, vi v2), (3, vi v3)] [] := by
  induction n9 with
  | zero =>
    intro v2 v3 h
    exact h.elim
  | succ n9 hR_4 =>
    intro v2 v3 h
    rw [l_Count_mandateOf_4] at h
    refine z_iload_n dX2_mandateOf_4 rfl 3 rfl ?_
    refine z_rload_n dX2_mandateOf_5 rfl 0 rfl ?_
    refine z_getR (q := 10344) ff_2_0 dX2_mandateOf_6 kt_73 (Nat.le_of_ble_eq_true rfl) fl_X2_42 rfl (hs.1 _ _ sr_10344) ?_
    refine z_getI (q := 1137) ff_7_9 dX2_mandateOf_9 kt_1 (Nat.le_of_ble_eq_true rfl) fl_X2_90 rfl ?_
    refine z_icmp_ge (tgt := 89) dX2_mandateOf_12 (by decide) h (fun h => ?_) (fun h => ?_)
    · refine z_rload_n dX2_mandateOf_15 rfl 0 rfl ?_
      refine z_getR (q := 10344) ff_2_0 dX2_mandateOf_16 kt_73 (Nat.le_of_ble_eq_true rfl) fl_X2_42 rfl (hs.1 _ _ sr_10344) ?_
      refine z_getR (q := 1129) ff_7_1 dX2_mandateOf_19 kt_1 (Nat.le_of_ble_eq_true rfl) fl_X2_93 rfl (hs.1 _ _ sr_1129) ?_
      refine z_iload_n dX2_mandateOf_22 rfl 3 rfl ?_
      refine z_NE (i_X11_at kt_3 (Nat.le_of_ble_eq_true rfl)) ok_X11_at nw_X2_59 ⟨Nat.le_of_ble_eq_true rfl, Nat.le_of_ble_eq_true rfl⟩ ⟨Nat.zero_le _, Nat.zero_le _⟩ rfl rfl (Nat.le_of_ble_eq_true rfl) dX2_mandateOf_23 ?_
      refine z_iload_n dX2_mandateOf_26 rfl 1 rfl ?_
      refine z_icmp_ne (tgt := 83) dX2_mandateOf_27 (by decide) h (fun h => ?_) (fun h => ?_)
      · refine z_rload_n dX2_mandateOf_30 rfl 0 rfl ?_
        refine z_getR (q := 10348) ff_2_4 dX2_mandateOf_31 kt_73 (Nat.le_of_ble_eq_true rfl) fl_X2_21 rfl (hs.1 _ _ sr_10348) ?_
        refine z_iload_n dX2_mandateOf_34 rfl 3 rfl ?_
        refine z_NE (i_X11_at kt_77 (Nat.le_of_ble_eq_true rfl)) ok_X11_at nw_X2_59 ⟨Nat.le_of_ble_eq_true rfl, Nat.le_of_ble_eq_true rfl⟩ ⟨Nat.zero_le _, Nat.zero_le _⟩ rfl rfl (Nat.le_of_ble_eq_true rfl) dX2_mandateOf_35 ?_
        refine z_iconst dX2_mandateOf_38 ?_
        refine z_icmp_eq (tgt := 83) dX2_mandateOf_39 (by decide) h (fun h => ?_) (fun h => ?_)
        · refine z_iinc (j := 3) (lv' := [(3, vi (v3 + 1)), (0, vr Γ 73), (1, vi a1), (2, vi v2)]) dX2_mandateOf_83 rfl (Nat.le_of_ble_eq_true rfl) rfl ?_
          refine z_goto (tgt := 4) dX2_mandateOf_86 (by decide) ?_
          refine z_sub (lv' := [(0, vr Γ 73), (1, vi a1), (2, vi v2), (3, vi (v3 + 1))]) [1, 2, 3, 0] rfl ?_
          exact hR_4 v2 (v3 + 1) h
        · refine z_iload_n dX2_mandateOf_42 rfl 2 rfl ?_
          refine z_rload_n dX2_mandateOf_43 rfl 0 rfl ?_
          refine z_getR (q := 10348) ff_2_4 dX2_mandateOf_44 kt_73 (Nat.le_of_ble_eq_true rfl) fl_X2_21 rfl (hs.1 _ _ sr_10348) ?_
          refine z_iload_n dX2_mandateOf_47 rfl 3 rfl ?_
          refine z_NE (i_X11_at kt_77 (Nat.le_of_ble_eq_true rfl)) ok_X11_at nw_X2_59 ⟨Nat.le_of_ble_eq_true rfl, Nat.le_of_ble_eq_true rfl⟩ ⟨Nat.zero_le _, Nat.zero_le _⟩ rfl rfl (Nat.le_of_ble_eq_true rfl) dX2_mandateOf_48 ?_
          refine z_iconst dX2_mandateOf_51 ?_
          refine z_phi 81 [vi v2] (fun V9 hv J9 => ?_) h (fun x81 h => ?_)
          · refine z_icmp_ne (tgt := 69) dX2_mandateOf_52 (by decide) (eq_ite hv) (fun hv => ?_) (fun hv => ?_)
            · refine z_rload_n dX2_mandateOf_55 rfl 0 rfl ?_
              refine z_getR (q := 10344) ff_2_0 dX2_mandateOf_56 kt_73 (Nat.le_of_ble_eq_true rfl) fl_X2_42 rfl (hs.1 _ _ sr_10344) ?_
              refine z_getR (q := 1130) ff_7_2 dX2_mandateOf_59 kt_1 (Nat.le_of_ble_eq_true rfl) fl_X2_96 rfl (hs.1 _ _ sr_1130) ?_
              refine z_iload_n dX2_mandateOf_62 rfl 3 rfl ?_
              refine z_NE (i_X11_at kt_4 (Nat.le_of_ble_eq_true rfl)) ok_X11_at nw_X2_59 ⟨Nat.le_of_ble_eq_true rfl, Nat.le_of_ble_eq_true rfl⟩ ⟨Nat.zero_le _, Nat.zero_le _⟩ rfl rfl (Nat.le_of_ble_eq_true rfl) dX2_mandateOf_63 ?_
              refine z_goto (tgt := 81) dX2_mandateOf_66 (by decide) ?_
              exact J9 _ hv.symm
            · refine z_rload_n dX2_mandateOf_69 rfl 0 rfl ?_
              refine z_getR (q := 10344) ff_2_0 dX2_mandateOf_70 kt_73 (Nat.le_of_ble_eq_true rfl) fl_X2_42 rfl (hs.1 _ _ sr_10344) ?_
              refine z_getR (q := 1130) ff_7_2 dX2_mandateOf_73 kt_1 (Nat.le_of_ble_eq_true rfl) fl_X2_96 rfl (hs.1 _ _ sr_1130) ?_
              refine z_iload_n dX2_mandateOf_76 rfl 3 rfl ?_
              refine z_NE (i_X11_at kt_4 (Nat.le_of_ble_eq_true rfl)) ok_X11_at nw_X2_59 ⟨Nat.le_of_ble_eq_true rfl, Nat.le_of_ble_eq_true rfl⟩ ⟨Nat.zero_le _, Nat.zero_le _⟩ rfl rfl (Nat.le_of_ble_eq_true rfl) dX2_mandateOf_77 ?_
              refine z_ineg dX2_mandateOf_80 ?_
              exact J9 _ hv.symm
          · refine z_iadd dX2_mandateOf_81 ?_
            refine z_nm (fun v2_1 ev2_1 => ?_)
            replace h := h v2_1 ev2_1
            refine z_istore_n (lv' := [(2, vi v2_1), (0, vr Γ 73), (1, vi a1), (3, vi v3)]) dX2_mandateOf_82 rfl (Nat.le_of_ble_eq_true rfl) rfl ?_
            refine z_iinc (j := 3) (lv' := [(3, vi (v3 + 1)), (2, vi v2_1), (0, vr Γ 73), (1, vi a1)]) dX2_mandateOf_83 rfl (Nat.le_of_ble_eq_true rfl) rfl ?_
            refine z_goto (tgt := 4) dX2_mandateOf_86 (by decide) ?_
            refine z_sub (lv' := [(0, vr Γ 73), (1, vi a1), (2, vi v2_1), (3, vi (v3 + 1))]) [2, 3, 1, 0] rfl ?_
            exact hR_4 v2_1 (v3 + 1) h
      · refine z_iinc (j := 3) (lv' := [(3, vi (v3 + 1)), (0, vr Γ 73), (1, vi a1), (2, vi v2)]) dX2_mandateOf_83 rfl (Nat.le_of_ble_eq_true rfl) rfl ?_
        refine z_goto (tgt := 4) dX2_mandateOf_86 (by decide) ?_
        refine z_sub (lv' := [(0, vr Γ 73), (1, vi a1), (2, vi v2), (3, vi (v3 + 1))]) [1, 2, 3, 0] rfl ?_
        exact hR_4 v2 (v3 + 1) h
    · refine z_sub (lv' := [(2, vi v2)]) [2] rfl ?_
      exact hX_4_89 v2 h
theorem i_Count_mandateOf {l : Launch} {Γ : Gam} {g : Nat} {a1 : Int} {μ : Mem} {k : Int → Mem → Prop} (hs : StatR μ.2.2) (h : f_Count_mandateOf a1 μ k) : CT l Γ yX2_mandateOf cX2_mandateOf 4 (some .int) 1 21 0 0 [vr Γ 73, vi a1] g 175 μ (pI k) := by
  refine SW.ct (by decide) (Nat.le_of_ble_eq_true rfl) ?_
  refine z_sub (lv' := [(0, vr Γ 73), (1, vi a1)]) [0, 1] rfl ?_
  show SW l Γ yX2_mandateOf.cls cX2_mandateOf Y_Count_mandateOf (pI k) g 175 0 0 μ 0 [(0, vr Γ 73), (1, vi a1)] []
  unfold f_Count_mandateOf at h
  refine z_iconst dX2_mandateOf_0 ?_
  refine z_istore_n (lv' := [(2, vi 0), (0, vr Γ 73), (1, vi a1)]) dX2_mandateOf_1 rfl (Nat.le_of_ble_eq_true rfl) rfl ?_
  refine z_iconst dX2_mandateOf_2 ?_
  refine z_istore_n (lv' := [(3, vi 0), (2, vi 0), (0, vr Γ 73), (1, vi a1)]) dX2_mandateOf_3 rfl (Nat.le_of_ble_eq_true rfl) rfl ?_
  obtain ⟨m4, h⟩ := h
  refine z_sub (lv' := [(0, vr Γ 73), (1, vi a1), (2, vi 0), (3, vi 0)]) [2, 3, 1, 0] rfl ?_
  refine L_Count_mandateOf_4 hs (fun v2_2 h => ?_) m4 0 0 h
  refine z_iload_n dX2_mandateOf_89 rfl 0 rfl ?_
  refine z_phi 106 [] (fun V9 hv J9 => ?_) h (fun x106 h => ?_)
  · refine z_if_le (tgt := 97) dX2_mandateOf_90 (by decide) (eq_ite hv) (fun hv => ?_) (fun hv => ?_)
    · refine z_iconst dX2_mandateOf_93 ?_
      refine z_goto (tgt := 106) dX2_mandateOf_94 (by decide) ?_
      exact J9 _ hv.symm
    · refine z_iload_n dX2_mandateOf_97 rfl 0 rfl ?_
      refine z_if_ge (tgt := 105) dX2_mandateOf_98 (by decide) (eq_ite hv) (fun hv => ?_) (fun hv => ?_)
      · refine z_iconst dX2_mandateOf_101 ?_
        refine z_goto (tgt := 106) dX2_mandateOf_102 (by decide) ?_
        exact J9 _ hv.symm
      · refine z_iconst dX2_mandateOf_105 ?_
        exact J9 _ hv.symm
  · exact z_iret rfl dX2_mandateOf_106 rfl rfl rfl ⟨_, rfl, hs, h⟩
abbrev Y_H_fill : Yt := (3, none, yX11_fill.name, { frames := 0, cells := 0, slots := 0, locals := 0 }, 175, 0, 0)
def l_H_fill_2 (a1 : Nat) (n1 : Nat) (a2 : Int) (X_2_18 : Mem → Prop) : Nat → Int → Mem → Prop
  | 0, _, _ => False
  | fu2 + 1, v2, μ_1 => if w v2 < w ((n1 : Nat) : Int) then (0 ≤ w v2 ∧ w v2 < ((n1 : Nat) : Int) ∧ ∀ μ_2 : Mem, μ_2 = sI μ_1 a1 (w v2) a2 → (l_H_fill_2 a1 n1 a2 X_2_18 fu2) (v2 + 1) μ_2) else (X_2_18 μ_1)
def f_H_fill (a1 n1 : Nat) (a2 : Int) (μ : Mem) (k : Mem → Prop) : Prop := ∃ m2 : Nat, l_H_fill_2 a1 n1 a2 (fun (μ_3 : Mem) => k μ_3) m2 0 μ
theorem L_H_fill_2 {l : Launch} {Γ : Gam} {g : Nat} {a1 : Nat} {n1 : Nat} {a2 : Int} {X_2_18 : Mem → Prop} {k : Mem → Prop} (ka1 : KT a1 = (1, n1)) (la1 : a1 < 175) (hX_2_18 : ∀ (ν : Mem), StatR ν.2.2 → X_2_18 ν → SW l Γ yX11_fill.cls cX11_fill Y_H_fill (pV k) g 175 0 0 ν 18 [] []) (n9 : Nat) : ∀ (v2 : Int) (μ_1 : Mem), StatR μ_1.2.2 → l_H_fill_2 a1 n1 a2 X_2_18 n9 v2 μ_1 → SW l Γ yX11_fill.cls cX11_fill Y_H_fill (pV k) g 175 0 0 μ_1 2 [(0, vr Γ a1), (1, vi a2), (2, vi v2)] [] := by
  induction n9 with
  | zero =>
    intro v2 μ_1 hs h
    exact h.elim
  | succ n9 hR_2 =>
    intro v2 μ_1 hs h
    rw [l_H_fill_2] at h
    refine z_iload_n dX11_fill_2 rfl 2 rfl ?_
    refine z_rload_n dX11_fill_3 rfl 0 rfl ?_
    refine z_alen dX11_fill_4 ka1 (by decide) la1 ?_
    refine z_icmp_ge (tgt := 18) dX11_fill_5 (by decide) h (fun h => ?_) (fun h => ?_)
    · refine z_rload_n dX11_fill_8 rfl 0 rfl ?_
      refine z_iload_n dX11_fill_9 rfl 2 rfl ?_
      refine z_iload_n dX11_fill_10 rfl 1 rfl ?_
      obtain ⟨h0, h1, h⟩ := h
      refine z_iast dX11_fill_11 ka1 la1 h0 h1 ?_
      refine z_mm (fun μ_2 eμ_2 => ?_)
      replace h := h μ_2 eμ_2
      replace hs : StatR μ_2.2.2 := by rw [eμ_2]; exact hs
      refine z_iinc (j := 2) (lv' := [(2, vi (v2 + 1)), (0, vr Γ a1), (1, vi a2)]) dX11_fill_12 rfl (Nat.le_of_ble_eq_true rfl) rfl ?_
      refine z_goto (tgt := 2) dX11_fill_15 (by decide) ?_
      refine z_sub (lv' := [(0, vr Γ a1), (1, vi a2), (2, vi (v2 + 1))]) [1, 2, 0] rfl ?_
      exact hR_2 (v2 + 1) μ_2 hs h
    · refine z_sub (lv' := []) [] rfl ?_
      exact hX_2_18 μ_1 hs h
theorem i_H_fill {l : Launch} {Γ : Gam} {g : Nat} {a1 n1 : Nat} {a2 : Int} {μ : Mem} {k : Mem → Prop} (ka1 : KT a1 = (1, n1)) (la1 : a1 < 175) (hs : StatR μ.2.2) (h : f_H_fill a1 n1 a2 μ k) : CT l Γ yX11_fill cX11_fill 3 none 0 0 0 0 [vr Γ a1, vi a2] g 175 μ (pV k) := by
  refine SW.ct (by decide) (Nat.le_of_ble_eq_true rfl) ?_
  refine z_sub (lv' := [(0, vr Γ a1), (1, vi a2)]) [0, 1] rfl ?_
  show SW l Γ yX11_fill.cls cX11_fill Y_H_fill (pV k) g 175 0 0 μ 0 [(0, vr Γ a1), (1, vi a2)] []
  unfold f_H_fill at h
  refine z_iconst dX11_fill_0 ?_
  refine z_istore_n (lv' := [(2, vi 0), (0, vr Γ a1), (1, vi a2)]) dX11_fill_1 rfl (Nat.le_of_ble_eq_true rfl) rfl ?_
  obtain ⟨m2, h⟩ := h
  refine z_sub (lv' := [(0, vr Γ a1), (1, vi a2), (2, vi 0)]) [1, 2, 0] rfl ?_
  refine L_H_fill_2 ka1 la1 (fun μ_3 hs h => ?_) m2 0 μ hs h
  exact z_vret rfl dX11_fill_18 rfl rfl rfl ⟨rfl, hs, h⟩
abbrev Y_Count_takeTelling : Yt := (5, none, yX2_takeTelling.name, { frames := 1, cells := 0, slots := 0, locals := 22 }, 175, 0, 0)
def f_Count_takeTelling (a1 : Int) (a2 : Int) (μ : Mem) (k : Mem → Prop) : Prop := ∀ v3 : Int, v3 = at' μ 6 600 a1 → ∀ v4 : Int, v4 = at' μ 9 600 a1 → if w (at' μ 5 600 a1) = 0 then (∀ μ_1 : Mem, μ_1 = set' μ 74 12 v3 v4 → k μ_1) else (if w (at' μ 5 600 a1) = 1 then (∀ μ_2 : Mem, μ_2 = set' μ 75 12 v3 v4 → k μ_2) else (if w (at' μ 7 600 a1) = w a2 then (if w (at' μ 5 600 a1) = w 3 then (∀ μ_3 : Mem, μ_3 = set' μ 76 12 v3 v4 → k μ_3) else (∀ μ_4 : Mem, μ_4 = set' μ 77 48 v3 v4 → k μ_4)) else (k μ)))
theorem i_Count_takeTelling {l : Launch} {Γ : Gam} {g : Nat} {a1 : Int} {a2 : Int} {μ : Mem} {k : Mem → Prop} (hs : StatR μ.2.2) (h : f_Count_takeTelling a1 a2 μ k) : CT l Γ yX2_takeTelling cX2_takeTelling 5 none 1 22 0 0 [vr Γ 73, vi a1, vi a2] g 175 μ (pV k) := by
  refine SW.ct (by decide) (Nat.le_of_ble_eq_true rfl) ?_
  refine z_sub (lv' := [(0, vr Γ 73), (1, vi a1), (2, vi a2)]) [0, 1, 2] rfl ?_
  show SW l Γ yX2_takeTelling.cls cX2_takeTelling Y_Count_takeTelling (pV k) g 175 0 0 μ 0 [(0, vr Γ 73), (1, vi a1), (2, vi a2)] []
  unfold f_Count_takeTelling at h
  refine z_rload_n dX2_takeTelling_0 rfl 0 rfl ?_
  refine z_getR (q := 10344) ff_2_0 dX2_takeTelling_1 kt_73 (Nat.le_of_ble_eq_true rfl) fl_X2_42 rfl (hs.1 _ _ sr_10344) ?_
  refine z_getR (q := 1132) ff_7_4 dX2_takeTelling_4 kt_1 (Nat.le_of_ble_eq_true rfl) fl_X2_78 rfl (hs.1 _ _ sr_1132) ?_
  refine z_iload_n dX2_takeTelling_7 rfl 1 rfl ?_
  refine z_NE (i_X11_at kt_6 (Nat.le_of_ble_eq_true rfl)) ok_X11_at nw_X2_59 ⟨Nat.le_of_ble_eq_true rfl, Nat.le_of_ble_eq_true rfl⟩ ⟨Nat.zero_le _, Nat.zero_le _⟩ rfl rfl (Nat.le_of_ble_eq_true rfl) dX2_takeTelling_8 ?_
  refine z_nm (fun v3 ev3 => ?_)
  replace h := h v3 ev3
  refine z_istore_n (lv' := [(3, vi v3), (0, vr Γ 73), (1, vi a1), (2, vi a2)]) dX2_takeTelling_11 rfl (Nat.le_of_ble_eq_true rfl) rfl ?_
  refine z_rload_n dX2_takeTelling_12 rfl 1 rfl ?_
  refine z_getR (q := 10344) ff_2_0 dX2_takeTelling_13 kt_73 (Nat.le_of_ble_eq_true rfl) fl_X2_42 rfl (hs.1 _ _ sr_10344) ?_
  refine z_getR (q := 1135) ff_7_7 dX2_takeTelling_16 kt_1 (Nat.le_of_ble_eq_true rfl) fl_X2_81 rfl (hs.1 _ _ sr_1135) ?_
  refine z_iload_n dX2_takeTelling_19 rfl 2 rfl ?_
  refine z_NE (i_X11_at kt_9 (Nat.le_of_ble_eq_true rfl)) ok_X11_at nw_X2_59 ⟨Nat.le_of_ble_eq_true rfl, Nat.le_of_ble_eq_true rfl⟩ ⟨Nat.zero_le _, Nat.zero_le _⟩ rfl rfl (Nat.le_of_ble_eq_true rfl) dX2_takeTelling_20 ?_
  refine z_nm (fun v4 ev4 => ?_)
  replace h := h v4 ev4
  refine z_istore (lv' := [(4, vi v4), (3, vi v3), (0, vr Γ 73), (1, vi a1), (2, vi a2)]) dX2_takeTelling_23 (Nat.le_of_ble_eq_true rfl) rfl ?_
  refine z_rload_n dX2_takeTelling_25 rfl 2 rfl ?_
  refine z_getR (q := 10344) ff_2_0 dX2_takeTelling_26 kt_73 (Nat.le_of_ble_eq_true rfl) fl_X2_42 rfl (hs.1 _ _ sr_10344) ?_
  refine z_getR (q := 1131) ff_7_3 dX2_takeTelling_29 kt_1 (Nat.le_of_ble_eq_true rfl) fl_X2_84 rfl (hs.1 _ _ sr_1131) ?_
  refine z_iload_n dX2_takeTelling_32 rfl 3 rfl ?_
  refine z_NE (i_X11_at kt_5 (Nat.le_of_ble_eq_true rfl)) ok_X11_at nw_X2_59 ⟨Nat.le_of_ble_eq_true rfl, Nat.le_of_ble_eq_true rfl⟩ ⟨Nat.zero_le _, Nat.zero_le _⟩ rfl rfl (Nat.le_of_ble_eq_true rfl) dX2_takeTelling_33 ?_
  by_cases hc0 : w (at' μ 5 600 a1) = 0
  · rw [if_pos hc0] at h
    refine z_lcase (tgt := 64) dX2_takeTelling_36 (by decide) (by rw [hc0]) (by decide) ?_
    refine z_rload_n dX2_takeTelling_64 rfl 2 rfl ?_
    refine z_getR (q := 10345) ff_2_1 dX2_takeTelling_65 kt_73 (Nat.le_of_ble_eq_true rfl) fl_X2_9 rfl (hs.1 _ _ sr_10345) ?_
    refine z_iload_n dX2_takeTelling_68 rfl 1 rfl ?_
    refine z_iload dX2_takeTelling_69 0 rfl ?_
    refine z_NM (i_X11_set kt_74 (Nat.le_of_ble_eq_true rfl)) ok_X11_set nw_X2_74 ⟨Nat.le_of_ble_eq_true rfl, Nat.le_of_ble_eq_true rfl⟩ ⟨Nat.zero_le _, Nat.zero_le _⟩ rfl rfl (Nat.le_of_ble_eq_true rfl) dX2_takeTelling_71 ?_
    refine z_mm (fun μ_1 eμ_1 => ?_)
    replace h := h μ_1 eμ_1
    replace hs : StatR μ_1.2.2 := by rw [eμ_1]; exact (StatR.set hs)
    refine z_goto (tgt := 137) dX2_takeTelling_74 (by decide) ?_
    exact z_vret rfl dX2_takeTelling_137 rfl rfl rfl ⟨rfl, hs, h⟩
  · rw [if_neg hc0] at h
    by_cases hc1 : w (at' μ 5 600 a1) = 1
    · rw [if_pos hc1] at h
      refine z_lcase (tgt := 77) dX2_takeTelling_36 (by decide) (by rw [hc1]) (by decide) ?_
      refine z_rload_n dX2_takeTelling_77 rfl 2 rfl ?_
      refine z_getR (q := 10346) ff_2_2 dX2_takeTelling_78 kt_73 (Nat.le_of_ble_eq_true rfl) fl_X2_15 rfl (hs.1 _ _ sr_10346) ?_
      refine z_iload_n dX2_takeTelling_81 rfl 1 rfl ?_
      refine z_iload dX2_takeTelling_82 0 rfl ?_
      refine z_NM (i_X11_set kt_75 (Nat.le_of_ble_eq_true rfl)) ok_X11_set nw_X2_74 ⟨Nat.le_of_ble_eq_true rfl, Nat.le_of_ble_eq_true rfl⟩ ⟨Nat.zero_le _, Nat.zero_le _⟩ rfl rfl (Nat.le_of_ble_eq_true rfl) dX2_takeTelling_84 ?_
      refine z_mm (fun μ_2 eμ_2 => ?_)
      replace h := h μ_2 eμ_2
      replace hs : StatR μ_2.2.2 := by rw [eμ_2]; exact (StatR.set hs)
      refine z_goto (tgt := 137) dX2_takeTelling_87 (by decide) ?_
      exact z_vret rfl dX2_takeTelling_137 rfl rfl rfl ⟨rfl, hs, h⟩
    · rw [if_neg hc1] at h
      refine z_lcase (tgt := 90) (off := 54) dX2_takeTelling_36 (by decide) (by simp [Op.lookupswitch.offset, (show ¬ 0 = w (at' μ 5 600 a1) from fun z => hc0 z.symm), (show ¬ 1 = w (at' μ 5 600 a1) from fun z => hc1 z.symm)]) (by decide) ?_
      refine z_rload_n dX2_takeTelling_90 rfl 2 rfl ?_
      refine z_getR (q := 10344) ff_2_0 dX2_takeTelling_91 kt_73 (Nat.le_of_ble_eq_true rfl) fl_X2_42 rfl (hs.1 _ _ sr_10344) ?_
      refine z_getR (q := 1133) ff_7_5 dX2_takeTelling_94 kt_1 (Nat.le_of_ble_eq_true rfl) fl_X2_87 rfl (hs.1 _ _ sr_1133) ?_
      refine z_iload_n dX2_takeTelling_97 rfl 3 rfl ?_
      refine z_NE (i_X11_at kt_7 (Nat.le_of_ble_eq_true rfl)) ok_X11_at nw_X2_59 ⟨Nat.le_of_ble_eq_true rfl, Nat.le_of_ble_eq_true rfl⟩ ⟨Nat.zero_le _, Nat.zero_le _⟩ rfl rfl (Nat.le_of_ble_eq_true rfl) dX2_takeTelling_98 ?_
      refine z_iload_n dX2_takeTelling_101 rfl 4 rfl ?_
      refine z_icmp_ne (tgt := 137) dX2_takeTelling_102 (by decide) h (fun h => ?_) (fun h => ?_)
      · refine z_rload_n dX2_takeTelling_105 rfl 2 rfl ?_
        refine z_getR (q := 10344) ff_2_0 dX2_takeTelling_106 kt_73 (Nat.le_of_ble_eq_true rfl) fl_X2_42 rfl (hs.1 _ _ sr_10344) ?_
        refine z_getR (q := 1131) ff_7_3 dX2_takeTelling_109 kt_1 (Nat.le_of_ble_eq_true rfl) fl_X2_84 rfl (hs.1 _ _ sr_1131) ?_
        refine z_iload_n dX2_takeTelling_112 rfl 3 rfl ?_
        refine z_NE (i_X11_at kt_5 (Nat.le_of_ble_eq_true rfl)) ok_X11_at nw_X2_59 ⟨Nat.le_of_ble_eq_true rfl, Nat.le_of_ble_eq_true rfl⟩ ⟨Nat.zero_le _, Nat.zero_le _⟩ rfl rfl (Nat.le_of_ble_eq_true rfl) dX2_takeTelling_113 ?_
        refine z_iconst dX2_takeTelling_116 ?_
        refine z_icmp_ne (tgt := 127) dX2_takeTelling_117 (by decide) h (fun h => ?_) (fun h => ?_)
        · refine z_rload_n dX2_takeTelling_120 rfl 2 rfl ?_
          refine z_getR (q := 10347) ff_2_3 dX2_takeTelling_121 kt_73 (Nat.le_of_ble_eq_true rfl) fl_X2_18 rfl (hs.1 _ _ sr_10347) ?_
          refine z_goto (tgt := 131) dX2_takeTelling_124 (by decide) ?_
          refine z_iload_n dX2_takeTelling_131 rfl 1 rfl ?_
          refine z_iload dX2_takeTelling_132 0 rfl ?_
          refine z_NM (i_X11_set kt_76 (Nat.le_of_ble_eq_true rfl)) ok_X11_set nw_X2_74 ⟨Nat.le_of_ble_eq_true rfl, Nat.le_of_ble_eq_true rfl⟩ ⟨Nat.zero_le _, Nat.zero_le _⟩ rfl rfl (Nat.le_of_ble_eq_true rfl) dX2_takeTelling_134 ?_
          refine z_mm (fun μ_3 eμ_3 => ?_)
          replace h := h μ_3 eμ_3
          replace hs : StatR μ_3.2.2 := by rw [eμ_3]; exact (StatR.set hs)
          exact z_vret rfl dX2_takeTelling_137 rfl rfl rfl ⟨rfl, hs, h⟩
        · refine z_rload_n dX2_takeTelling_127 rfl 2 rfl ?_
          refine z_getR (q := 10348) ff_2_4 dX2_takeTelling_128 kt_73 (Nat.le_of_ble_eq_true rfl) fl_X2_21 rfl (hs.1 _ _ sr_10348) ?_
          refine z_iload_n dX2_takeTelling_131 rfl 1 rfl ?_
          refine z_iload dX2_takeTelling_132 0 rfl ?_
          refine z_NM (i_X11_set kt_77 (Nat.le_of_ble_eq_true rfl)) ok_X11_set nw_X2_74 ⟨Nat.le_of_ble_eq_true rfl, Nat.le_of_ble_eq_true rfl⟩ ⟨Nat.zero_le _, Nat.zero_le _⟩ rfl rfl (Nat.le_of_ble_eq_true rfl) dX2_takeTelling_134 ?_
          refine z_mm (fun μ_4 eμ_4 => ?_)
          replace h := h μ_4 eμ_4
          replace hs : StatR μ_4.2.2 := by rw [eμ_4]; exact (StatR.set hs)
          exact z_vret rfl dX2_takeTelling_137 rfl rfl rfl ⟨rfl, hs, h⟩
      · exact z_vret rfl dX2_takeTelling_137 rfl rfl rfl ⟨rfl, hs, h⟩
abbrev Y_Count_voiceOf : Yt := (3, (some .int), yX2_voiceOf.name, { frames := 2, cells := 0, slots := 0, locals := 44 }, 175, 0, 0)
def f_Count_voiceOf (a1 : Int) (μ : Mem) (k : Int → Mem → Prop) : Prop := ∀ v2 : Int, v2 = at' μ 76 12 a1 → if w v2 = w 3 then (f_Count_mandateOf a1 μ (fun r16 μ_1 => k r16 μ_1)) else (k v2 μ)
theorem i_Count_voiceOf {l : Launch} {Γ : Gam} {g : Nat} {a1 : Int} {μ : Mem} {k : Int → Mem → Prop} (hs : StatR μ.2.2) (h : f_Count_voiceOf a1 μ k) : CT l Γ yX2_voiceOf cX2_voiceOf 3 (some .int) 2 44 0 0 [vr Γ 73, vi a1] g 175 μ (pI k) := by
  refine SW.ct (by decide) (Nat.le_of_ble_eq_true rfl) ?_
  refine z_sub (lv' := [(0, vr Γ 73), (1, vi a1)]) [0, 1] rfl ?_
  show SW l Γ yX2_voiceOf.cls cX2_voiceOf Y_Count_voiceOf (pI k) g 175 0 0 μ 0 [(0, vr Γ 73), (1, vi a1)] []
  unfold f_Count_voiceOf at h
  refine z_rload_n dX2_voiceOf_0 rfl 0 rfl ?_
  refine z_getR (q := 10347) ff_2_3 dX2_voiceOf_1 kt_73 (Nat.le_of_ble_eq_true rfl) fl_X2_18 rfl (hs.1 _ _ sr_10347) ?_
  refine z_iload_n dX2_voiceOf_4 rfl 1 rfl ?_
  refine z_NE (i_X11_at kt_76 (Nat.le_of_ble_eq_true rfl)) ok_X11_at nw_X2_59 ⟨Nat.le_of_ble_eq_true rfl, Nat.le_of_ble_eq_true rfl⟩ ⟨Nat.zero_le _, Nat.zero_le _⟩ rfl rfl (Nat.le_of_ble_eq_true rfl) dX2_voiceOf_5 ?_
  refine z_nm (fun v2 ev2 => ?_)
  replace h := h v2 ev2
  refine z_istore_n (lv' := [(2, vi v2), (0, vr Γ 73), (1, vi a1)]) dX2_voiceOf_8 rfl (Nat.le_of_ble_eq_true rfl) rfl ?_
  refine z_iload_n dX2_voiceOf_9 rfl 0 rfl ?_
  refine z_iconst dX2_voiceOf_10 ?_
  refine z_icmp_ne (tgt := 22) dX2_voiceOf_11 (by decide) h (fun h => ?_) (fun h => ?_)
  · refine z_rload_n dX2_voiceOf_14 rfl 1 rfl ?_
    refine z_iload_n dX2_voiceOf_15 rfl 2 rfl ?_
    refine z_VI (i_Count_mandateOf  hs h) vk_X2_mandateOf kt_73 (Nat.le_of_ble_eq_true rfl) rfl ml_X2_99 ⟨Nat.le_of_ble_eq_true rfl, Nat.le_of_ble_eq_true rfl⟩ ⟨Nat.zero_le _, Nat.zero_le _⟩ rfl rfl (Nat.le_of_ble_eq_true rfl) dX2_voiceOf_16 (fun r16 μ_1 hs h => ?_)
    refine z_goto (tgt := 23) dX2_voiceOf_19 (by decide) ?_
    exact z_iret rfl dX2_voiceOf_23 rfl rfl rfl ⟨_, rfl, hs, h⟩
  · refine z_iload_n dX2_voiceOf_22 rfl 0 rfl ?_
    exact z_iret rfl dX2_voiceOf_23 rfl rfl rfl ⟨_, rfl, hs, h⟩
abbrev Y_Count_take : Yt := (4, none, yX2_take.name, { frames := 3, cells := 0, slots := 0, locals := 66 }, 175, 0, 0)
def l_Count_take_34 (a1 : Int) (a2 : Int) (X_34_72 : Mem → Prop) : Nat → Int → Mem → Prop
  | 0, _, _ => False
  | fu34 + 1, v3, μ_5 => if w v3 < w (rI μ_5 1138 0) then (if w a2 < w (at' μ_5 8 600 v3) then (X_34_72 μ_5) else (f_Count_takeTelling v3 a1 μ_5 (fun μ_6 => (l_Count_take_34 a1 a2 X_34_72 fu34) (v3 + 1) μ_6))) else (X_34_72 μ_5)
def l_Count_take_74 (X_74_104 : Mem → Prop) : Nat → Int → Mem → Prop
  | 0, _, _ => False
  | fu74 + 1, v3_1, μ_8 => if w v3_1 < w (rI μ_8 1136 0) then (f_Count_voiceOf v3_1 μ_8 (fun r92 μ_9 => ∀ μ_10 : Mem, μ_10 = set' μ_9 79 12 v3_1 r92 → (l_Count_take_74 X_74_104 fu74) (v3_1 + 1) μ_10)) else (X_74_104 μ_8)
def f_Count_take (a1 : Int) (a2 : Int) (μ : Mem) (k : Mem → Prop) : Prop := f_H_fill 74 12 0 μ (fun μ_1 => f_H_fill 75 12 0 μ_1 (fun μ_2 => f_H_fill 76 12 3 μ_2 (fun μ_3 => f_H_fill 77 48 2 μ_3 (fun μ_4 => ∃ m34 : Nat, l_Count_take_34 a1 a2 (fun (μ_7 : Mem) => ∃ m74 : Nat, l_Count_take_74 (fun (μ_11 : Mem) => k μ_11) m74 0 μ_7) m34 0 μ_4))))
theorem L_Count_take_34 {l : Launch} {Γ : Gam} {g : Nat} {a1 : Int} {a2 : Int} {X_34_72 : Mem → Prop} {k : Mem → Prop} (hX_34_72 : ∀ (ν : Mem), StatR ν.2.2 → X_34_72 ν → SW l Γ yX2_take.cls cX2_take Y_Count_take (pV k) g 175 0 0 ν 72 [(0, vr Γ 73)] []) (n9 : Nat) : ∀ (v3 : Int) (μ_5 : Mem), StatR μ_5.2.2 → l_Count_take_34 a1 a2 X_34_72 n9 v3 μ_5 → SW l Γ yX2_take.cls cX2_take Y_Count_take (pV k) g 175 0 0 μ_5 34 [(0, vr Γ 73), (1, vi a1), (2, vi a2), (3, vi v3)] [] := by
  induction n9 with
  | zero =>
    intro v3 μ_5 hs h
    exact h.elim
  | succ n9 hR_34 =>
    intro v3 μ_5 hs h
    rw [l_Count_take_34] at h
    refine z_iload_n dX2_take_34 rfl 3 rfl ?_
    refine z_rload_n dX2_take_35 rfl 0 rfl ?_
    refine z_getR (q := 10344) ff_2_0 dX2_take_36 kt_73 (Nat.le_of_ble_eq_true rfl) fl_X2_42 rfl (hs.1 _ _ sr_10344) ?_
    refine z_getI (q := 1138) ff_7_10 dX2_take_39 kt_1 (Nat.le_of_ble_eq_true rfl) fl_X2_50 rfl ?_
    refine z_icmp_ge (tgt := 72) dX2_take_42 (by decide) h (fun h => ?_) (fun h => ?_)
    · refine z_rload_n dX2_take_45 rfl 0 rfl ?_
      refine z_getR (q := 10344) ff_2_0 dX2_take_46 kt_73 (Nat.le_of_ble_eq_true rfl) fl_X2_42 rfl (hs.1 _ _ sr_10344) ?_
      refine z_getR (q := 1134) ff_7_6 dX2_take_49 kt_1 (Nat.le_of_ble_eq_true rfl) fl_X2_56 rfl (hs.1 _ _ sr_1134) ?_
      refine z_iload_n dX2_take_52 rfl 3 rfl ?_
      refine z_NE (i_X11_at kt_8 (Nat.le_of_ble_eq_true rfl)) ok_X11_at nw_X2_59 ⟨Nat.le_of_ble_eq_true rfl, Nat.le_of_ble_eq_true rfl⟩ ⟨Nat.zero_le _, Nat.zero_le _⟩ rfl rfl (Nat.le_of_ble_eq_true rfl) dX2_take_53 ?_
      refine z_iload_n dX2_take_56 rfl 2 rfl ?_
      refine z_icmp_gt (tgt := 72) dX2_take_57 (by decide) h (fun h => ?_) (fun h => ?_)
      · refine z_sub (lv' := [(0, vr Γ 73)]) [0] rfl ?_
        exact hX_34_72 μ_5 hs h
      · refine z_rload_n dX2_take_60 rfl 0 rfl ?_
        refine z_iload_n dX2_take_61 rfl 3 rfl ?_
        refine z_iload_n dX2_take_62 rfl 1 rfl ?_
        refine z_VU (i_Count_takeTelling  hs h) vk_X2_takeTelling kt_73 (Nat.le_of_ble_eq_true rfl) rfl ml_X2_63 ⟨Nat.le_of_ble_eq_true rfl, Nat.le_of_ble_eq_true rfl⟩ ⟨Nat.zero_le _, Nat.zero_le _⟩ rfl rfl (Nat.le_of_ble_eq_true rfl) dX2_take_63 (fun μ_6 hs h => ?_)
        refine z_iinc (j := 3) (lv' := [(3, vi (v3 + 1)), (0, vr Γ 73), (1, vi a1), (2, vi a2)]) dX2_take_66 rfl (Nat.le_of_ble_eq_true rfl) rfl ?_
        refine z_goto (tgt := 34) dX2_take_69 (by decide) ?_
        refine z_sub (lv' := [(0, vr Γ 73), (1, vi a1), (2, vi a2), (3, vi (v3 + 1))]) [1, 2, 3, 0] rfl ?_
        exact hR_34 (v3 + 1) μ_6 hs h
    · refine z_sub (lv' := [(0, vr Γ 73)]) [0] rfl ?_
      exact hX_34_72 μ_5 hs h
theorem L_Count_take_74 {l : Launch} {Γ : Gam} {g : Nat} {X_74_104 : Mem → Prop} {k : Mem → Prop} (hX_74_104 : ∀ (ν : Mem), StatR ν.2.2 → X_74_104 ν → SW l Γ yX2_take.cls cX2_take Y_Count_take (pV k) g 175 0 0 ν 104 [] []) (n9 : Nat) : ∀ (v3_1 : Int) (μ_8 : Mem), StatR μ_8.2.2 → l_Count_take_74 X_74_104 n9 v3_1 μ_8 → SW l Γ yX2_take.cls cX2_take Y_Count_take (pV k) g 175 0 0 μ_8 74 [(0, vr Γ 73), (3, vi v3_1)] [] := by
  induction n9 with
  | zero =>
    intro v3_1 μ_8 hs h
    exact h.elim
  | succ n9 hR_74 =>
    intro v3_1 μ_8 hs h
    rw [l_Count_take_74] at h
    refine z_iload_n dX2_take_74 rfl 1 rfl ?_
    refine z_rload_n dX2_take_75 rfl 0 rfl ?_
    refine z_getR (q := 10344) ff_2_0 dX2_take_76 kt_73 (Nat.le_of_ble_eq_true rfl) fl_X2_42 rfl (hs.1 _ _ sr_10344) ?_
    refine z_getI (q := 1136) ff_7_8 dX2_take_79 kt_1 (Nat.le_of_ble_eq_true rfl) fl_X2_67 rfl ?_
    refine z_icmp_ge (tgt := 104) dX2_take_82 (by decide) h (fun h => ?_) (fun h => ?_)
    · refine z_rload_n dX2_take_85 rfl 0 rfl ?_
      refine z_getR (q := 10350) ff_2_6 dX2_take_86 kt_73 (Nat.le_of_ble_eq_true rfl) fl_X2_27 rfl (hs.1 _ _ sr_10350) ?_
      refine z_iload_n dX2_take_89 rfl 1 rfl ?_
      refine z_rload_n dX2_take_90 rfl 0 rfl ?_
      refine z_iload_n dX2_take_91 rfl 1 rfl ?_
      refine z_VI (i_Count_voiceOf  hs h) vk_X2_voiceOf kt_73 (Nat.le_of_ble_eq_true rfl) rfl ml_X2_70 ⟨Nat.le_of_ble_eq_true rfl, Nat.le_of_ble_eq_true rfl⟩ ⟨Nat.zero_le _, Nat.zero_le _⟩ rfl rfl (Nat.le_of_ble_eq_true rfl) dX2_take_92 (fun r92 μ_9 hs h => ?_)
      refine z_NM (i_X11_set kt_79 (Nat.le_of_ble_eq_true rfl)) ok_X11_set nw_X2_74 ⟨Nat.le_of_ble_eq_true rfl, Nat.le_of_ble_eq_true rfl⟩ ⟨Nat.zero_le _, Nat.zero_le _⟩ rfl rfl (Nat.le_of_ble_eq_true rfl) dX2_take_95 ?_
      refine z_mm (fun μ_10 eμ_10 => ?_)
      replace h := h μ_10 eμ_10
      replace hs : StatR μ_10.2.2 := by rw [eμ_10]; exact (StatR.set hs)
      refine z_iinc (j := 1) (lv' := [(3, vi (v3_1 + 1)), (0, vr Γ 73)]) dX2_take_98 rfl (Nat.le_of_ble_eq_true rfl) rfl ?_
      refine z_goto (tgt := 74) dX2_take_101 (by decide) ?_
      refine z_sub (lv' := [(0, vr Γ 73), (3, vi (v3_1 + 1))]) [1, 0] rfl ?_
      exact hR_74 (v3_1 + 1) μ_10 hs h
    · refine z_sub (lv' := []) [] rfl ?_
      exact hX_74_104 μ_8 hs h
theorem i_Count_take {l : Launch} {Γ : Gam} {g : Nat} {a1 : Int} {a2 : Int} {μ : Mem} {k : Mem → Prop} (hs : StatR μ.2.2) (h : f_Count_take a1 a2 μ k) : CT l Γ yX2_take cX2_take 4 none 3 66 0 0 [vr Γ 73, vi a1, vi a2] g 175 μ (pV k) := by
  refine SW.ct (by decide) (Nat.le_of_ble_eq_true rfl) ?_
  refine z_sub (lv' := [(0, vr Γ 73), (1, vi a1), (2, vi a2)]) [0, 1, 2] rfl ?_
  show SW l Γ yX2_take.cls cX2_take Y_Count_take (pV k) g 175 0 0 μ 0 [(0, vr Γ 73), (1, vi a1), (2, vi a2)] []
  unfold f_Count_take at h
  refine z_rload_n dX2_take_0 rfl 0 rfl ?_
  refine z_getR (q := 10345) ff_2_1 dX2_take_1 kt_73 (Nat.le_of_ble_eq_true rfl) fl_X2_9 rfl (hs.1 _ _ sr_10345) ?_
  refine z_iconst dX2_take_4 ?_
  refine z_NU (i_H_fill kt_74 (Nat.le_of_ble_eq_true rfl) hs h) sk_X11_fill nw_X2_46 ⟨Nat.le_of_ble_eq_true rfl, Nat.le_of_ble_eq_true rfl⟩ ⟨Nat.zero_le _, Nat.zero_le _⟩ rfl rfl (Nat.le_of_ble_eq_true rfl) dX2_take_5 (fun μ_1 hs h => ?_)
  refine z_rload_n dX2_take_8 rfl 0 rfl ?_
  refine z_getR (q := 10346) ff_2_2 dX2_take_9 kt_73 (Nat.le_of_ble_eq_true rfl) fl_X2_15 rfl (hs.1 _ _ sr_10346) ?_
  refine z_iconst dX2_take_12 ?_
  refine z_NU (i_H_fill kt_75 (Nat.le_of_ble_eq_true rfl) hs h) sk_X11_fill nw_X2_46 ⟨Nat.le_of_ble_eq_true rfl, Nat.le_of_ble_eq_true rfl⟩ ⟨Nat.zero_le _, Nat.zero_le _⟩ rfl rfl (Nat.le_of_ble_eq_true rfl) dX2_take_13 (fun μ_2 hs h => ?_)
  refine z_rload_n dX2_take_16 rfl 0 rfl ?_
  refine z_getR (q := 10347) ff_2_3 dX2_take_17 kt_73 (Nat.le_of_ble_eq_true rfl) fl_X2_18 rfl (hs.1 _ _ sr_10347) ?_
  refine z_iconst dX2_take_20 ?_
  refine z_NU (i_H_fill kt_76 (Nat.le_of_ble_eq_true rfl) hs h) sk_X11_fill nw_X2_46 ⟨Nat.le_of_ble_eq_true rfl, Nat.le_of_ble_eq_true rfl⟩ ⟨Nat.zero_le _, Nat.zero_le _⟩ rfl rfl (Nat.le_of_ble_eq_true rfl) dX2_take_21 (fun μ_3 hs h => ?_)
  refine z_rload_n dX2_take_24 rfl 0 rfl ?_
  refine z_getR (q := 10348) ff_2_4 dX2_take_25 kt_73 (Nat.le_of_ble_eq_true rfl) fl_X2_21 rfl (hs.1 _ _ sr_10348) ?_
  refine z_iconst dX2_take_28 ?_
  refine z_NU (i_H_fill kt_77 (Nat.le_of_ble_eq_true rfl) hs h) sk_X11_fill nw_X2_46 ⟨Nat.le_of_ble_eq_true rfl, Nat.le_of_ble_eq_true rfl⟩ ⟨Nat.zero_le _, Nat.zero_le _⟩ rfl rfl (Nat.le_of_ble_eq_true rfl) dX2_take_29 (fun μ_4 hs h => ?_)
  refine z_iconst dX2_take_32 ?_
  refine z_istore_n (lv' := [(3, vi 0), (0, vr Γ 73), (1, vi a1), (2, vi a2)]) dX2_take_33 rfl (Nat.le_of_ble_eq_true rfl) rfl ?_
  obtain ⟨m34, h⟩ := h
  refine z_sub (lv' := [(0, vr Γ 73), (1, vi a1), (2, vi a2), (3, vi 0)]) [1, 2, 3, 0] rfl ?_
  refine L_Count_take_34 (fun μ_7 hs h => ?_) m34 0 μ_4 hs h
  refine z_iconst dX2_take_72 ?_
  refine z_istore_n (lv' := [(3, vi 0), (0, vr Γ 73)]) dX2_take_73 rfl (Nat.le_of_ble_eq_true rfl) rfl ?_
  obtain ⟨m74, h⟩ := h
  refine z_sub (lv' := [(0, vr Γ 73), (3, vi 0)]) [1, 0] rfl ?_
  refine L_Count_take_74 (fun μ_11 hs h => ?_) m74 0 μ_7 hs h
  exact z_vret rfl dX2_take_104 rfl rfl rfl ⟨rfl, hs, h⟩

abbrev Y_H_isBarred : Yt := (5, (some .boolean), yX11_isBarred.name, { frames := 4, cells := 0, slots := 0, locals := 89 }, 175, 0, 0)
def f_H_isBarred (a1 : Int) (a2 : Int) (a3 : Int) (μ : Mem) (k : Bool → Mem → Prop) : Prop := if w a3 = w 3 then (k false μ) else (f_Papers_inForce (rI μ 9584 0) μ (fun r16 μ_1 => isRu r16 = true ∧ if (rB μ_1 (gid r16 6) 0) = true then (f_Count_take a2 (rI μ_1 1139 0) μ_1 (fun μ_2 => f_Count_mandateOf a1 μ_2 (fun r47 μ_3 => ∀ x69 : Bool, x69 = (if w r47 = w 2 then false else (if w r47 = w a3 then false else true)) → k x69 μ_3))) else (k false μ_1)))
theorem i_H_isBarred {l : Launch} {Γ : Gam} {g : Nat} {a1 : Int} {a2 : Int} {a3 : Int} {μ : Mem} {k : Bool → Mem → Prop} (hs : StatR μ.2.2) (h : f_H_isBarred a1 a2 a3 μ k) : CT l Γ yX11_isBarred cX11_isBarred 5 (some .boolean) 4 89 0 0 [vr Γ 0, vi a1, vi a2, vi a3] g 175 μ (pB k) := by
  refine SW.ct (by decide) (Nat.le_of_ble_eq_true rfl) ?_
  refine z_sub (lv' := [(0, vr Γ 0), (1, vi a1), (2, vi a2), (3, vi a3)]) [0, 1, 2, 3] rfl ?_
  show SW l Γ yX11_isBarred.cls cX11_isBarred Y_H_isBarred (pB k) g 175 0 0 μ 0 [(0, vr Γ 0), (1, vi a1), (2, vi a2), (3, vi a3)] []
  unfold f_H_isBarred at h
  refine z_iload_n dX11_isBarred_0 rfl 3 rfl ?_
  refine z_iconst dX11_isBarred_1 ?_
  refine z_icmp_eq (tgt := 25) dX11_isBarred_2 (by decide) h (fun h => ?_) (fun h => ?_)
  · refine z_iconst dX11_isBarred_25 ?_
    exact z_zret (b := false) rfl dX11_isBarred_26 rfl rfl rfl ⟨_, rfl, hs, h⟩
  · refine z_rload_n dX11_isBarred_5 rfl 0 rfl ?_
    refine z_getR (q := 1004) ff_11_4 dX11_isBarred_6 kt_0 (Nat.le_of_ble_eq_true rfl) fl_X11_26 rfl (hs.1 _ _ sr_1004) ?_
    refine z_rload_n dX11_isBarred_9 rfl 0 rfl ?_
    refine z_getR (q := 1005) ff_11_5 dX11_isBarred_10 kt_0 (Nat.le_of_ble_eq_true rfl) fl_X11_57 rfl (hs.1 _ _ sr_1005) ?_
    refine z_getI (q := 9584) ff_3_8 dX11_isBarred_13 kt_67 (Nat.le_of_ble_eq_true rfl) fl_X11_125 rfl ?_
    refine z_VA (i_Papers_inForce  hs h) vk_X6_inForce kt_12 (Nat.le_of_ble_eq_true rfl) rfl ml_X11_129 ⟨Nat.le_of_ble_eq_true rfl, Nat.le_of_ble_eq_true rfl⟩ ⟨Nat.zero_le _, Nat.zero_le _⟩ rfl rfl (Nat.le_of_ble_eq_true rfl) dX11_isBarred_16 (fun r16 μ_1 hs h => ?_)
    obtain ⟨hr_r16, h⟩ := h
    refine z_getZ (q := (gid r16 6)) ff_8_6 dX11_isBarred_19 (ru_k hr_r16) (ru_l hr_r16) fl_X11_133 rfl ?_
    refine z_ifne_b (tgt := 27) dX11_isBarred_22 (by decide) h (fun h => ?_) (fun h => ?_)
    · refine z_rload_n dX11_isBarred_27 rfl 0 rfl ?_
      refine z_getR (q := 1006) ff_11_6 dX11_isBarred_28 kt_0 (Nat.le_of_ble_eq_true rfl) fl_X11_66 rfl (hs.1 _ _ sr_1006) ?_
      refine z_iload_n dX11_isBarred_31 rfl 2 rfl ?_
      refine z_rload_n dX11_isBarred_32 rfl 0 rfl ?_
      refine z_getR (q := 1000) ff_11_0 dX11_isBarred_33 kt_0 (Nat.le_of_ble_eq_true rfl) fl_X11_12 rfl (hs.1 _ _ sr_1000) ?_
      refine z_getI (q := 1139) ff_7_11 dX11_isBarred_36 kt_1 (Nat.le_of_ble_eq_true rfl) fl_X11_139 rfl ?_
      refine z_VU (i_Count_take  hs h) vk_X2_take kt_73 (Nat.le_of_ble_eq_true rfl) rfl ml_X11_142 ⟨Nat.le_of_ble_eq_true rfl, Nat.le_of_ble_eq_true rfl⟩ ⟨Nat.zero_le _, Nat.zero_le _⟩ rfl rfl (Nat.le_of_ble_eq_true rfl) dX11_isBarred_39 (fun μ_2 hs h => ?_)
      refine z_rload_n dX11_isBarred_42 rfl 0 rfl ?_
      refine z_getR (q := 1006) ff_11_6 dX11_isBarred_43 kt_0 (Nat.le_of_ble_eq_true rfl) fl_X11_66 rfl (hs.1 _ _ sr_1006) ?_
      refine z_iload_n dX11_isBarred_46 rfl 1 rfl ?_
      refine z_VI (i_Count_mandateOf  hs h) vk_X2_mandateOf kt_73 (Nat.le_of_ble_eq_true rfl) rfl ml_X11_146 ⟨Nat.le_of_ble_eq_true rfl, Nat.le_of_ble_eq_true rfl⟩ ⟨Nat.zero_le _, Nat.zero_le _⟩ rfl rfl (Nat.le_of_ble_eq_true rfl) dX11_isBarred_47 (fun r47 μ_3 hs h => ?_)
      refine z_istore (lv' := [(4, vi r47), (0, vr Γ 0), (1, vi a1), (2, vi a2), (3, vi a3)]) dX11_isBarred_50 (Nat.le_of_ble_eq_true rfl) rfl ?_
      refine z_iload dX11_isBarred_52 0 rfl ?_
      refine z_iconst dX11_isBarred_54 ?_
      refine z_phiB 69 [] (fun V9 hv J9 => ?_) h (fun x69 h => ?_)
      · refine z_icmp_eq (tgt := 68) dX11_isBarred_55 (by decide) (eq_ite hv) (fun hv => ?_) (fun hv => ?_)
        · refine z_iconst dX11_isBarred_68 ?_
          exact J9 false hv.symm
        · refine z_iload dX11_isBarred_58 0 rfl ?_
          refine z_iload_n dX11_isBarred_60 rfl 4 rfl ?_
          refine z_icmp_eq (tgt := 68) dX11_isBarred_61 (by decide) (eq_ite hv) (fun hv => ?_) (fun hv => ?_)
          · refine z_iconst dX11_isBarred_68 ?_
            exact J9 false hv.symm
          · refine z_iconst dX11_isBarred_64 ?_
            refine z_goto (tgt := 69) dX11_isBarred_65 (by decide) ?_
            exact J9 true hv.symm
      · exact z_zret (b := x69) rfl dX11_isBarred_69 rfl rfl rfl ⟨_, rfl, hs, h⟩
    · refine z_iconst dX11_isBarred_25 ?_
      exact z_zret (b := false) rfl dX11_isBarred_26 rfl rfl rfl ⟨_, rfl, hs, h⟩
abbrev Y_H_casts : Yt := (4, (some .boolean), yX11_casts.name, { frames := 5, cells := 0, slots := 0, locals := 113 }, 175, 0, 0)
def f_H_casts (a1 : Int) (a2 : Int) (a3 : Int) (μ : Mem) (k : Bool → Mem → Prop) : Prop := if (v_Reg_hasAffiliate a1 μ) = true then (if w (v_Floor_stateOf a2 μ) = 0 then (if w a3 < 0 then (k false μ) else (if w 3 < w a3 then (k false μ) else (f_H_isBarred a1 a2 a3 μ (fun r37 μ_1 => if r37 = true then (k false μ_1) else (f_Reg_tell 3 a1 a2 a3 μ_1 (fun r51 μ_2 => ∀ x62 : Bool, x62 = (if r51 = true then true else false) → k x62 μ_2)))))) else (k false μ)) else (k false μ)
theorem i_H_casts {l : Launch} {Γ : Gam} {g : Nat} {a1 : Int} {a2 : Int} {a3 : Int} {μ : Mem} {k : Bool → Mem → Prop} (hs : StatR μ.2.2) (h : f_H_casts a1 a2 a3 μ k) : CT l Γ yX11_casts cX11_casts 4 (some .boolean) 5 113 0 0 [vr Γ 0, vi a1, vi a2, vi a3] g 175 μ (pB k) := by
  refine SW.ct (by decide) (Nat.le_of_ble_eq_true rfl) ?_
  refine z_sub (lv' := [(0, vr Γ 0), (1, vi a1), (2, vi a2), (3, vi a3)]) [0, 1, 2, 3] rfl ?_
  show SW l Γ yX11_casts.cls cX11_casts Y_H_casts (pB k) g 175 0 0 μ 0 [(0, vr Γ 0), (1, vi a1), (2, vi a2), (3, vi a3)] []
  unfold f_H_casts at h
  refine z_rload_n dX11_casts_0 rfl 0 rfl ?_
  refine z_getR (q := 1000) ff_11_0 dX11_casts_1 kt_0 (Nat.le_of_ble_eq_true rfl) fl_X11_12 rfl (hs.1 _ _ sr_1000) ?_
  refine z_iload_n dX11_casts_4 rfl 1 rfl ?_
  refine z_VE (i_Reg_hasAffiliate ) vk_X7_hasAffiliate kt_1 (Nat.le_of_ble_eq_true rfl) rfl ml_X11_103 ⟨Nat.le_of_ble_eq_true rfl, Nat.le_of_ble_eq_true rfl⟩ ⟨Nat.zero_le _, Nat.zero_le _⟩ rfl rfl (Nat.le_of_ble_eq_true rfl) dX11_casts_5 ?_
  refine z_ifeq_b (tgt := 31) dX11_casts_8 (by decide) h (fun h => ?_) (fun h => ?_)
  · refine z_rload_n dX11_casts_11 rfl 0 rfl ?_
    refine z_getR (q := 1005) ff_11_5 dX11_casts_12 kt_0 (Nat.le_of_ble_eq_true rfl) fl_X11_57 rfl (hs.1 _ _ sr_1005) ?_
    refine z_iload_n dX11_casts_15 rfl 2 rfl ?_
    refine z_VE (i_Floor_stateOf hs) vk_X3_stateOf kt_67 (Nat.le_of_ble_eq_true rfl) rfl ml_X11_118 ⟨Nat.le_of_ble_eq_true rfl, Nat.le_of_ble_eq_true rfl⟩ ⟨Nat.zero_le _, Nat.zero_le _⟩ rfl rfl (Nat.le_of_ble_eq_true rfl) dX11_casts_16 ?_
    refine z_if_ne (tgt := 31) dX11_casts_19 (by decide) h (fun h => ?_) (fun h => ?_)
    · refine z_iload_n dX11_casts_22 rfl 3 rfl ?_
      refine z_if_lt (tgt := 31) dX11_casts_23 (by decide) h (fun h => ?_) (fun h => ?_)
      · refine z_iconst dX11_casts_31 ?_
        exact z_zret (b := false) rfl dX11_casts_32 rfl rfl rfl ⟨_, rfl, hs, h⟩
      · refine z_iload_n dX11_casts_26 rfl 3 rfl ?_
        refine z_iconst dX11_casts_27 ?_
        refine z_icmp_le (tgt := 33) dX11_casts_28 (by decide) h (fun h => ?_) (fun h => ?_)
        · refine z_iconst dX11_casts_31 ?_
          exact z_zret (b := false) rfl dX11_casts_32 rfl rfl rfl ⟨_, rfl, hs, h⟩
        · refine z_rload_n dX11_casts_33 rfl 0 rfl ?_
          refine z_iload_n dX11_casts_34 rfl 1 rfl ?_
          refine z_iload_n dX11_casts_35 rfl 2 rfl ?_
          refine z_iload_n dX11_casts_36 rfl 3 rfl ?_
          refine z_VB (i_H_isBarred  hs h) vk_X11_isBarred kt_0 (Nat.le_of_ble_eq_true rfl) rfl ml_X11_121 ⟨Nat.le_of_ble_eq_true rfl, Nat.le_of_ble_eq_true rfl⟩ ⟨Nat.zero_le _, Nat.zero_le _⟩ rfl rfl (Nat.le_of_ble_eq_true rfl) dX11_casts_37 (fun r37 μ_1 hs h => ?_)
          refine z_ifne_b (tgt := 61) dX11_casts_40 (by decide) h (fun h => ?_) (fun h => ?_)
          · refine z_iconst dX11_casts_61 ?_
            exact z_zret (b := false) rfl dX11_casts_62 rfl rfl rfl ⟨_, rfl, hs, h⟩
          · refine z_rload_n dX11_casts_43 rfl 0 rfl ?_
            refine z_getR (q := 1000) ff_11_0 dX11_casts_44 kt_0 (Nat.le_of_ble_eq_true rfl) fl_X11_12 rfl (hs.1 _ _ sr_1000) ?_
            refine z_iconst dX11_casts_47 ?_
            refine z_iload_n dX11_casts_48 rfl 1 rfl ?_
            refine z_iload_n dX11_casts_49 rfl 2 rfl ?_
            refine z_iload_n dX11_casts_50 rfl 3 rfl ?_
            refine z_VB (i_Reg_tell  hs h) vk_X7_tell kt_1 (Nat.le_of_ble_eq_true rfl) rfl ml_X11_107 ⟨Nat.le_of_ble_eq_true rfl, Nat.le_of_ble_eq_true rfl⟩ ⟨Nat.zero_le _, Nat.zero_le _⟩ rfl rfl (Nat.le_of_ble_eq_true rfl) dX11_casts_51 (fun r51 μ_2 hs h => ?_)
            refine z_phiB 62 [] (fun V9 hv J9 => ?_) h (fun x62 h => ?_)
            · refine z_ifeq_b (tgt := 61) dX11_casts_54 (by decide) (eq_ite hv) (fun hv => ?_) (fun hv => ?_)
              · refine z_iconst dX11_casts_57 ?_
                refine z_goto (tgt := 62) dX11_casts_58 (by decide) ?_
                exact J9 true hv.symm
              · refine z_iconst dX11_casts_61 ?_
                exact J9 false hv.symm
            · exact z_zret (b := x62) rfl dX11_casts_62 rfl rfl rfl ⟨_, rfl, hs, h⟩
    · refine z_iconst dX11_casts_31 ?_
      exact z_zret (b := false) rfl dX11_casts_32 rfl rfl rfl ⟨_, rfl, hs, h⟩
  · refine z_iconst dX11_casts_31 ?_
    exact z_zret (b := false) rfl dX11_casts_32 rfl rfl rfl ⟨_, rfl, hs, h⟩
abbrev Y_H_day : Yt := (2, (some .int), yX11_day.name, { frames := 0, cells := 0, slots := 0, locals := 0 }, 175, 0, 0)
def f_H_day (a1 : Int) (μ : Mem) (k : Int → Mem → Prop) : Prop := if w a1 < 0 then (k (-1) μ) else (if w 1000 < w a1 then (k (-1) μ) else (if w 100000 < w ((rI μ 1139 0) + a1) then (k (-1) μ) else (∀ μ_1 : Mem, μ_1 = sI μ 1139 0 ((rI μ 1139 0) + a1) → k (rI μ_1 1139 0) μ_1)))
theorem i_H_day {l : Launch} {Γ : Gam} {g : Nat} {a1 : Int} {μ : Mem} {k : Int → Mem → Prop} (hs : StatR μ.2.2) (h : f_H_day a1 μ k) : CT l Γ yX11_day cX11_day 2 (some .int) 0 0 0 0 [vr Γ 0, vi a1] g 175 μ (pI k) := by
  refine SW.ct (by decide) (Nat.le_of_ble_eq_true rfl) ?_
  refine z_sub (lv' := [(0, vr Γ 0), (1, vi a1)]) [0, 1] rfl ?_
  show SW l Γ yX11_day.cls cX11_day Y_H_day (pI k) g 175 0 0 μ 0 [(0, vr Γ 0), (1, vi a1)] []
  unfold f_H_day at h
  refine z_iload_n dX11_day_0 rfl 1 rfl ?_
  refine z_if_lt (tgt := 25) dX11_day_1 (by decide) h (fun h => ?_) (fun h => ?_)
  · refine z_iconst dX11_day_25 ?_
    exact z_iret rfl dX11_day_26 rfl rfl rfl ⟨_, rfl, hs, h⟩
  · refine z_iload_n dX11_day_4 rfl 1 rfl ?_
    refine z_sipush dX11_day_5 (by decide) ?_
    refine z_icmp_gt (tgt := 25) dX11_day_8 (by decide) h (fun h => ?_) (fun h => ?_)
    · refine z_iconst dX11_day_25 ?_
      exact z_iret rfl dX11_day_26 rfl rfl rfl ⟨_, rfl, hs, h⟩
    · refine z_rload_n dX11_day_11 rfl 0 rfl ?_
      refine z_getR (q := 1000) ff_11_0 dX11_day_12 kt_0 (Nat.le_of_ble_eq_true rfl) fl_X11_12 rfl (hs.1 _ _ sr_1000) ?_
      refine z_getI (q := 1139) ff_7_11 dX11_day_15 kt_1 (Nat.le_of_ble_eq_true rfl) fl_X11_139 rfl ?_
      refine z_iload_n dX11_day_18 rfl 1 rfl ?_
      refine z_iadd dX11_day_19 ?_
      refine z_ldc (x := 100000) dX11_day_20 cs_X11_149 ?_
      refine z_icmp_le (tgt := 27) dX11_day_22 (by decide) h (fun h => ?_) (fun h => ?_)
      · refine z_iconst dX11_day_25 ?_
        exact z_iret rfl dX11_day_26 rfl rfl rfl ⟨_, rfl, hs, h⟩
      · refine z_rload_n dX11_day_27 rfl 0 rfl ?_
        refine z_getR (q := 1000) ff_11_0 dX11_day_28 kt_0 (Nat.le_of_ble_eq_true rfl) fl_X11_12 rfl (hs.1 _ _ sr_1000) ?_
        refine z_dup dX11_day_31 rfl ?_
        refine z_getI (q := 1139) ff_7_11 dX11_day_32 kt_1 (Nat.le_of_ble_eq_true rfl) fl_X11_139 rfl ?_
        refine z_iload_n dX11_day_35 rfl 1 rfl ?_
        refine z_iadd dX11_day_36 ?_
        refine z_putI (q := 1139) ff_7_11 (Or.inl rfl) rfl dX11_day_37 kt_1 (Nat.le_of_ble_eq_true rfl) fl_X11_139 rfl ?_
        refine z_mm (fun μ_1 eμ_1 => ?_)
        replace h := h μ_1 eμ_1
        replace hs : StatR μ_1.2.2 := by rw [eμ_1]; exact hs
        refine z_rload_n dX11_day_40 rfl 0 rfl ?_
        refine z_getR (q := 1000) ff_11_0 dX11_day_41 kt_0 (Nat.le_of_ble_eq_true rfl) fl_X11_12 rfl (hs.1 _ _ sr_1000) ?_
        refine z_getI (q := 1139) ff_7_11 dX11_day_44 kt_1 (Nat.le_of_ble_eq_true rfl) fl_X11_139 rfl ?_
        exact z_iret rfl dX11_day_47 rfl rfl rfl ⟨_, rfl, hs, h⟩
abbrev Y_H_closing : Yt := (2, (some .boolean), yX11_closing.name, { frames := 0, cells := 0, slots := 0, locals := 0 }, 175, 0, 0)
def f_H_closing (a1 : Int) (μ : Mem) (k : Bool → Mem → Prop) : Prop := if w a1 < w (-1) then (k false μ) else (if w 100000 < w a1 then (k false μ) else (∀ μ_1 : Mem, μ_1 = sI μ 1140 0 a1 → k true μ_1))
theorem i_H_closing {l : Launch} {Γ : Gam} {g : Nat} {a1 : Int} {μ : Mem} {k : Bool → Mem → Prop} (hs : StatR μ.2.2) (h : f_H_closing a1 μ k) : CT l Γ yX11_closing cX11_closing 2 (some .boolean) 0 0 0 0 [vr Γ 0, vi a1] g 175 μ (pB k) := by
  refine SW.ct (by decide) (Nat.le_of_ble_eq_true rfl) ?_
  refine z_sub (lv' := [(0, vr Γ 0), (1, vi a1)]) [0, 1] rfl ?_
  show SW l Γ yX11_closing.cls cX11_closing Y_H_closing (pB k) g 175 0 0 μ 0 [(0, vr Γ 0), (1, vi a1)] []
  unfold f_H_closing at h
  refine z_iload_n dX11_closing_0 rfl 1 rfl ?_
  refine z_iconst dX11_closing_1 ?_
  refine z_icmp_lt (tgt := 11) dX11_closing_2 (by decide) h (fun h => ?_) (fun h => ?_)
  · refine z_iconst dX11_closing_11 ?_
    exact z_zret (b := false) rfl dX11_closing_12 rfl rfl rfl ⟨_, rfl, hs, h⟩
  · refine z_iload_n dX11_closing_5 rfl 1 rfl ?_
    refine z_ldc (x := 100000) dX11_closing_6 cs_X11_149 ?_
    refine z_icmp_le (tgt := 13) dX11_closing_8 (by decide) h (fun h => ?_) (fun h => ?_)
    · refine z_iconst dX11_closing_11 ?_
      exact z_zret (b := false) rfl dX11_closing_12 rfl rfl rfl ⟨_, rfl, hs, h⟩
    · refine z_rload_n dX11_closing_13 rfl 0 rfl ?_
      refine z_getR (q := 1000) ff_11_0 dX11_closing_14 kt_0 (Nat.le_of_ble_eq_true rfl) fl_X11_12 rfl (hs.1 _ _ sr_1000) ?_
      refine z_iload_n dX11_closing_17 rfl 1 rfl ?_
      refine z_putI (q := 1140) ff_7_12 (Or.inl rfl) rfl dX11_closing_18 kt_1 (Nat.le_of_ble_eq_true rfl) fl_X11_150 rfl ?_
      refine z_mm (fun μ_1 eμ_1 => ?_)
      replace h := h μ_1 eμ_1
      replace hs : StatR μ_1.2.2 := by rw [eμ_1]; exact hs
      refine z_iconst dX11_closing_21 ?_
      exact z_zret (b := true) rfl dX11_closing_22 rfl rfl rfl ⟨_, rfl, hs, h⟩
abbrev Y_Tape_append : Yt := (3, none, yX9_append.name, { frames := 1, cells := 0, slots := 0, locals := 22 }, 175, 0, 0)
def l_Tape_append_3 (a1 : Int) (X_3_51 : Mem → Prop) : Nat → Int → Mem → Prop
  | 0, _, _ => False
  | fu3 + 1, v2, μ_1 => if w v2 < 0 then (X_3_51 μ_1) else (if w (rI μ_1 2281 0) < w 300 then (∀ μ_2 : Mem, μ_2 = set' μ_1 11 300 (rI μ_1 2281 0) (w_iand (w_iushr a1 v2) 255) → ∀ μ_3 : Mem, μ_3 = sI μ_2 2281 0 ((rI μ_2 2281 0) + 1) → (l_Tape_append_3 a1 X_3_51 fu3) (v2 + (-8)) μ_3) else ((l_Tape_append_3 a1 X_3_51 fu3) (v2 + (-8)) μ_1))
def f_Tape_append (a1 : Int) (μ : Mem) (k : Mem → Prop) : Prop := ∃ m3 : Nat, l_Tape_append_3 a1 (fun (μ_4 : Mem) => k μ_4) m3 24 μ
theorem L_Tape_append_3 {l : Launch} {Γ : Gam} {g : Nat} {a1 : Int} {X_3_51 : Mem → Prop} {k : Mem → Prop} (hX_3_51 : ∀ (ν : Mem), StatR ν.2.2 → X_3_51 ν → SW l Γ yX9_append.cls cX9_append Y_Tape_append (pV k) g 175 0 0 ν 51 [] []) (n9 : Nat) : ∀ (v2 : Int) (μ_1 : Mem), StatR μ_1.2.2 → l_Tape_append_3 a1 X_3_51 n9 v2 μ_1 → SW l Γ yX9_append.cls cX9_append Y_Tape_append (pV k) g 175 0 0 μ_1 3 [(0, vr Γ 10), (1, vi a1), (2, vi v2)] [] := by
  induction n9 with
  | zero =>
    intro v2 μ_1 hs h
    exact h.elim
  | succ n9 hR_3 =>
    intro v2 μ_1 hs h
    rw [l_Tape_append_3] at h
    refine z_iload_n dX9_append_3 rfl 2 rfl ?_
    refine z_if_lt (tgt := 51) dX9_append_4 (by decide) h (fun h => ?_) (fun h => ?_)
    · refine z_sub (lv' := []) [] rfl ?_
      exact hX_3_51 μ_1 hs h
    · refine z_rload_n dX9_append_7 rfl 0 rfl ?_
      refine z_getI (q := 2281) ff_9_1 dX9_append_8 kt_10 (Nat.le_of_ble_eq_true rfl) fl_X9_19 rfl ?_
      refine z_sipush dX9_append_11 (by decide) ?_
      refine z_icmp_ge (tgt := 45) dX9_append_14 (by decide) h (fun h => ?_) (fun h => ?_)
      · refine z_rload_n dX9_append_17 rfl 0 rfl ?_
        refine z_getR (q := 2280) ff_9_0 dX9_append_18 kt_10 (Nat.le_of_ble_eq_true rfl) fl_X9_9 rfl (hs.1 _ _ sr_2280) ?_
        refine z_rload_n dX9_append_21 rfl 0 rfl ?_
        refine z_getI (q := 2281) ff_9_1 dX9_append_22 kt_10 (Nat.le_of_ble_eq_true rfl) fl_X9_19 rfl ?_
        refine z_iload_n dX9_append_25 rfl 1 rfl ?_
        refine z_iload_n dX9_append_26 rfl 2 rfl ?_
        refine z_iushr dX9_append_27 ?_
        refine z_sipush dX9_append_28 (by decide) ?_
        refine z_iand dX9_append_31 ?_
        refine z_NM (i_X11_set kt_11 (Nat.le_of_ble_eq_true rfl)) ok_X11_set nw_X9_22 ⟨Nat.le_of_ble_eq_true rfl, Nat.le_of_ble_eq_true rfl⟩ ⟨Nat.zero_le _, Nat.zero_le _⟩ rfl rfl (Nat.le_of_ble_eq_true rfl) dX9_append_32 ?_
        refine z_mm (fun μ_2 eμ_2 => ?_)
        replace h := h μ_2 eμ_2
        replace hs : StatR μ_2.2.2 := by rw [eμ_2]; exact (StatR.set hs)
        refine z_rload_n dX9_append_35 rfl 0 rfl ?_
        refine z_dup dX9_append_36 rfl ?_
        refine z_getI (q := 2281) ff_9_1 dX9_append_37 kt_10 (Nat.le_of_ble_eq_true rfl) fl_X9_19 rfl ?_
        refine z_iconst dX9_append_40 ?_
        refine z_iadd dX9_append_41 ?_
        refine z_putI (q := 2281) ff_9_1 (Or.inl rfl) rfl dX9_append_42 kt_10 (Nat.le_of_ble_eq_true rfl) fl_X9_19 rfl ?_
        refine z_mm (fun μ_3 eμ_3 => ?_)
        replace h := h μ_3 eμ_3
        replace hs : StatR μ_3.2.2 := by rw [eμ_3]; exact hs
        refine z_iinc (j := 2) (lv' := [(2, vi (v2 + (-8))), (0, vr Γ 10), (1, vi a1)]) dX9_append_45 rfl (Nat.le_of_ble_eq_true rfl) rfl ?_
        refine z_goto (tgt := 3) dX9_append_48 (by decide) ?_
        refine z_sub (lv' := [(0, vr Γ 10), (1, vi a1), (2, vi (v2 + (-8)))]) [1, 2, 0] rfl ?_
        exact hR_3 (v2 + (-8)) μ_3 hs h
      · refine z_iinc (j := 2) (lv' := [(2, vi (v2 + (-8))), (0, vr Γ 10), (1, vi a1)]) dX9_append_45 rfl (Nat.le_of_ble_eq_true rfl) rfl ?_
        refine z_goto (tgt := 3) dX9_append_48 (by decide) ?_
        refine z_sub (lv' := [(0, vr Γ 10), (1, vi a1), (2, vi (v2 + (-8)))]) [1, 2, 0] rfl ?_
        exact hR_3 (v2 + (-8)) μ_1 hs h
theorem i_Tape_append {l : Launch} {Γ : Gam} {g : Nat} {a1 : Int} {μ : Mem} {k : Mem → Prop} (hs : StatR μ.2.2) (h : f_Tape_append a1 μ k) : CT l Γ yX9_append cX9_append 3 none 1 22 0 0 [vr Γ 10, vi a1] g 175 μ (pV k) := by
  refine SW.ct (by decide) (Nat.le_of_ble_eq_true rfl) ?_
  refine z_sub (lv' := [(0, vr Γ 10), (1, vi a1)]) [0, 1] rfl ?_
  show SW l Γ yX9_append.cls cX9_append Y_Tape_append (pV k) g 175 0 0 μ 0 [(0, vr Γ 10), (1, vi a1)] []
  unfold f_Tape_append at h
  refine z_bipush dX9_append_0 (by decide) ?_
  refine z_istore_n (lv' := [(2, vi 24), (0, vr Γ 10), (1, vi a1)]) dX9_append_2 rfl (Nat.le_of_ble_eq_true rfl) rfl ?_
  obtain ⟨m3, h⟩ := h
  refine z_sub (lv' := [(0, vr Γ 10), (1, vi a1), (2, vi 24)]) [1, 2, 0] rfl ?_
  refine L_Tape_append_3 (fun μ_4 hs h => ?_) m3 24 μ hs h
  exact z_vret rfl dX9_append_51 rfl rfl rfl ⟨rfl, hs, h⟩
abbrev Y_H_feed : Yt := (6, (some .int), yX11_feed.name, { frames := 2, cells := 0, slots := 0, locals := 44 }, 175, 0, 0)
def f_H_feed (a1 : Int) (a2 : Int) (a3 : Int) (a4 : Int) (a5 : Int) (μ : Mem) (k : Int → Mem → Prop) : Prop := if w 300 < w ((rI μ 2281 0) + 20) then (k (-1) μ) else (f_Tape_append a1 μ (fun μ_1 => f_Tape_append a2 μ_1 (fun μ_2 => f_Tape_append a3 μ_2 (fun μ_3 => f_Tape_append a4 μ_3 (fun μ_4 => f_Tape_append a5 μ_4 (fun μ_5 => k (rI μ_5 2281 0) μ_5))))))
theorem i_H_feed {l : Launch} {Γ : Gam} {g : Nat} {a1 : Int} {a2 : Int} {a3 : Int} {a4 : Int} {a5 : Int} {μ : Mem} {k : Int → Mem → Prop} (hs : StatR μ.2.2) (h : f_H_feed a1 a2 a3 a4 a5 μ k) : CT l Γ yX11_feed cX11_feed 6 (some .int) 2 44 0 0 [vr Γ 0, vi a1, vi a2, vi a3, vi a4, vi a5] g 175 μ (pI k) := by
  refine SW.ct (by decide) (Nat.le_of_ble_eq_true rfl) ?_
  refine z_sub (lv' := [(0, vr Γ 0), (1, vi a1), (2, vi a2), (3, vi a3), (4, vi a4), (5, vi a5)]) [0, 1, 2, 3, 4, 5] rfl ?_
  show SW l Γ yX11_feed.cls cX11_feed Y_H_feed (pI k) g 175 0 0 μ 0 [(0, vr Γ 0), (1, vi a1), (2, vi a2), (3, vi a3), (4, vi a4), (5, vi a5)] []
  unfold f_H_feed at h
  refine z_rload_n dX11_feed_0 rfl 0 rfl ?_
  refine z_getR (q := 1001) ff_11_1 dX11_feed_1 kt_0 (Nat.le_of_ble_eq_true rfl) fl_X11_19 rfl (hs.1 _ _ sr_1001) ?_
  refine z_getI (q := 2281) ff_9_1 dX11_feed_4 kt_10 (Nat.le_of_ble_eq_true rfl) fl_X11_153 rfl ?_
  refine z_bipush dX11_feed_7 (by decide) ?_
  refine z_iadd dX11_feed_9 ?_
  refine z_sipush dX11_feed_10 (by decide) ?_
  refine z_icmp_le (tgt := 18) dX11_feed_13 (by decide) h (fun h => ?_) (fun h => ?_)
  · refine z_iconst dX11_feed_16 ?_
    exact z_iret rfl dX11_feed_17 rfl rfl rfl ⟨_, rfl, hs, h⟩
  · refine z_rload_n dX11_feed_18 rfl 0 rfl ?_
    refine z_getR (q := 1001) ff_11_1 dX11_feed_19 kt_0 (Nat.le_of_ble_eq_true rfl) fl_X11_19 rfl (hs.1 _ _ sr_1001) ?_
    refine z_iload_n dX11_feed_22 rfl 1 rfl ?_
    refine z_VU (i_Tape_append  hs h) vk_X9_append kt_10 (Nat.le_of_ble_eq_true rfl) rfl ml_X11_156 ⟨Nat.le_of_ble_eq_true rfl, Nat.le_of_ble_eq_true rfl⟩ ⟨Nat.zero_le _, Nat.zero_le _⟩ rfl rfl (Nat.le_of_ble_eq_true rfl) dX11_feed_23 (fun μ_1 hs h => ?_)
    refine z_rload_n dX11_feed_26 rfl 0 rfl ?_
    refine z_getR (q := 1001) ff_11_1 dX11_feed_27 kt_0 (Nat.le_of_ble_eq_true rfl) fl_X11_19 rfl (hs.1 _ _ sr_1001) ?_
    refine z_iload_n dX11_feed_30 rfl 2 rfl ?_
    refine z_VU (i_Tape_append  hs h) vk_X9_append kt_10 (Nat.le_of_ble_eq_true rfl) rfl ml_X11_156 ⟨Nat.le_of_ble_eq_true rfl, Nat.le_of_ble_eq_true rfl⟩ ⟨Nat.zero_le _, Nat.zero_le _⟩ rfl rfl (Nat.le_of_ble_eq_true rfl) dX11_feed_31 (fun μ_2 hs h => ?_)
    refine z_rload_n dX11_feed_34 rfl 0 rfl ?_
    refine z_getR (q := 1001) ff_11_1 dX11_feed_35 kt_0 (Nat.le_of_ble_eq_true rfl) fl_X11_19 rfl (hs.1 _ _ sr_1001) ?_
    refine z_iload_n dX11_feed_38 rfl 3 rfl ?_
    refine z_VU (i_Tape_append  hs h) vk_X9_append kt_10 (Nat.le_of_ble_eq_true rfl) rfl ml_X11_156 ⟨Nat.le_of_ble_eq_true rfl, Nat.le_of_ble_eq_true rfl⟩ ⟨Nat.zero_le _, Nat.zero_le _⟩ rfl rfl (Nat.le_of_ble_eq_true rfl) dX11_feed_39 (fun μ_3 hs h => ?_)
    refine z_rload_n dX11_feed_42 rfl 0 rfl ?_
    refine z_getR (q := 1001) ff_11_1 dX11_feed_43 kt_0 (Nat.le_of_ble_eq_true rfl) fl_X11_19 rfl (hs.1 _ _ sr_1001) ?_
    refine z_iload dX11_feed_46 4 rfl ?_
    refine z_VU (i_Tape_append  hs h) vk_X9_append kt_10 (Nat.le_of_ble_eq_true rfl) rfl ml_X11_156 ⟨Nat.le_of_ble_eq_true rfl, Nat.le_of_ble_eq_true rfl⟩ ⟨Nat.zero_le _, Nat.zero_le _⟩ rfl rfl (Nat.le_of_ble_eq_true rfl) dX11_feed_48 (fun μ_4 hs h => ?_)
    refine z_rload_n dX11_feed_51 rfl 0 rfl ?_
    refine z_getR (q := 1001) ff_11_1 dX11_feed_52 kt_0 (Nat.le_of_ble_eq_true rfl) fl_X11_19 rfl (hs.1 _ _ sr_1001) ?_
    refine z_iload dX11_feed_55 5 rfl ?_
    refine z_VU (i_Tape_append  hs h) vk_X9_append kt_10 (Nat.le_of_ble_eq_true rfl) rfl ml_X11_156 ⟨Nat.le_of_ble_eq_true rfl, Nat.le_of_ble_eq_true rfl⟩ ⟨Nat.zero_le _, Nat.zero_le _⟩ rfl rfl (Nat.le_of_ble_eq_true rfl) dX11_feed_57 (fun μ_5 hs h => ?_)
    refine z_rload_n dX11_feed_60 rfl 0 rfl ?_
    refine z_getR (q := 1001) ff_11_1 dX11_feed_61 kt_0 (Nat.le_of_ble_eq_true rfl) fl_X11_19 rfl (hs.1 _ _ sr_1001) ?_
    refine z_getI (q := 2281) ff_9_1 dX11_feed_64 kt_10 (Nat.le_of_ble_eq_true rfl) fl_X11_153 rfl ?_
    exact z_iret rfl dX11_feed_67 rfl rfl rfl ⟨_, rfl, hs, h⟩
abbrev Y_H_end : Yt := (2, (some .int), yX11_end.name, { frames := 0, cells := 0, slots := 0, locals := 0 }, 175, 0, 0)
def f_H_end (a1 : Int) (μ : Mem) (k : Int → Mem → Prop) : Prop := if w a1 < 0 then (k (-1) μ) else (if w (rI μ 2281 0) < w a1 then (k (-1) μ) else (∀ μ_1 : Mem, μ_1 = sI μ 2281 0 a1 → k a1 μ_1))
theorem i_H_end {l : Launch} {Γ : Gam} {g : Nat} {a1 : Int} {μ : Mem} {k : Int → Mem → Prop} (hs : StatR μ.2.2) (h : f_H_end a1 μ k) : CT l Γ yX11_end cX11_end 2 (some .int) 0 0 0 0 [vr Γ 0, vi a1] g 175 μ (pI k) := by
  refine SW.ct (by decide) (Nat.le_of_ble_eq_true rfl) ?_
  refine z_sub (lv' := [(0, vr Γ 0), (1, vi a1)]) [0, 1] rfl ?_
  show SW l Γ yX11_end.cls cX11_end Y_H_end (pI k) g 175 0 0 μ 0 [(0, vr Γ 0), (1, vi a1)] []
  unfold f_H_end at h
  refine z_iload_n dX11_end_0 rfl 1 rfl ?_
  refine z_if_lt (tgt := 15) dX11_end_1 (by decide) h (fun h => ?_) (fun h => ?_)
  · refine z_iconst dX11_end_15 ?_
    exact z_iret rfl dX11_end_16 rfl rfl rfl ⟨_, rfl, hs, h⟩
  · refine z_iload_n dX11_end_4 rfl 1 rfl ?_
    refine z_rload_n dX11_end_5 rfl 0 rfl ?_
    refine z_getR (q := 1001) ff_11_1 dX11_end_6 kt_0 (Nat.le_of_ble_eq_true rfl) fl_X11_19 rfl (hs.1 _ _ sr_1001) ?_
    refine z_getI (q := 2281) ff_9_1 dX11_end_9 kt_10 (Nat.le_of_ble_eq_true rfl) fl_X11_153 rfl ?_
    refine z_icmp_le (tgt := 17) dX11_end_12 (by decide) h (fun h => ?_) (fun h => ?_)
    · refine z_iconst dX11_end_15 ?_
      exact z_iret rfl dX11_end_16 rfl rfl rfl ⟨_, rfl, hs, h⟩
    · refine z_rload_n dX11_end_17 rfl 0 rfl ?_
      refine z_getR (q := 1001) ff_11_1 dX11_end_18 kt_0 (Nat.le_of_ble_eq_true rfl) fl_X11_19 rfl (hs.1 _ _ sr_1001) ?_
      refine z_iload_n dX11_end_21 rfl 1 rfl ?_
      refine z_putI (q := 2281) ff_9_1 (Or.inl rfl) rfl dX11_end_22 kt_10 (Nat.le_of_ble_eq_true rfl) fl_X11_153 rfl ?_
      refine z_mm (fun μ_1 eμ_1 => ?_)
      replace h := h μ_1 eμ_1
      replace hs : StatR μ_1.2.2 := by rw [eμ_1]; exact hs
      refine z_iload_n dX11_end_25 rfl 1 rfl ?_
      exact z_iret rfl dX11_end_26 rfl rfl rfl ⟨_, rfl, hs, h⟩
abbrev Y_Chair_closeLatest : Yt := (1, none, yX0_closeLatest.name, { frames := 0, cells := 0, slots := 0, locals := 0 }, 175, 0, 0)
def f_Chair_closeLatest  (μ : Mem) (k : Mem → Prop) : Prop := ∀ μ_1 : Mem, μ_1 = sB μ 11630 0 false → k μ_1
theorem i_Chair_closeLatest {l : Launch} {Γ : Gam} {g : Nat} {μ : Mem} {k : Mem → Prop} (hs : StatR μ.2.2) (h : f_Chair_closeLatest  μ k) : CT l Γ yX0_closeLatest cX0_closeLatest 1 none 0 0 0 0 [vr Γ 83] g 175 μ (pV k) := by
  refine SW.ct (by decide) (Nat.le_of_ble_eq_true rfl) ?_
  refine z_sub (lv' := [(0, vr Γ 83)]) [0] rfl ?_
  show SW l Γ yX0_closeLatest.cls cX0_closeLatest Y_Chair_closeLatest (pV k) g 175 0 0 μ 0 [(0, vr Γ 83)] []
  unfold f_Chair_closeLatest at h
  refine z_rload_n dX0_closeLatest_0 rfl 0 rfl ?_
  refine z_iconst dX0_closeLatest_1 ?_
  refine z_putZ (b := false) (q := 11630) ff_0_6 (Or.inl rfl) rfl dX0_closeLatest_2 kt_83 (Nat.le_of_ble_eq_true rfl) fl_X0_39 rfl ?_
  refine z_mm (fun μ_1 eμ_1 => ?_)
  replace h := h μ_1 eμ_1
  replace hs : StatR μ_1.2.2 := by rw [eμ_1]; exact hs
  exact z_vret rfl dX0_closeLatest_5 rfl rfl rfl ⟨rfl, hs, h⟩
abbrev Y_Floor_put : Yt := (3, none, yX3_put.name, { frames := 1, cells := 0, slots := 0, locals := 22 }, 175, 0, 0)
def f_Floor_put (a1 : Int) (a2 : Int) (μ : Mem) (k : Mem → Prop) : Prop := ∀ μ_1 : Mem, μ_1 = set' μ 68 210 a1 a2 → k μ_1
theorem i_Floor_put {l : Launch} {Γ : Gam} {g : Nat} {a1 : Int} {a2 : Int} {μ : Mem} {k : Mem → Prop} (hs : StatR μ.2.2) (h : f_Floor_put a1 a2 μ k) : CT l Γ yX3_put cX3_put 3 none 1 22 0 0 [vr Γ 67, vi a1, vi a2] g 175 μ (pV k) := by
  refine SW.ct (by decide) (Nat.le_of_ble_eq_true rfl) ?_
  refine z_sub (lv' := [(0, vr Γ 67), (1, vi a1), (2, vi a2)]) [0, 1, 2] rfl ?_
  show SW l Γ yX3_put.cls cX3_put Y_Floor_put (pV k) g 175 0 0 μ 0 [(0, vr Γ 67), (1, vi a1), (2, vi a2)] []
  unfold f_Floor_put at h
  refine z_rload_n dX3_put_0 rfl 0 rfl ?_
  refine z_getR (q := 9577) ff_3_1 dX3_put_1 kt_67 (Nat.le_of_ble_eq_true rfl) fl_X3_9 rfl (hs.1 _ _ sr_9577) ?_
  refine z_iload_n dX3_put_4 rfl 1 rfl ?_
  refine z_iload_n dX3_put_5 rfl 2 rfl ?_
  refine z_NM (i_X11_set kt_68 (Nat.le_of_ble_eq_true rfl)) ok_X11_set nw_X3_58 ⟨Nat.le_of_ble_eq_true rfl, Nat.le_of_ble_eq_true rfl⟩ ⟨Nat.zero_le _, Nat.zero_le _⟩ rfl rfl (Nat.le_of_ble_eq_true rfl) dX3_put_6 ?_
  refine z_mm (fun μ_1 eμ_1 => ?_)
  replace h := h μ_1 eμ_1
  replace hs : StatR μ_1.2.2 := by rw [eμ_1]; exact (StatR.set hs)
  exact z_vret rfl dX3_put_9 rfl rfl rfl ⟨rfl, hs, h⟩
