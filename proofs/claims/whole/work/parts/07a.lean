def v_M_thrown  (μ : Mem) : Int := rI μ 15464 0
theorem i_M_thrown {l : Launch} {Γ : Gam} {g : Nat} {μ : Mem} : CT l Γ yX12_thrown cX12_thrown 1 (some .int) 0 0 0 0 [vr Γ 113] g 175 μ (pE (vi (v_M_thrown μ)) μ) := by
  refine SW.ct (by decide) (Nat.le_of_ble_eq_true rfl) ?_
  refine z_sub (lv' := [(0, vr Γ 113)]) [0] rfl ?_
  have hv : v_M_thrown μ = v_M_thrown μ := rfl
  refine z_rload_n dX12_thrown_0 rfl 0 rfl ?_
  refine z_getI (q := 15464) ff_12_0 dX12_thrown_1 kt_113 (Nat.le_of_ble_eq_true rfl) fl_X12_1 rfl ?_
  exact z_iret rfl dX12_thrown_4 rfl rfl rfl ⟨by first | (rw [hv]; done) | rfl, rfl⟩
def v_M_within (a1 : Int) (a2 : Int) (a3 : Int) : Bool := if w a1 < w a2 then false else (if w a3 < w a1 then false else true)
theorem i_M_within {l : Launch} {Γ : Gam} {g : Nat} {μ : Mem} {a1 : Int} {a2 : Int} {a3 : Int} : CT l Γ yX12_within cX12_within 3 (some .boolean) 0 0 0 0 [vi a1, vi a2, vi a3] g 175 μ (pE (vi (b2i (v_M_within a1 a2 a3))) μ) := by
  refine SW.ct (by decide) (Nat.le_of_ble_eq_true rfl) ?_
  refine z_sub (lv' := [(0, vi a1), (1, vi a2), (2, vi a3)]) [0, 1, 2] rfl ?_
  have hv : v_M_within a1 a2 a3 = v_M_within a1 a2 a3 := rfl
  refine z_iload_n dX12_within_0 rfl 0 rfl ?_
  refine z_iload_n dX12_within_1 rfl 1 rfl ?_
  refine z_icmp_lt (tgt := 14) dX12_within_2 (by decide) (eq_ite hv) (fun hv => ?_) (fun hv => ?_)
  · refine z_iconst dX12_within_14 ?_
    exact z_zret (b := false) rfl dX12_within_15 rfl rfl rfl ⟨by first | (rw [hv]; done) | rfl, rfl⟩
  · refine z_iload_n dX12_within_5 rfl 0 rfl ?_
    refine z_iload_n dX12_within_6 rfl 2 rfl ?_
    refine z_icmp_gt (tgt := 14) dX12_within_7 (by decide) (eq_ite hv) (fun hv => ?_) (fun hv => ?_)
    · refine z_iconst dX12_within_14 ?_
      exact z_zret (b := false) rfl dX12_within_15 rfl rfl rfl ⟨by first | (rw [hv]; done) | rfl, rfl⟩
    · refine z_iconst dX12_within_10 ?_
      refine z_goto (tgt := 15) dX12_within_11 (by decide) ?_
      exact z_zret (b := true) rfl dX12_within_15 rfl rfl rfl ⟨by first | (rw [hv]; done) | rfl, rfl⟩
def v_M_isAffiliate (a1 : Int) (μ : Mem) : Bool := if w a1 < 0 then false else (if w a1 < w (rI μ 15466 0) then true else false)
theorem i_M_isAffiliate {l : Launch} {Γ : Gam} {g : Nat} {μ : Mem} {a1 : Int} : CT l Γ yX12_isAffiliate cX12_isAffiliate 2 (some .boolean) 0 0 0 0 [vr Γ 113, vi a1] g 175 μ (pE (vi (b2i (v_M_isAffiliate a1 μ))) μ) := by
  refine SW.ct (by decide) (Nat.le_of_ble_eq_true rfl) ?_
  refine z_sub (lv' := [(0, vr Γ 113), (1, vi a1)]) [0, 1] rfl ?_
  have hv : v_M_isAffiliate a1 μ = v_M_isAffiliate a1 μ := rfl
  refine z_iload_n dX12_isAffiliate_0 rfl 1 rfl ?_
  refine z_if_lt (tgt := 16) dX12_isAffiliate_1 (by decide) (eq_ite hv) (fun hv => ?_) (fun hv => ?_)
  · refine z_iconst dX12_isAffiliate_16 ?_
    exact z_zret (b := false) rfl dX12_isAffiliate_17 rfl rfl rfl ⟨by first | (rw [hv]; done) | rfl, rfl⟩
  · refine z_iload_n dX12_isAffiliate_4 rfl 1 rfl ?_
    refine z_rload_n dX12_isAffiliate_5 rfl 0 rfl ?_
    refine z_getI (q := 15466) ff_12_2 dX12_isAffiliate_6 kt_113 (Nat.le_of_ble_eq_true rfl) fl_X12_209 rfl ?_
    refine z_icmp_ge (tgt := 16) dX12_isAffiliate_9 (by decide) (eq_ite hv) (fun hv => ?_) (fun hv => ?_)
    · refine z_iconst dX12_isAffiliate_12 ?_
      refine z_goto (tgt := 17) dX12_isAffiliate_13 (by decide) ?_
      exact z_zret (b := true) rfl dX12_isAffiliate_17 rfl rfl rfl ⟨by first | (rw [hv]; done) | rfl, rfl⟩
    · refine z_iconst dX12_isAffiliate_16 ?_
      exact z_zret (b := false) rfl dX12_isAffiliate_17 rfl rfl rfl ⟨by first | (rw [hv]; done) | rfl, rfl⟩
def v_M_isKnown (a1 : Int) (μ : Mem) : Bool := if w a1 < 0 then false else (if w (rI μ 15465 0) < w a1 then false else true)
theorem i_M_isKnown {l : Launch} {Γ : Gam} {g : Nat} {μ : Mem} {a1 : Int} : CT l Γ yX12_isKnown cX12_isKnown 2 (some .boolean) 0 0 0 0 [vr Γ 113, vi a1] g 175 μ (pE (vi (b2i (v_M_isKnown a1 μ))) μ) := by
  refine SW.ct (by decide) (Nat.le_of_ble_eq_true rfl) ?_
  refine z_sub (lv' := [(0, vr Γ 113), (1, vi a1)]) [0, 1] rfl ?_
  have hv : v_M_isKnown a1 μ = v_M_isKnown a1 μ := rfl
  refine z_iload_n dX12_isKnown_0 rfl 1 rfl ?_
  refine z_if_lt (tgt := 16) dX12_isKnown_1 (by decide) (eq_ite hv) (fun hv => ?_) (fun hv => ?_)
  · refine z_iconst dX12_isKnown_16 ?_
    exact z_zret (b := false) rfl dX12_isKnown_17 rfl rfl rfl ⟨by first | (rw [hv]; done) | rfl, rfl⟩
  · refine z_iload_n dX12_isKnown_4 rfl 1 rfl ?_
    refine z_rload_n dX12_isKnown_5 rfl 0 rfl ?_
    refine z_getI (q := 15465) ff_12_1 dX12_isKnown_6 kt_113 (Nat.le_of_ble_eq_true rfl) fl_X12_212 rfl ?_
    refine z_icmp_gt (tgt := 16) dX12_isKnown_9 (by decide) (eq_ite hv) (fun hv => ?_) (fun hv => ?_)
    · refine z_iconst dX12_isKnown_16 ?_
      exact z_zret (b := false) rfl dX12_isKnown_17 rfl rfl rfl ⟨by first | (rw [hv]; done) | rfl, rfl⟩
    · refine z_iconst dX12_isKnown_12 ?_
      refine z_goto (tgt := 17) dX12_isKnown_13 (by decide) ?_
      exact z_zret (b := true) rfl dX12_isKnown_17 rfl rfl rfl ⟨by first | (rw [hv]; done) | rfl, rfl⟩
abbrev Y_M_affiliate : Yt := (2, (some .int), yX12_affiliate.name, { frames := 1, cells := 0, slots := 0, locals := 22 }, 175, 0, 0)
def f_M_affiliate (a1 : Int) (μ : Mem) (k : Int → Mem → Prop) : Prop := ∀ μ_1 : Mem, μ_1 = sI μ 15464 0 0 → if (v_M_within a1 0 5) = true then (if w (rI μ_1 15466 0) = w 12 then (k (-1) μ_1) else (0 ≤ w (rI μ_1 15466 0) ∧ w (rI μ_1 15466 0) < ((12 : Nat) : Int) ∧ ∀ μ_2 : Mem, μ_2 = sI μ_1 114 (w (rI μ_1 15466 0)) a1 → ∀ μ_3 : Mem, μ_3 = sI μ_2 15466 0 ((rI μ_2 15466 0) + 1) → k ((rI μ_3 15466 0) - 1) μ_3)) else (k (-1) μ_1)
theorem i_M_affiliate {l : Launch} {Γ : Gam} {g : Nat} {a1 : Int} {μ : Mem} {k : Int → Mem → Prop} (hs : StatR μ.2.2) (h : f_M_affiliate a1 μ k) : CT l Γ yX12_affiliate cX12_affiliate 2 (some .int) 1 22 0 0 [vr Γ 113, vi a1] g 175 μ (pI k) := by
  refine SW.ct (by decide) (Nat.le_of_ble_eq_true rfl) ?_
  refine z_sub (lv' := [(0, vr Γ 113), (1, vi a1)]) [0, 1] rfl ?_
  show SW l Γ yX12_affiliate.cls cX12_affiliate Y_M_affiliate (pI k) g 175 0 0 μ 0 [(0, vr Γ 113), (1, vi a1)] []
  unfold f_M_affiliate at h
  refine z_rload_n dX12_affiliate_0 rfl 0 rfl ?_
  refine z_iconst dX12_affiliate_1 ?_
  refine z_putI (q := 15464) ff_12_0 (Or.inl rfl) rfl dX12_affiliate_2 kt_113 (Nat.le_of_ble_eq_true rfl) fl_X12_1 rfl ?_
  refine z_mm (fun μ_1 eμ_1 => ?_)
  replace h := h μ_1 eμ_1
  replace hs : StatR μ_1.2.2 := by rw [eμ_1]; exact hs
  refine z_iload_n dX12_affiliate_5 rfl 1 rfl ?_
  refine z_iconst dX12_affiliate_6 ?_
  refine z_iconst dX12_affiliate_7 ?_
  refine z_SE (i_M_within ) sk_X12_within ml_X12_215 ⟨Nat.le_of_ble_eq_true rfl, Nat.le_of_ble_eq_true rfl⟩ ⟨Nat.zero_le _, Nat.zero_le _⟩ rfl rfl (Nat.le_of_ble_eq_true rfl) dX12_affiliate_8 ?_
  refine z_ifeq_b (tgt := 23) dX12_affiliate_11 (by decide) h (fun h => ?_) (fun h => ?_)
  · refine z_rload_n dX12_affiliate_14 rfl 0 rfl ?_
    refine z_getI (q := 15466) ff_12_2 dX12_affiliate_15 kt_113 (Nat.le_of_ble_eq_true rfl) fl_X12_209 rfl ?_
    refine z_bipush dX12_affiliate_18 (by decide) ?_
    refine z_icmp_ne (tgt := 25) dX12_affiliate_20 (by decide) h (fun h => ?_) (fun h => ?_)
    · refine z_iconst dX12_affiliate_23 ?_
      exact z_iret rfl dX12_affiliate_24 rfl rfl rfl ⟨_, rfl, hs, h⟩
    · refine z_rload_n dX12_affiliate_25 rfl 0 rfl ?_
      refine z_getR (q := 15467) ff_12_3 dX12_affiliate_26 kt_113 (Nat.le_of_ble_eq_true rfl) fl_X12_13 rfl (hs.1 _ _ sr_15467) ?_
      refine z_rload_n dX12_affiliate_29 rfl 0 rfl ?_
      refine z_getI (q := 15466) ff_12_2 dX12_affiliate_30 kt_113 (Nat.le_of_ble_eq_true rfl) fl_X12_209 rfl ?_
      refine z_iload_n dX12_affiliate_33 rfl 1 rfl ?_
      obtain ⟨h0, h1, h⟩ := h
      refine z_iast dX12_affiliate_34 kt_114 (Nat.le_of_ble_eq_true rfl) h0 h1 ?_
      refine z_mm (fun μ_2 eμ_2 => ?_)
      replace h := h μ_2 eμ_2
      replace hs : StatR μ_2.2.2 := by rw [eμ_2]; exact hs
      refine z_rload_n dX12_affiliate_35 rfl 0 rfl ?_
      refine z_dup dX12_affiliate_36 rfl ?_
      refine z_getI (q := 15466) ff_12_2 dX12_affiliate_37 kt_113 (Nat.le_of_ble_eq_true rfl) fl_X12_209 rfl ?_
      refine z_iconst dX12_affiliate_40 ?_
      refine z_iadd dX12_affiliate_41 ?_
      refine z_putI (q := 15466) ff_12_2 (Or.inl rfl) rfl dX12_affiliate_42 kt_113 (Nat.le_of_ble_eq_true rfl) fl_X12_209 rfl ?_
      refine z_mm (fun μ_3 eμ_3 => ?_)
      replace h := h μ_3 eμ_3
      replace hs : StatR μ_3.2.2 := by rw [eμ_3]; exact hs
      refine z_rload_n dX12_affiliate_45 rfl 0 rfl ?_
      refine z_getI (q := 15466) ff_12_2 dX12_affiliate_46 kt_113 (Nat.le_of_ble_eq_true rfl) fl_X12_209 rfl ?_
      refine z_iconst dX12_affiliate_49 ?_
      refine z_isub dX12_affiliate_50 ?_
      exact z_iret rfl dX12_affiliate_51 rfl rfl rfl ⟨_, rfl, hs, h⟩
  · refine z_iconst dX12_affiliate_23 ?_
    exact z_iret rfl dX12_affiliate_24 rfl rfl rfl ⟨_, rfl, hs, h⟩
abbrev Y_M_branch : Yt := (3, (some .int), yX12_branch.name, { frames := 1, cells := 0, slots := 0, locals := 22 }, 175, 0, 0)
def f_M_branch (a1 : Int) (a2 : Int) (μ : Mem) (k : Int → Mem → Prop) : Prop := ∀ μ_1 : Mem, μ_1 = sI μ 15464 0 0 → if (v_M_isAffiliate a1 μ_1) = true then (if (v_M_within a2 1 999) = true then (if w (rI μ_1 15468 0) = w 48 then (k (-1) μ_1) else (0 ≤ w (rI μ_1 15468 0) ∧ w (rI μ_1 15468 0) < ((48 : Nat) : Int) ∧ ∀ μ_2 : Mem, μ_2 = sI μ_1 115 (w (rI μ_1 15468 0)) a1 → 0 ≤ w (rI μ_2 15468 0) ∧ w (rI μ_2 15468 0) < ((48 : Nat) : Int) ∧ ∀ μ_3 : Mem, μ_3 = sI μ_2 116 (w (rI μ_2 15468 0)) a2 → ∀ μ_4 : Mem, μ_4 = sI μ_3 15468 0 ((rI μ_3 15468 0) + 1) → k ((rI μ_4 15468 0) - 1) μ_4)) else (k (-1) μ_1)) else (k (-1) μ_1)
theorem i_M_branch {l : Launch} {Γ : Gam} {g : Nat} {a1 : Int} {a2 : Int} {μ : Mem} {k : Int → Mem → Prop} (hs : StatR μ.2.2) (h : f_M_branch a1 a2 μ k) : CT l Γ yX12_branch cX12_branch 3 (some .int) 1 22 0 0 [vr Γ 113, vi a1, vi a2] g 175 μ (pI k) := by
  refine SW.ct (by decide) (Nat.le_of_ble_eq_true rfl) ?_
  refine z_sub (lv' := [(0, vr Γ 113), (1, vi a1), (2, vi a2)]) [0, 1, 2] rfl ?_
  show SW l Γ yX12_branch.cls cX12_branch Y_M_branch (pI k) g 175 0 0 μ 0 [(0, vr Γ 113), (1, vi a1), (2, vi a2)] []
  unfold f_M_branch at h
  refine z_rload_n dX12_branch_0 rfl 0 rfl ?_
  refine z_iconst dX12_branch_1 ?_
  refine z_putI (q := 15464) ff_12_0 (Or.inl rfl) rfl dX12_branch_2 kt_113 (Nat.le_of_ble_eq_true rfl) fl_X12_1 rfl ?_
  refine z_mm (fun μ_1 eμ_1 => ?_)
  replace h := h μ_1 eμ_1
  replace hs : StatR μ_1.2.2 := by rw [eμ_1]; exact hs
  refine z_rload_n dX12_branch_5 rfl 0 rfl ?_
  refine z_iload_n dX12_branch_6 rfl 1 rfl ?_
  refine z_VE (i_M_isAffiliate ) vk_X12_isAffiliate kt_113 (Nat.le_of_ble_eq_true rfl) rfl ml_X12_219 ⟨Nat.le_of_ble_eq_true rfl, Nat.le_of_ble_eq_true rfl⟩ ⟨Nat.zero_le _, Nat.zero_le _⟩ rfl rfl (Nat.le_of_ble_eq_true rfl) dX12_branch_7 ?_
  refine z_ifeq_b (tgt := 33) dX12_branch_10 (by decide) h (fun h => ?_) (fun h => ?_)
  · refine z_iload_n dX12_branch_13 rfl 2 rfl ?_
    refine z_iconst dX12_branch_14 ?_
    refine z_sipush dX12_branch_15 (by decide) ?_
    refine z_SE (i_M_within ) sk_X12_within ml_X12_215 ⟨Nat.le_of_ble_eq_true rfl, Nat.le_of_ble_eq_true rfl⟩ ⟨Nat.zero_le _, Nat.zero_le _⟩ rfl rfl (Nat.le_of_ble_eq_true rfl) dX12_branch_18 ?_
    refine z_ifeq_b (tgt := 33) dX12_branch_21 (by decide) h (fun h => ?_) (fun h => ?_)
    · refine z_rload_n dX12_branch_24 rfl 0 rfl ?_
      refine z_getI (q := 15468) ff_12_4 dX12_branch_25 kt_113 (Nat.le_of_ble_eq_true rfl) fl_X12_223 rfl ?_
      refine z_bipush dX12_branch_28 (by decide) ?_
      refine z_icmp_ne (tgt := 35) dX12_branch_30 (by decide) h (fun h => ?_) (fun h => ?_)
      · refine z_iconst dX12_branch_33 ?_
        exact z_iret rfl dX12_branch_34 rfl rfl rfl ⟨_, rfl, hs, h⟩
      · refine z_rload_n dX12_branch_35 rfl 0 rfl ?_
        refine z_getR (q := 15469) ff_12_5 dX12_branch_36 kt_113 (Nat.le_of_ble_eq_true rfl) fl_X12_17 rfl (hs.1 _ _ sr_15469) ?_
        refine z_rload_n dX12_branch_39 rfl 0 rfl ?_
        refine z_getI (q := 15468) ff_12_4 dX12_branch_40 kt_113 (Nat.le_of_ble_eq_true rfl) fl_X12_223 rfl ?_
        refine z_iload_n dX12_branch_43 rfl 1 rfl ?_
        obtain ⟨h0, h1, h⟩ := h
        refine z_iast dX12_branch_44 kt_115 (Nat.le_of_ble_eq_true rfl) h0 h1 ?_
        refine z_mm (fun μ_2 eμ_2 => ?_)
        replace h := h μ_2 eμ_2
        replace hs : StatR μ_2.2.2 := by rw [eμ_2]; exact hs
        refine z_rload_n dX12_branch_45 rfl 0 rfl ?_
        refine z_getR (q := 15470) ff_12_6 dX12_branch_46 kt_113 (Nat.le_of_ble_eq_true rfl) fl_X12_20 rfl (hs.1 _ _ sr_15470) ?_
        refine z_rload_n dX12_branch_49 rfl 0 rfl ?_
        refine z_getI (q := 15468) ff_12_4 dX12_branch_50 kt_113 (Nat.le_of_ble_eq_true rfl) fl_X12_223 rfl ?_
        refine z_iload_n dX12_branch_53 rfl 2 rfl ?_
        obtain ⟨h0, h1, h⟩ := h
        refine z_iast dX12_branch_54 kt_116 (Nat.le_of_ble_eq_true rfl) h0 h1 ?_
        refine z_mm (fun μ_3 eμ_3 => ?_)
        replace h := h μ_3 eμ_3
        replace hs : StatR μ_3.2.2 := by rw [eμ_3]; exact hs
        refine z_rload_n dX12_branch_55 rfl 0 rfl ?_
        refine z_dup dX12_branch_56 rfl ?_
        refine z_getI (q := 15468) ff_12_4 dX12_branch_57 kt_113 (Nat.le_of_ble_eq_true rfl) fl_X12_223 rfl ?_
        refine z_iconst dX12_branch_60 ?_
        refine z_iadd dX12_branch_61 ?_
        refine z_putI (q := 15468) ff_12_4 (Or.inl rfl) rfl dX12_branch_62 kt_113 (Nat.le_of_ble_eq_true rfl) fl_X12_223 rfl ?_
        refine z_mm (fun μ_4 eμ_4 => ?_)
        replace h := h μ_4 eμ_4
        replace hs : StatR μ_4.2.2 := by rw [eμ_4]; exact hs
        refine z_rload_n dX12_branch_65 rfl 0 rfl ?_
        refine z_getI (q := 15468) ff_12_4 dX12_branch_66 kt_113 (Nat.le_of_ble_eq_true rfl) fl_X12_223 rfl ?_
        refine z_iconst dX12_branch_69 ?_
        refine z_isub dX12_branch_70 ?_
        exact z_iret rfl dX12_branch_71 rfl rfl rfl ⟨_, rfl, hs, h⟩
    · refine z_iconst dX12_branch_33 ?_
      exact z_iret rfl dX12_branch_34 rfl rfl rfl ⟨_, rfl, hs, h⟩
  · refine z_iconst dX12_branch_33 ?_
    exact z_iret rfl dX12_branch_34 rfl rfl rfl ⟨_, rfl, hs, h⟩
abbrev Y_M_day : Yt := (2, (some .int), yX12_day.name, { frames := 1, cells := 0, slots := 0, locals := 22 }, 175, 0, 0)
def f_M_day (a1 : Int) (μ : Mem) (k : Int → Mem → Prop) : Prop := ∀ μ_1 : Mem, μ_1 = sI μ 15464 0 0 → if (v_M_within a1 0 1000) = true then (if w 100000 < w ((rI μ_1 15465 0) + a1) then (k (-1) μ_1) else (∀ μ_2 : Mem, μ_2 = sI μ_1 15465 0 ((rI μ_1 15465 0) + a1) → k (rI μ_2 15465 0) μ_2)) else (k (-1) μ_1)
theorem i_M_day {l : Launch} {Γ : Gam} {g : Nat} {a1 : Int} {μ : Mem} {k : Int → Mem → Prop} (hs : StatR μ.2.2) (h : f_M_day a1 μ k) : CT l Γ yX12_day cX12_day 2 (some .int) 1 22 0 0 [vr Γ 113, vi a1] g 175 μ (pI k) := by
  refine SW.ct (by decide) (Nat.le_of_ble_eq_true rfl) ?_
  refine z_sub (lv' := [(0, vr Γ 113), (1, vi a1)]) [0, 1] rfl ?_
  show SW l Γ yX12_day.cls cX12_day Y_M_day (pI k) g 175 0 0 μ 0 [(0, vr Γ 113), (1, vi a1)] []
  unfold f_M_day at h
  refine z_rload_n dX12_day_0 rfl 0 rfl ?_
  refine z_iconst dX12_day_1 ?_
  refine z_putI (q := 15464) ff_12_0 (Or.inl rfl) rfl dX12_day_2 kt_113 (Nat.le_of_ble_eq_true rfl) fl_X12_1 rfl ?_
  refine z_mm (fun μ_1 eμ_1 => ?_)
  replace h := h μ_1 eμ_1
  replace hs : StatR μ_1.2.2 := by rw [eμ_1]; exact hs
  refine z_iload_n dX12_day_5 rfl 1 rfl ?_
  refine z_iconst dX12_day_6 ?_
  refine z_sipush dX12_day_7 (by decide) ?_
  refine z_SE (i_M_within ) sk_X12_within ml_X12_215 ⟨Nat.le_of_ble_eq_true rfl, Nat.le_of_ble_eq_true rfl⟩ ⟨Nat.zero_le _, Nat.zero_le _⟩ rfl rfl (Nat.le_of_ble_eq_true rfl) dX12_day_10 ?_
  refine z_ifeq_b (tgt := 27) dX12_day_13 (by decide) h (fun h => ?_) (fun h => ?_)
  · refine z_rload_n dX12_day_16 rfl 0 rfl ?_
    refine z_getI (q := 15465) ff_12_1 dX12_day_17 kt_113 (Nat.le_of_ble_eq_true rfl) fl_X12_212 rfl ?_
    refine z_iload_n dX12_day_20 rfl 1 rfl ?_
    refine z_iadd dX12_day_21 ?_
    refine z_ldc (x := 100000) dX12_day_22 cs_X12_226 ?_
    refine z_icmp_le (tgt := 29) dX12_day_24 (by decide) h (fun h => ?_) (fun h => ?_)
    · refine z_iconst dX12_day_27 ?_
      exact z_iret rfl dX12_day_28 rfl rfl rfl ⟨_, rfl, hs, h⟩
    · refine z_rload_n dX12_day_29 rfl 0 rfl ?_
      refine z_dup dX12_day_30 rfl ?_
      refine z_getI (q := 15465) ff_12_1 dX12_day_31 kt_113 (Nat.le_of_ble_eq_true rfl) fl_X12_212 rfl ?_
      refine z_iload_n dX12_day_34 rfl 1 rfl ?_
      refine z_iadd dX12_day_35 ?_
      refine z_putI (q := 15465) ff_12_1 (Or.inl rfl) rfl dX12_day_36 kt_113 (Nat.le_of_ble_eq_true rfl) fl_X12_212 rfl ?_
      refine z_mm (fun μ_2 eμ_2 => ?_)
      replace h := h μ_2 eμ_2
      replace hs : StatR μ_2.2.2 := by rw [eμ_2]; exact hs
      refine z_rload_n dX12_day_39 rfl 0 rfl ?_
      refine z_getI (q := 15465) ff_12_1 dX12_day_40 kt_113 (Nat.le_of_ble_eq_true rfl) fl_X12_212 rfl ?_
      exact z_iret rfl dX12_day_43 rfl rfl rfl ⟨_, rfl, hs, h⟩
  · refine z_iconst dX12_day_27 ?_
    exact z_iret rfl dX12_day_28 rfl rfl rfl ⟨_, rfl, hs, h⟩
abbrev Y_M_closing : Yt := (2, (some .boolean), yX12_closing.name, { frames := 1, cells := 0, slots := 0, locals := 22 }, 175, 0, 0)
def f_M_closing (a1 : Int) (μ : Mem) (k : Bool → Mem → Prop) : Prop := ∀ μ_1 : Mem, μ_1 = sI μ 15464 0 0 → if (v_M_within a1 (-1) 100000) = true then (∀ μ_2 : Mem, μ_2 = sI μ_1 15471 0 a1 → k true μ_2) else (k false μ_1)
theorem i_M_closing {l : Launch} {Γ : Gam} {g : Nat} {a1 : Int} {μ : Mem} {k : Bool → Mem → Prop} (hs : StatR μ.2.2) (h : f_M_closing a1 μ k) : CT l Γ yX12_closing cX12_closing 2 (some .boolean) 1 22 0 0 [vr Γ 113, vi a1] g 175 μ (pB k) := by
  refine SW.ct (by decide) (Nat.le_of_ble_eq_true rfl) ?_
  refine z_sub (lv' := [(0, vr Γ 113), (1, vi a1)]) [0, 1] rfl ?_
  show SW l Γ yX12_closing.cls cX12_closing Y_M_closing (pB k) g 175 0 0 μ 0 [(0, vr Γ 113), (1, vi a1)] []
  unfold f_M_closing at h
  refine z_rload_n dX12_closing_0 rfl 0 rfl ?_
  refine z_iconst dX12_closing_1 ?_
  refine z_putI (q := 15464) ff_12_0 (Or.inl rfl) rfl dX12_closing_2 kt_113 (Nat.le_of_ble_eq_true rfl) fl_X12_1 rfl ?_
  refine z_mm (fun μ_1 eμ_1 => ?_)
  replace h := h μ_1 eμ_1
  replace hs : StatR μ_1.2.2 := by rw [eμ_1]; exact hs
  refine z_iload_n dX12_closing_5 rfl 1 rfl ?_
  refine z_iconst dX12_closing_6 ?_
  refine z_ldc (x := 100000) dX12_closing_7 cs_X12_226 ?_
  refine z_SE (i_M_within ) sk_X12_within ml_X12_215 ⟨Nat.le_of_ble_eq_true rfl, Nat.le_of_ble_eq_true rfl⟩ ⟨Nat.zero_le _, Nat.zero_le _⟩ rfl rfl (Nat.le_of_ble_eq_true rfl) dX12_closing_9 ?_
  refine z_ifne_b (tgt := 17) dX12_closing_12 (by decide) h (fun h => ?_) (fun h => ?_)
  · refine z_rload_n dX12_closing_17 rfl 0 rfl ?_
    refine z_iload_n dX12_closing_18 rfl 1 rfl ?_
    refine z_putI (q := 15471) ff_12_7 (Or.inl rfl) rfl dX12_closing_19 kt_113 (Nat.le_of_ble_eq_true rfl) fl_X12_23 rfl ?_
    refine z_mm (fun μ_2 eμ_2 => ?_)
    replace h := h μ_2 eμ_2
    replace hs : StatR μ_2.2.2 := by rw [eμ_2]; exact hs
    refine z_iconst dX12_closing_22 ?_
    exact z_zret (b := true) rfl dX12_closing_23 rfl rfl rfl ⟨_, rfl, hs, h⟩
  · refine z_iconst dX12_closing_15 ?_
    exact z_zret (b := false) rfl dX12_closing_16 rfl rfl rfl ⟨_, rfl, hs, h⟩
abbrev Y_M_copies : Yt := (4, none, yX12_copies.name, { frames := 0, cells := 0, slots := 0, locals := 0 }, 175, 0, 0)
def l_M_copies_2 (a1 : Nat) (n1 : Nat) (a2 : Nat) (n2 : Nat) (X_2_20 : Mem → Prop) : Nat → Int → Mem → Prop
  | 0, _, _ => False
  | fu2 + 1, v3, μ_1 => if w v3 < w ((n1 : Nat) : Int) then (0 ≤ w v3 ∧ w v3 < ((n1 : Nat) : Int) ∧ 0 ≤ w v3 ∧ w v3 < ((n2 : Nat) : Int) ∧ ∀ μ_2 : Mem, μ_2 = sI μ_1 a2 (w v3) (rI μ_1 a1 (w v3)) → (l_M_copies_2 a1 n1 a2 n2 X_2_20 fu2) (v3 + 1) μ_2) else (X_2_20 μ_1)
def f_M_copies (a1 n1 : Nat) (a2 n2 : Nat) (μ : Mem) (k : Mem → Prop) : Prop := ∃ m2 : Nat, l_M_copies_2 a1 n1 a2 n2 (fun (μ_3 : Mem) => k μ_3) m2 0 μ
theorem L_M_copies_2 {l : Launch} {Γ : Gam} {g : Nat} {a1 : Nat} {n1 : Nat} {a2 : Nat} {n2 : Nat} {X_2_20 : Mem → Prop} {k : Mem → Prop} (ka1 : KT a1 = (1, n1)) (la1 : a1 < 175) (ka2 : KT a2 = (1, n2)) (la2 : a2 < 175) (hX_2_20 : ∀ (ν : Mem), StatR ν.2.2 → X_2_20 ν → SW l Γ yX12_copies.cls cX12_copies Y_M_copies (pV k) g 175 0 0 ν 20 [] []) (n9 : Nat) : ∀ (v3 : Int) (μ_1 : Mem), StatR μ_1.2.2 → l_M_copies_2 a1 n1 a2 n2 X_2_20 n9 v3 μ_1 → SW l Γ yX12_copies.cls cX12_copies Y_M_copies (pV k) g 175 0 0 μ_1 2 [(1, vr Γ a1), (2, vr Γ a2), (3, vi v3)] [] := by
  induction n9 with
  | zero =>
    intro v3 μ_1 hs h
    exact h.elim
  | succ n9 hR_2 =>
    intro v3 μ_1 hs h
    rw [l_M_copies_2] at h
    refine z_iload_n dX12_copies_2 rfl 2 rfl ?_
    refine z_rload_n dX12_copies_3 rfl 0 rfl ?_
    refine z_alen dX12_copies_4 ka1 (by decide) la1 ?_
    refine z_icmp_ge (tgt := 20) dX12_copies_5 (by decide) h (fun h => ?_) (fun h => ?_)
    · refine z_rload_n dX12_copies_8 rfl 1 rfl ?_
      refine z_iload_n dX12_copies_9 rfl 2 rfl ?_
      refine z_rload_n dX12_copies_10 rfl 0 rfl ?_
      refine z_iload_n dX12_copies_11 rfl 2 rfl ?_
      obtain ⟨h0, h1, h⟩ := h
      refine z_iald dX12_copies_12 ka1 la1 h0 h1 ?_
      obtain ⟨h0, h1, h⟩ := h
      refine z_iast dX12_copies_13 ka2 la2 h0 h1 ?_
      refine z_mm (fun μ_2 eμ_2 => ?_)
      replace h := h μ_2 eμ_2
      replace hs : StatR μ_2.2.2 := by rw [eμ_2]; exact hs
      refine z_iinc (j := 2) (lv' := [(3, vi (v3 + 1)), (1, vr Γ a1), (2, vr Γ a2)]) dX12_copies_14 rfl (Nat.le_of_ble_eq_true rfl) rfl ?_
      refine z_goto (tgt := 2) dX12_copies_17 (by decide) ?_
      refine z_sub (lv' := [(1, vr Γ a1), (2, vr Γ a2), (3, vi (v3 + 1))]) [1, 2, 0] rfl ?_
      exact hR_2 (v3 + 1) μ_2 hs h
    · refine z_sub (lv' := []) [] rfl ?_
      exact hX_2_20 μ_1 hs h
theorem i_M_copies {l : Launch} {Γ : Gam} {g : Nat} {a1 n1 : Nat} {a2 n2 : Nat} {μ : Mem} {k : Mem → Prop} (ka1 : KT a1 = (1, n1)) (la1 : a1 < 175) (ka2 : KT a2 = (1, n2)) (la2 : a2 < 175) (hs : StatR μ.2.2) (h : f_M_copies a1 n1 a2 n2 μ k) : CT l Γ yX12_copies cX12_copies 4 none 0 0 0 0 [vr Γ 113, vr Γ a1, vr Γ a2] g 175 μ (pV k) := by
  refine SW.ct (by decide) (Nat.le_of_ble_eq_true rfl) ?_
  refine z_sub (lv' := [(0, vr Γ 113), (1, vr Γ a1), (2, vr Γ a2)]) [0, 1, 2] rfl ?_
  show SW l Γ yX12_copies.cls cX12_copies Y_M_copies (pV k) g 175 0 0 μ 0 [(0, vr Γ 113), (1, vr Γ a1), (2, vr Γ a2)] []
  unfold f_M_copies at h
  refine z_iconst dX12_copies_0 ?_
  refine z_istore_n (lv' := [(3, vi 0), (0, vr Γ 113), (1, vr Γ a1), (2, vr Γ a2)]) dX12_copies_1 rfl (Nat.le_of_ble_eq_true rfl) rfl ?_
  obtain ⟨m2, h⟩ := h
  refine z_sub (lv' := [(1, vr Γ a1), (2, vr Γ a2), (3, vi 0)]) [2, 3, 0] rfl ?_
  refine L_M_copies_2 ka1 la1 ka2 la2 (fun μ_3 hs h => ?_) m2 0 μ hs h
  exact z_vret rfl dX12_copies_20 rfl rfl rfl ⟨rfl, hs, h⟩
abbrev Y_M_keeps : Yt := (2, none, yX12_keeps.name, { frames := 1, cells := 0, slots := 0, locals := 23 }, 175, 0, 0)
def l_M_keeps_94 (X_94_119 : Mem → Prop) : Nat → Int → Mem → Prop
  | 0, _, _ => False
  | fu94 + 1, v1, μ_9 => if w v1 < w 288 then (0 ≤ w v1 ∧ w v1 < ((288 : Nat) : Int) ∧ 0 ≤ w v1 ∧ w v1 < ((288 : Nat) : Int) ∧ ∀ μ_10 : Mem, μ_10 = sB μ_9 135 (w v1) (rB μ_9 127 (w v1)) → (l_M_keeps_94 X_94_119 fu94) (v1 + 1) μ_10) else (X_94_119 μ_9)
def f_M_keeps  (μ : Mem) (k : Mem → Prop) : Prop := ∀ μ_1 : Mem, μ_1 = sI μ 15489 0 (rI μ 15480 0) → f_M_copies 122 24 130 24 μ_1 (fun μ_2 => f_M_copies 123 40 131 40 μ_2 (fun μ_3 => f_M_copies 124 10 132 10 μ_3 (fun μ_4 => f_M_copies 125 24 133 24 μ_4 (fun μ_5 => f_M_copies 126 288 134 288 μ_5 (fun μ_6 => f_M_copies 128 288 136 288 μ_6 (fun μ_7 => f_M_copies 129 61 137 61 μ_7 (fun μ_8 => ∃ m94 : Nat, l_M_keeps_94 (fun (μ_11 : Mem) => k μ_11) m94 0 μ_8)))))))
theorem L_M_keeps_94 {l : Launch} {Γ : Gam} {g : Nat} {X_94_119 : Mem → Prop} {k : Mem → Prop} (hX_94_119 : ∀ (ν : Mem), StatR ν.2.2 → X_94_119 ν → SW l Γ yX12_keeps.cls cX12_keeps Y_M_keeps (pV k) g 175 0 0 ν 119 [] []) (n9 : Nat) : ∀ (v1 : Int) (μ_9 : Mem), StatR μ_9.2.2 → l_M_keeps_94 X_94_119 n9 v1 μ_9 → SW l Γ yX12_keeps.cls cX12_keeps Y_M_keeps (pV k) g 175 0 0 μ_9 94 [(0, vr Γ 113), (1, vi v1)] [] := by
  induction n9 with
  | zero =>
    intro v1 μ_9 hs h
    exact h.elim
  | succ n9 hR_94 =>
    intro v1 μ_9 hs h
    rw [l_M_keeps_94] at h
    refine z_iload_n dX12_keeps_94 rfl 1 rfl ?_
    refine z_sipush dX12_keeps_95 (by decide) ?_
    refine z_icmp_ge (tgt := 119) dX12_keeps_98 (by decide) h (fun h => ?_) (fun h => ?_)
    · refine z_rload_n dX12_keeps_101 rfl 0 rfl ?_
      refine z_getR (q := 15495) ff_12_31 dX12_keeps_102 kt_113 (Nat.le_of_ble_eq_true rfl) fl_X12_87 rfl (hs.1 _ _ sr_15495) ?_
      refine z_iload_n dX12_keeps_105 rfl 1 rfl ?_
      refine z_rload_n dX12_keeps_106 rfl 0 rfl ?_
      refine z_getR (q := 15486) ff_12_22 dX12_keeps_107 kt_113 (Nat.le_of_ble_eq_true rfl) fl_X12_59 rfl (hs.1 _ _ sr_15486) ?_
      refine z_iload_n dX12_keeps_110 rfl 1 rfl ?_
      obtain ⟨h0, h1, h⟩ := h
      refine z_zald dX12_keeps_111 kt_127 (Nat.le_of_ble_eq_true rfl) h0 h1 ?_
      obtain ⟨h0, h1, h⟩ := h
      refine z_zast dX12_keeps_112 kt_135 (Nat.le_of_ble_eq_true rfl) h0 h1 ?_
      refine z_mm (fun μ_10 eμ_10 => ?_)
      replace h := h μ_10 eμ_10
      replace hs : StatR μ_10.2.2 := by rw [eμ_10]; exact hs
      refine z_iinc (j := 1) (lv' := [(1, vi (v1 + 1)), (0, vr Γ 113)]) dX12_keeps_113 rfl (Nat.le_of_ble_eq_true rfl) rfl ?_
      refine z_goto (tgt := 94) dX12_keeps_116 (by decide) ?_
      refine z_sub (lv' := [(0, vr Γ 113), (1, vi (v1 + 1))]) [1, 0] rfl ?_
      exact hR_94 (v1 + 1) μ_10 hs h
    · refine z_sub (lv' := []) [] rfl ?_
      exact hX_94_119 μ_9 hs h
theorem i_M_keeps {l : Launch} {Γ : Gam} {g : Nat} {μ : Mem} {k : Mem → Prop} (hs : StatR μ.2.2) (h : f_M_keeps  μ k) : CT l Γ yX12_keeps cX12_keeps 2 none 1 23 0 0 [vr Γ 113] g 175 μ (pV k) := by
  refine SW.ct (by decide) (Nat.le_of_ble_eq_true rfl) ?_
  refine z_sub (lv' := [(0, vr Γ 113)]) [0] rfl ?_
  show SW l Γ yX12_keeps.cls cX12_keeps Y_M_keeps (pV k) g 175 0 0 μ 0 [(0, vr Γ 113)] []
  unfold f_M_keeps at h
  refine z_rload_n dX12_keeps_0 rfl 0 rfl ?_
  refine z_rload_n dX12_keeps_1 rfl 0 rfl ?_
  refine z_getI (q := 15480) ff_12_16 dX12_keeps_2 kt_113 (Nat.le_of_ble_eq_true rfl) fl_X12_41 rfl ?_
  refine z_putI (q := 15489) ff_12_25 (Or.inl rfl) rfl dX12_keeps_5 kt_113 (Nat.le_of_ble_eq_true rfl) fl_X12_69 rfl ?_
  refine z_mm (fun μ_1 eμ_1 => ?_)
  replace h := h μ_1 eμ_1
  replace hs : StatR μ_1.2.2 := by rw [eμ_1]; exact hs
  refine z_rload_n dX12_keeps_8 rfl 0 rfl ?_
  refine z_rload_n dX12_keeps_9 rfl 0 rfl ?_
  refine z_getR (q := 15481) ff_12_17 dX12_keeps_10 kt_113 (Nat.le_of_ble_eq_true rfl) fl_X12_44 rfl (hs.1 _ _ sr_15481) ?_
  refine z_rload_n dX12_keeps_13 rfl 0 rfl ?_
  refine z_getR (q := 15490) ff_12_26 dX12_keeps_14 kt_113 (Nat.le_of_ble_eq_true rfl) fl_X12_72 rfl (hs.1 _ _ sr_15490) ?_
  refine z_VU (i_M_copies kt_122 (Nat.le_of_ble_eq_true rfl) kt_130 (Nat.le_of_ble_eq_true rfl) hs h) vk_X12_copies kt_113 (Nat.le_of_ble_eq_true rfl) rfl ml_X12_227 ⟨Nat.le_of_ble_eq_true rfl, Nat.le_of_ble_eq_true rfl⟩ ⟨Nat.zero_le _, Nat.zero_le _⟩ rfl rfl (Nat.le_of_ble_eq_true rfl) dX12_keeps_17 (fun μ_2 hs h => ?_)
  refine z_rload_n dX12_keeps_20 rfl 0 rfl ?_
  refine z_rload_n dX12_keeps_21 rfl 0 rfl ?_
  refine z_getR (q := 15482) ff_12_18 dX12_keeps_22 kt_113 (Nat.le_of_ble_eq_true rfl) fl_X12_47 rfl (hs.1 _ _ sr_15482) ?_
  refine z_rload_n dX12_keeps_25 rfl 0 rfl ?_
  refine z_getR (q := 15491) ff_12_27 dX12_keeps_26 kt_113 (Nat.le_of_ble_eq_true rfl) fl_X12_75 rfl (hs.1 _ _ sr_15491) ?_
  refine z_VU (i_M_copies kt_123 (Nat.le_of_ble_eq_true rfl) kt_131 (Nat.le_of_ble_eq_true rfl) hs h) vk_X12_copies kt_113 (Nat.le_of_ble_eq_true rfl) rfl ml_X12_227 ⟨Nat.le_of_ble_eq_true rfl, Nat.le_of_ble_eq_true rfl⟩ ⟨Nat.zero_le _, Nat.zero_le _⟩ rfl rfl (Nat.le_of_ble_eq_true rfl) dX12_keeps_29 (fun μ_3 hs h => ?_)
  refine z_rload_n dX12_keeps_32 rfl 0 rfl ?_
  refine z_rload_n dX12_keeps_33 rfl 0 rfl ?_
  refine z_getR (q := 15483) ff_12_19 dX12_keeps_34 kt_113 (Nat.le_of_ble_eq_true rfl) fl_X12_50 rfl (hs.1 _ _ sr_15483) ?_
  refine z_rload_n dX12_keeps_37 rfl 0 rfl ?_
  refine z_getR (q := 15492) ff_12_28 dX12_keeps_38 kt_113 (Nat.le_of_ble_eq_true rfl) fl_X12_78 rfl (hs.1 _ _ sr_15492) ?_
  refine z_VU (i_M_copies kt_124 (Nat.le_of_ble_eq_true rfl) kt_132 (Nat.le_of_ble_eq_true rfl) hs h) vk_X12_copies kt_113 (Nat.le_of_ble_eq_true rfl) rfl ml_X12_227 ⟨Nat.le_of_ble_eq_true rfl, Nat.le_of_ble_eq_true rfl⟩ ⟨Nat.zero_le _, Nat.zero_le _⟩ rfl rfl (Nat.le_of_ble_eq_true rfl) dX12_keeps_41 (fun μ_4 hs h => ?_)
  refine z_rload_n dX12_keeps_44 rfl 0 rfl ?_
  refine z_rload_n dX12_keeps_45 rfl 0 rfl ?_
  refine z_getR (q := 15484) ff_12_20 dX12_keeps_46 kt_113 (Nat.le_of_ble_eq_true rfl) fl_X12_53 rfl (hs.1 _ _ sr_15484) ?_
  refine z_rload_n dX12_keeps_49 rfl 0 rfl ?_
  refine z_getR (q := 15493) ff_12_29 dX12_keeps_50 kt_113 (Nat.le_of_ble_eq_true rfl) fl_X12_81 rfl (hs.1 _ _ sr_15493) ?_
  refine z_VU (i_M_copies kt_125 (Nat.le_of_ble_eq_true rfl) kt_133 (Nat.le_of_ble_eq_true rfl) hs h) vk_X12_copies kt_113 (Nat.le_of_ble_eq_true rfl) rfl ml_X12_227 ⟨Nat.le_of_ble_eq_true rfl, Nat.le_of_ble_eq_true rfl⟩ ⟨Nat.zero_le _, Nat.zero_le _⟩ rfl rfl (Nat.le_of_ble_eq_true rfl) dX12_keeps_53 (fun μ_5 hs h => ?_)
  refine z_rload_n dX12_keeps_56 rfl 0 rfl ?_
  refine z_rload_n dX12_keeps_57 rfl 0 rfl ?_
  refine z_getR (q := 15485) ff_12_21 dX12_keeps_58 kt_113 (Nat.le_of_ble_eq_true rfl) fl_X12_56 rfl (hs.1 _ _ sr_15485) ?_
  refine z_rload_n dX12_keeps_61 rfl 0 rfl ?_
  refine z_getR (q := 15494) ff_12_30 dX12_keeps_62 kt_113 (Nat.le_of_ble_eq_true rfl) fl_X12_84 rfl (hs.1 _ _ sr_15494) ?_
  refine z_VU (i_M_copies kt_126 (Nat.le_of_ble_eq_true rfl) kt_134 (Nat.le_of_ble_eq_true rfl) hs h) vk_X12_copies kt_113 (Nat.le_of_ble_eq_true rfl) rfl ml_X12_227 ⟨Nat.le_of_ble_eq_true rfl, Nat.le_of_ble_eq_true rfl⟩ ⟨Nat.zero_le _, Nat.zero_le _⟩ rfl rfl (Nat.le_of_ble_eq_true rfl) dX12_keeps_65 (fun μ_6 hs h => ?_)
  refine z_rload_n dX12_keeps_68 rfl 0 rfl ?_
  refine z_rload_n dX12_keeps_69 rfl 0 rfl ?_
  refine z_getR (q := 15487) ff_12_23 dX12_keeps_70 kt_113 (Nat.le_of_ble_eq_true rfl) fl_X12_63 rfl (hs.1 _ _ sr_15487) ?_
  refine z_rload_n dX12_keeps_73 rfl 0 rfl ?_
  refine z_getR (q := 15496) ff_12_32 dX12_keeps_74 kt_113 (Nat.le_of_ble_eq_true rfl) fl_X12_90 rfl (hs.1 _ _ sr_15496) ?_
  refine z_VU (i_M_copies kt_128 (Nat.le_of_ble_eq_true rfl) kt_136 (Nat.le_of_ble_eq_true rfl) hs h) vk_X12_copies kt_113 (Nat.le_of_ble_eq_true rfl) rfl ml_X12_227 ⟨Nat.le_of_ble_eq_true rfl, Nat.le_of_ble_eq_true rfl⟩ ⟨Nat.zero_le _, Nat.zero_le _⟩ rfl rfl (Nat.le_of_ble_eq_true rfl) dX12_keeps_77 (fun μ_7 hs h => ?_)
  refine z_rload_n dX12_keeps_80 rfl 0 rfl ?_
  refine z_rload_n dX12_keeps_81 rfl 0 rfl ?_
  refine z_getR (q := 15488) ff_12_24 dX12_keeps_82 kt_113 (Nat.le_of_ble_eq_true rfl) fl_X12_66 rfl (hs.1 _ _ sr_15488) ?_
  refine z_rload_n dX12_keeps_85 rfl 0 rfl ?_
  refine z_getR (q := 15497) ff_12_33 dX12_keeps_86 kt_113 (Nat.le_of_ble_eq_true rfl) fl_X12_93 rfl (hs.1 _ _ sr_15497) ?_
  refine z_VU (i_M_copies kt_129 (Nat.le_of_ble_eq_true rfl) kt_137 (Nat.le_of_ble_eq_true rfl) hs h) vk_X12_copies kt_113 (Nat.le_of_ble_eq_true rfl) rfl ml_X12_227 ⟨Nat.le_of_ble_eq_true rfl, Nat.le_of_ble_eq_true rfl⟩ ⟨Nat.zero_le _, Nat.zero_le _⟩ rfl rfl (Nat.le_of_ble_eq_true rfl) dX12_keeps_89 (fun μ_8 hs h => ?_)
  refine z_iconst dX12_keeps_92 ?_
  refine z_istore_n (lv' := [(1, vi 0), (0, vr Γ 113)]) dX12_keeps_93 rfl (Nat.le_of_ble_eq_true rfl) rfl ?_
  obtain ⟨m94, h⟩ := h
  refine z_sub (lv' := [(0, vr Γ 113), (1, vi 0)]) [1, 0] rfl ?_
  refine L_M_keeps_94 (fun μ_11 hs h => ?_) m94 0 μ_8 hs h
  exact z_vret rfl dX12_keeps_119 rfl rfl rfl ⟨rfl, hs, h⟩
abbrev Y_M_goesBack : Yt := (2, none, yX12_goesBack.name, { frames := 1, cells := 0, slots := 0, locals := 23 }, 175, 0, 0)
def l_M_goesBack_94 (X_94_119 : Mem → Prop) : Nat → Int → Mem → Prop
  | 0, _, _ => False
  | fu94 + 1, v1, μ_9 => if w v1 < w 288 then (0 ≤ w v1 ∧ w v1 < ((288 : Nat) : Int) ∧ 0 ≤ w v1 ∧ w v1 < ((288 : Nat) : Int) ∧ ∀ μ_10 : Mem, μ_10 = sB μ_9 127 (w v1) (rB μ_9 135 (w v1)) → (l_M_goesBack_94 X_94_119 fu94) (v1 + 1) μ_10) else (X_94_119 μ_9)
def f_M_goesBack  (μ : Mem) (k : Mem → Prop) : Prop := ∀ μ_1 : Mem, μ_1 = sI μ 15480 0 (rI μ 15489 0) → f_M_copies 130 24 122 24 μ_1 (fun μ_2 => f_M_copies 131 40 123 40 μ_2 (fun μ_3 => f_M_copies 132 10 124 10 μ_3 (fun μ_4 => f_M_copies 133 24 125 24 μ_4 (fun μ_5 => f_M_copies 134 288 126 288 μ_5 (fun μ_6 => f_M_copies 136 288 128 288 μ_6 (fun μ_7 => f_M_copies 137 61 129 61 μ_7 (fun μ_8 => ∃ m94 : Nat, l_M_goesBack_94 (fun (μ_11 : Mem) => k μ_11) m94 0 μ_8)))))))
theorem L_M_goesBack_94 {l : Launch} {Γ : Gam} {g : Nat} {X_94_119 : Mem → Prop} {k : Mem → Prop} (hX_94_119 : ∀ (ν : Mem), StatR ν.2.2 → X_94_119 ν → SW l Γ yX12_goesBack.cls cX12_goesBack Y_M_goesBack (pV k) g 175 0 0 ν 119 [] []) (n9 : Nat) : ∀ (v1 : Int) (μ_9 : Mem), StatR μ_9.2.2 → l_M_goesBack_94 X_94_119 n9 v1 μ_9 → SW l Γ yX12_goesBack.cls cX12_goesBack Y_M_goesBack (pV k) g 175 0 0 μ_9 94 [(0, vr Γ 113), (1, vi v1)] [] := by
  induction n9 with
  | zero =>
    intro v1 μ_9 hs h
    exact h.elim
  | succ n9 hR_94 =>
    intro v1 μ_9 hs h
    rw [l_M_goesBack_94] at h
    refine z_iload_n dX12_goesBack_94 rfl 1 rfl ?_
    refine z_sipush dX12_goesBack_95 (by decide) ?_
    refine z_icmp_ge (tgt := 119) dX12_goesBack_98 (by decide) h (fun h => ?_) (fun h => ?_)
    · refine z_rload_n dX12_goesBack_101 rfl 0 rfl ?_
      refine z_getR (q := 15486) ff_12_22 dX12_goesBack_102 kt_113 (Nat.le_of_ble_eq_true rfl) fl_X12_59 rfl (hs.1 _ _ sr_15486) ?_
      refine z_iload_n dX12_goesBack_105 rfl 1 rfl ?_
      refine z_rload_n dX12_goesBack_106 rfl 0 rfl ?_
      refine z_getR (q := 15495) ff_12_31 dX12_goesBack_107 kt_113 (Nat.le_of_ble_eq_true rfl) fl_X12_87 rfl (hs.1 _ _ sr_15495) ?_
      refine z_iload_n dX12_goesBack_110 rfl 1 rfl ?_
      obtain ⟨h0, h1, h⟩ := h
      refine z_zald dX12_goesBack_111 kt_135 (Nat.le_of_ble_eq_true rfl) h0 h1 ?_
      obtain ⟨h0, h1, h⟩ := h
      refine z_zast dX12_goesBack_112 kt_127 (Nat.le_of_ble_eq_true rfl) h0 h1 ?_
      refine z_mm (fun μ_10 eμ_10 => ?_)
      replace h := h μ_10 eμ_10
      replace hs : StatR μ_10.2.2 := by rw [eμ_10]; exact hs
      refine z_iinc (j := 1) (lv' := [(1, vi (v1 + 1)), (0, vr Γ 113)]) dX12_goesBack_113 rfl (Nat.le_of_ble_eq_true rfl) rfl ?_
      refine z_goto (tgt := 94) dX12_goesBack_116 (by decide) ?_
      refine z_sub (lv' := [(0, vr Γ 113), (1, vi (v1 + 1))]) [1, 0] rfl ?_
      exact hR_94 (v1 + 1) μ_10 hs h
    · refine z_sub (lv' := []) [] rfl ?_
      exact hX_94_119 μ_9 hs h
theorem i_M_goesBack {l : Launch} {Γ : Gam} {g : Nat} {μ : Mem} {k : Mem → Prop} (hs : StatR μ.2.2) (h : f_M_goesBack  μ k) : CT l Γ yX12_goesBack cX12_goesBack 2 none 1 23 0 0 [vr Γ 113] g 175 μ (pV k) := by
  refine SW.ct (by decide) (Nat.le_of_ble_eq_true rfl) ?_
  refine z_sub (lv' := [(0, vr Γ 113)]) [0] rfl ?_
  show SW l Γ yX12_goesBack.cls cX12_goesBack Y_M_goesBack (pV k) g 175 0 0 μ 0 [(0, vr Γ 113)] []
  unfold f_M_goesBack at h
  refine z_rload_n dX12_goesBack_0 rfl 0 rfl ?_
  refine z_rload_n dX12_goesBack_1 rfl 0 rfl ?_
  refine z_getI (q := 15489) ff_12_25 dX12_goesBack_2 kt_113 (Nat.le_of_ble_eq_true rfl) fl_X12_69 rfl ?_
  refine z_putI (q := 15480) ff_12_16 (Or.inl rfl) rfl dX12_goesBack_5 kt_113 (Nat.le_of_ble_eq_true rfl) fl_X12_41 rfl ?_
  refine z_mm (fun μ_1 eμ_1 => ?_)
  replace h := h μ_1 eμ_1
  replace hs : StatR μ_1.2.2 := by rw [eμ_1]; exact hs
  refine z_rload_n dX12_goesBack_8 rfl 0 rfl ?_
  refine z_rload_n dX12_goesBack_9 rfl 0 rfl ?_
  refine z_getR (q := 15490) ff_12_26 dX12_goesBack_10 kt_113 (Nat.le_of_ble_eq_true rfl) fl_X12_72 rfl (hs.1 _ _ sr_15490) ?_
  refine z_rload_n dX12_goesBack_13 rfl 0 rfl ?_
  refine z_getR (q := 15481) ff_12_17 dX12_goesBack_14 kt_113 (Nat.le_of_ble_eq_true rfl) fl_X12_44 rfl (hs.1 _ _ sr_15481) ?_
  refine z_VU (i_M_copies kt_130 (Nat.le_of_ble_eq_true rfl) kt_122 (Nat.le_of_ble_eq_true rfl) hs h) vk_X12_copies kt_113 (Nat.le_of_ble_eq_true rfl) rfl ml_X12_227 ⟨Nat.le_of_ble_eq_true rfl, Nat.le_of_ble_eq_true rfl⟩ ⟨Nat.zero_le _, Nat.zero_le _⟩ rfl rfl (Nat.le_of_ble_eq_true rfl) dX12_goesBack_17 (fun μ_2 hs h => ?_)
  refine z_rload_n dX12_goesBack_20 rfl 0 rfl ?_
  refine z_rload_n dX12_goesBack_21 rfl 0 rfl ?_
  refine z_getR (q := 15491) ff_12_27 dX12_goesBack_22 kt_113 (Nat.le_of_ble_eq_true rfl) fl_X12_75 rfl (hs.1 _ _ sr_15491) ?_
  refine z_rload_n dX12_goesBack_25 rfl 0 rfl ?_
  refine z_getR (q := 15482) ff_12_18 dX12_goesBack_26 kt_113 (Nat.le_of_ble_eq_true rfl) fl_X12_47 rfl (hs.1 _ _ sr_15482) ?_
  refine z_VU (i_M_copies kt_131 (Nat.le_of_ble_eq_true rfl) kt_123 (Nat.le_of_ble_eq_true rfl) hs h) vk_X12_copies kt_113 (Nat.le_of_ble_eq_true rfl) rfl ml_X12_227 ⟨Nat.le_of_ble_eq_true rfl, Nat.le_of_ble_eq_true rfl⟩ ⟨Nat.zero_le _, Nat.zero_le _⟩ rfl rfl (Nat.le_of_ble_eq_true rfl) dX12_goesBack_29 (fun μ_3 hs h => ?_)
  refine z_rload_n dX12_goesBack_32 rfl 0 rfl ?_
  refine z_rload_n dX12_goesBack_33 rfl 0 rfl ?_
  refine z_getR (q := 15492) ff_12_28 dX12_goesBack_34 kt_113 (Nat.le_of_ble_eq_true rfl) fl_X12_78 rfl (hs.1 _ _ sr_15492) ?_
  refine z_rload_n dX12_goesBack_37 rfl 0 rfl ?_
  refine z_getR (q := 15483) ff_12_19 dX12_goesBack_38 kt_113 (Nat.le_of_ble_eq_true rfl) fl_X12_50 rfl (hs.1 _ _ sr_15483) ?_
  refine z_VU (i_M_copies kt_132 (Nat.le_of_ble_eq_true rfl) kt_124 (Nat.le_of_ble_eq_true rfl) hs h) vk_X12_copies kt_113 (Nat.le_of_ble_eq_true rfl) rfl ml_X12_227 ⟨Nat.le_of_ble_eq_true rfl, Nat.le_of_ble_eq_true rfl⟩ ⟨Nat.zero_le _, Nat.zero_le _⟩ rfl rfl (Nat.le_of_ble_eq_true rfl) dX12_goesBack_41 (fun μ_4 hs h => ?_)
  refine z_rload_n dX12_goesBack_44 rfl 0 rfl ?_
  refine z_rload_n dX12_goesBack_45 rfl 0 rfl ?_
  refine z_getR (q := 15493) ff_12_29 dX12_goesBack_46 kt_113 (Nat.le_of_ble_eq_true rfl) fl_X12_81 rfl (hs.1 _ _ sr_15493) ?_
  refine z_rload_n dX12_goesBack_49 rfl 0 rfl ?_
  refine z_getR (q := 15484) ff_12_20 dX12_goesBack_50 kt_113 (Nat.le_of_ble_eq_true rfl) fl_X12_53 rfl (hs.1 _ _ sr_15484) ?_
  refine z_VU (i_M_copies kt_133 (Nat.le_of_ble_eq_true rfl) kt_125 (Nat.le_of_ble_eq_true rfl) hs h) vk_X12_copies kt_113 (Nat.le_of_ble_eq_true rfl) rfl ml_X12_227 ⟨Nat.le_of_ble_eq_true rfl, Nat.le_of_ble_eq_true rfl⟩ ⟨Nat.zero_le _, Nat.zero_le _⟩ rfl rfl (Nat.le_of_ble_eq_true rfl) dX12_goesBack_53 (fun μ_5 hs h => ?_)
  refine z_rload_n dX12_goesBack_56 rfl 0 rfl ?_
  refine z_rload_n dX12_goesBack_57 rfl 0 rfl ?_
  refine z_getR (q := 15494) ff_12_30 dX12_goesBack_58 kt_113 (Nat.le_of_ble_eq_true rfl) fl_X12_84 rfl (hs.1 _ _ sr_15494) ?_
  refine z_rload_n dX12_goesBack_61 rfl 0 rfl ?_
  refine z_getR (q := 15485) ff_12_21 dX12_goesBack_62 kt_113 (Nat.le_of_ble_eq_true rfl) fl_X12_56 rfl (hs.1 _ _ sr_15485) ?_
  refine z_VU (i_M_copies kt_134 (Nat.le_of_ble_eq_true rfl) kt_126 (Nat.le_of_ble_eq_true rfl) hs h) vk_X12_copies kt_113 (Nat.le_of_ble_eq_true rfl) rfl ml_X12_227 ⟨Nat.le_of_ble_eq_true rfl, Nat.le_of_ble_eq_true rfl⟩ ⟨Nat.zero_le _, Nat.zero_le _⟩ rfl rfl (Nat.le_of_ble_eq_true rfl) dX12_goesBack_65 (fun μ_6 hs h => ?_)
  refine z_rload_n dX12_goesBack_68 rfl 0 rfl ?_
  refine z_rload_n dX12_goesBack_69 rfl 0 rfl ?_
  refine z_getR (q := 15496) ff_12_32 dX12_goesBack_70 kt_113 (Nat.le_of_ble_eq_true rfl) fl_X12_90 rfl (hs.1 _ _ sr_15496) ?_
  refine z_rload_n dX12_goesBack_73 rfl 0 rfl ?_
  refine z_getR (q := 15487) ff_12_23 dX12_goesBack_74 kt_113 (Nat.le_of_ble_eq_true rfl) fl_X12_63 rfl (hs.1 _ _ sr_15487) ?_
  refine z_VU (i_M_copies kt_136 (Nat.le_of_ble_eq_true rfl) kt_128 (Nat.le_of_ble_eq_true rfl) hs h) vk_X12_copies kt_113 (Nat.le_of_ble_eq_true rfl) rfl ml_X12_227 ⟨Nat.le_of_ble_eq_true rfl, Nat.le_of_ble_eq_true rfl⟩ ⟨Nat.zero_le _, Nat.zero_le _⟩ rfl rfl (Nat.le_of_ble_eq_true rfl) dX12_goesBack_77 (fun μ_7 hs h => ?_)
  refine z_rload_n dX12_goesBack_80 rfl 0 rfl ?_
  refine z_rload_n dX12_goesBack_81 rfl 0 rfl ?_
  refine z_getR (q := 15497) ff_12_33 dX12_goesBack_82 kt_113 (Nat.le_of_ble_eq_true rfl) fl_X12_93 rfl (hs.1 _ _ sr_15497) ?_
  refine z_rload_n dX12_goesBack_85 rfl 0 rfl ?_
  refine z_getR (q := 15488) ff_12_24 dX12_goesBack_86 kt_113 (Nat.le_of_ble_eq_true rfl) fl_X12_66 rfl (hs.1 _ _ sr_15488) ?_
  refine z_VU (i_M_copies kt_137 (Nat.le_of_ble_eq_true rfl) kt_129 (Nat.le_of_ble_eq_true rfl) hs h) vk_X12_copies kt_113 (Nat.le_of_ble_eq_true rfl) rfl ml_X12_227 ⟨Nat.le_of_ble_eq_true rfl, Nat.le_of_ble_eq_true rfl⟩ ⟨Nat.zero_le _, Nat.zero_le _⟩ rfl rfl (Nat.le_of_ble_eq_true rfl) dX12_goesBack_89 (fun μ_8 hs h => ?_)
  refine z_iconst dX12_goesBack_92 ?_
  refine z_istore_n (lv' := [(1, vi 0), (0, vr Γ 113)]) dX12_goesBack_93 rfl (Nat.le_of_ble_eq_true rfl) rfl ?_
  obtain ⟨m94, h⟩ := h
  refine z_sub (lv' := [(0, vr Γ 113), (1, vi 0)]) [1, 0] rfl ?_
  refine L_M_goesBack_94 (fun μ_11 hs h => ?_) m94 0 μ_8 hs h
  exact z_vret rfl dX12_goesBack_119 rfl rfl rfl ⟨rfl, hs, h⟩
def v_M_isMotion (a1 : Int) (μ : Mem) : Bool := if w a1 < 0 then false else (if w a1 < w (rI μ 15472 0) then true else false)
theorem i_M_isMotion {l : Launch} {Γ : Gam} {g : Nat} {μ : Mem} {a1 : Int} : CT l Γ yX12_isMotion cX12_isMotion 2 (some .boolean) 0 0 0 0 [vr Γ 113, vi a1] g 175 μ (pE (vi (b2i (v_M_isMotion a1 μ))) μ) := by
  refine SW.ct (by decide) (Nat.le_of_ble_eq_true rfl) ?_
  refine z_sub (lv' := [(0, vr Γ 113), (1, vi a1)]) [0, 1] rfl ?_
  have hv : v_M_isMotion a1 μ = v_M_isMotion a1 μ := rfl
  refine z_iload_n dX12_isMotion_0 rfl 1 rfl ?_
  refine z_if_lt (tgt := 16) dX12_isMotion_1 (by decide) (eq_ite hv) (fun hv => ?_) (fun hv => ?_)
  · refine z_iconst dX12_isMotion_16 ?_
    exact z_zret (b := false) rfl dX12_isMotion_17 rfl rfl rfl ⟨by first | (rw [hv]; done) | rfl, rfl⟩
  · refine z_iload_n dX12_isMotion_4 rfl 1 rfl ?_
    refine z_rload_n dX12_isMotion_5 rfl 0 rfl ?_
    refine z_getI (q := 15472) ff_12_8 dX12_isMotion_6 kt_113 (Nat.le_of_ble_eq_true rfl) fl_X12_231 rfl ?_
    refine z_icmp_ge (tgt := 16) dX12_isMotion_9 (by decide) (eq_ite hv) (fun hv => ?_) (fun hv => ?_)
    · refine z_iconst dX12_isMotion_12 ?_
      refine z_goto (tgt := 17) dX12_isMotion_13 (by decide) ?_
      exact z_zret (b := true) rfl dX12_isMotion_17 rfl rfl rfl ⟨by first | (rw [hv]; done) | rfl, rfl⟩
    · refine z_iconst dX12_isMotion_16 ?_
      exact z_zret (b := false) rfl dX12_isMotion_17 rfl rfl rfl ⟨by first | (rw [hv]; done) | rfl, rfl⟩
def v_M_isMatter (a1 : Int) (μ : Mem) : Bool := if (v_M_isMotion a1 μ) = true then true else (if (v_M_within a1 100 ((100 + (rI μ 15474 0)) - 1)) = true then true else (if (v_M_within a1 200 ((200 + (rI μ 15479 0)) - 1)) = true then true else false))
theorem i_M_isMatter {l : Launch} {Γ : Gam} {g : Nat} {μ : Mem} {a1 : Int} : CT l Γ yX12_isMatter cX12_isMatter 2 (some .boolean) 1 22 0 0 [vr Γ 113, vi a1] g 175 μ (pE (vi (b2i (v_M_isMatter a1 μ))) μ) := by
  refine SW.ct (by decide) (Nat.le_of_ble_eq_true rfl) ?_
  refine z_sub (lv' := [(0, vr Γ 113), (1, vi a1)]) [0, 1] rfl ?_
  have hv : v_M_isMatter a1 μ = v_M_isMatter a1 μ := rfl
  refine z_rload_n dX12_isMatter_0 rfl 0 rfl ?_
  refine z_iload_n dX12_isMatter_1 rfl 1 rfl ?_
  refine z_VE (i_M_isMotion ) vk_X12_isMotion kt_113 (Nat.le_of_ble_eq_true rfl) rfl ml_X12_234 ⟨Nat.le_of_ble_eq_true rfl, Nat.le_of_ble_eq_true rfl⟩ ⟨Nat.zero_le _, Nat.zero_le _⟩ rfl rfl (Nat.le_of_ble_eq_true rfl) dX12_isMatter_2 ?_
  refine z_ifne_b (tgt := 46) dX12_isMatter_5 (by decide) (eq_ite hv) (fun hv => ?_) (fun hv => ?_)
  · refine z_iconst dX12_isMatter_46 ?_
    refine z_goto (tgt := 51) dX12_isMatter_47 (by decide) ?_
    exact z_zret (b := true) rfl dX12_isMatter_51 rfl rfl rfl ⟨by first | (rw [hv]; done) | rfl, rfl⟩
  · refine z_iload_n dX12_isMatter_8 rfl 1 rfl ?_
    refine z_bipush dX12_isMatter_9 (by decide) ?_
    refine z_bipush dX12_isMatter_11 (by decide) ?_
    refine z_rload_n dX12_isMatter_13 rfl 0 rfl ?_
    refine z_getI (q := 15474) ff_12_10 dX12_isMatter_14 kt_113 (Nat.le_of_ble_eq_true rfl) fl_X12_237 rfl ?_
    refine z_iadd dX12_isMatter_17 ?_
    refine z_iconst dX12_isMatter_18 ?_
    refine z_isub dX12_isMatter_19 ?_
    refine z_SE (i_M_within ) sk_X12_within ml_X12_215 ⟨Nat.le_of_ble_eq_true rfl, Nat.le_of_ble_eq_true rfl⟩ ⟨Nat.zero_le _, Nat.zero_le _⟩ rfl rfl (Nat.le_of_ble_eq_true rfl) dX12_isMatter_20 ?_
    refine z_ifne_b (tgt := 46) dX12_isMatter_23 (by decide) (eq_ite hv) (fun hv => ?_) (fun hv => ?_)
    · refine z_iconst dX12_isMatter_46 ?_
      refine z_goto (tgt := 51) dX12_isMatter_47 (by decide) ?_
      exact z_zret (b := true) rfl dX12_isMatter_51 rfl rfl rfl ⟨by first | (rw [hv]; done) | rfl, rfl⟩
    · refine z_iload_n dX12_isMatter_26 rfl 1 rfl ?_
      refine z_sipush dX12_isMatter_27 (by decide) ?_
      refine z_sipush dX12_isMatter_30 (by decide) ?_
      refine z_rload_n dX12_isMatter_33 rfl 0 rfl ?_
      refine z_getI (q := 15479) ff_12_15 dX12_isMatter_34 kt_113 (Nat.le_of_ble_eq_true rfl) fl_X12_240 rfl ?_
      refine z_iadd dX12_isMatter_37 ?_
      refine z_iconst dX12_isMatter_38 ?_
      refine z_isub dX12_isMatter_39 ?_
      refine z_SE (i_M_within ) sk_X12_within ml_X12_215 ⟨Nat.le_of_ble_eq_true rfl, Nat.le_of_ble_eq_true rfl⟩ ⟨Nat.zero_le _, Nat.zero_le _⟩ rfl rfl (Nat.le_of_ble_eq_true rfl) dX12_isMatter_40 ?_
      refine z_ifeq_b (tgt := 50) dX12_isMatter_43 (by decide) (eq_ite hv) (fun hv => ?_) (fun hv => ?_)
      · refine z_iconst dX12_isMatter_46 ?_
        refine z_goto (tgt := 51) dX12_isMatter_47 (by decide) ?_
        exact z_zret (b := true) rfl dX12_isMatter_51 rfl rfl rfl ⟨by first | (rw [hv]; done) | rfl, rfl⟩
      · refine z_iconst dX12_isMatter_50 ?_
        exact z_zret (b := false) rfl dX12_isMatter_51 rfl rfl rfl ⟨by first | (rw [hv]; done) | rfl, rfl⟩
abbrev Y_M_howOf : Yt := (2, (some .int), yX12_howOf.name, { frames := 0, cells := 0, slots := 0, locals := 0 }, 175, 0, 0)
def f_M_howOf (a1 : Int) (μ : Mem) (k : Int → Mem → Prop) : Prop := if w a1 < w 100 then (0 ≤ w a1 ∧ w a1 < ((24 : Nat) : Int) ∧ k (rI μ 122 (w a1)) μ) else (if w a1 < w 200 then (0 ≤ w (a1 - 100) ∧ w (a1 - 100) < ((40 : Nat) : Int) ∧ k (rI μ 123 (w (a1 - 100))) μ) else (0 ≤ w (a1 - 200) ∧ w (a1 - 200) < ((10 : Nat) : Int) ∧ k (rI μ 124 (w (a1 - 200))) μ))
theorem i_M_howOf {l : Launch} {Γ : Gam} {g : Nat} {a1 : Int} {μ : Mem} {k : Int → Mem → Prop} (hs : StatR μ.2.2) (h : f_M_howOf a1 μ k) : CT l Γ yX12_howOf cX12_howOf 2 (some .int) 0 0 0 0 [vr Γ 113, vi a1] g 175 μ (pI k) := by
  refine SW.ct (by decide) (Nat.le_of_ble_eq_true rfl) ?_
  refine z_sub (lv' := [(0, vr Γ 113), (1, vi a1)]) [0, 1] rfl ?_
  show SW l Γ yX12_howOf.cls cX12_howOf Y_M_howOf (pI k) g 175 0 0 μ 0 [(0, vr Γ 113), (1, vi a1)] []
  unfold f_M_howOf at h
  refine z_iload_n dX12_howOf_0 rfl 1 rfl ?_
  refine z_bipush dX12_howOf_1 (by decide) ?_
  refine z_icmp_ge (tgt := 15) dX12_howOf_3 (by decide) h (fun h => ?_) (fun h => ?_)
  · refine z_rload_n dX12_howOf_6 rfl 0 rfl ?_
    refine z_getR (q := 15481) ff_12_17 dX12_howOf_7 kt_113 (Nat.le_of_ble_eq_true rfl) fl_X12_44 rfl (hs.1 _ _ sr_15481) ?_
    refine z_iload_n dX12_howOf_10 rfl 1 rfl ?_
    obtain ⟨h0, h1, h⟩ := h
    refine z_iald dX12_howOf_11 kt_122 (Nat.le_of_ble_eq_true rfl) h0 h1 ?_
    refine z_goto (tgt := 44) dX12_howOf_12 (by decide) ?_
    exact z_iret rfl dX12_howOf_44 rfl rfl rfl ⟨_, rfl, hs, h⟩
  · refine z_iload_n dX12_howOf_15 rfl 1 rfl ?_
    refine z_sipush dX12_howOf_16 (by decide) ?_
    refine z_icmp_ge (tgt := 34) dX12_howOf_19 (by decide) h (fun h => ?_) (fun h => ?_)
    · refine z_rload_n dX12_howOf_22 rfl 0 rfl ?_
      refine z_getR (q := 15482) ff_12_18 dX12_howOf_23 kt_113 (Nat.le_of_ble_eq_true rfl) fl_X12_47 rfl (hs.1 _ _ sr_15482) ?_
      refine z_iload_n dX12_howOf_26 rfl 1 rfl ?_
      refine z_bipush dX12_howOf_27 (by decide) ?_
      refine z_isub dX12_howOf_29 ?_
      obtain ⟨h0, h1, h⟩ := h
      refine z_iald dX12_howOf_30 kt_123 (Nat.le_of_ble_eq_true rfl) h0 h1 ?_
      refine z_goto (tgt := 44) dX12_howOf_31 (by decide) ?_
      exact z_iret rfl dX12_howOf_44 rfl rfl rfl ⟨_, rfl, hs, h⟩
    · refine z_rload_n dX12_howOf_34 rfl 0 rfl ?_
      refine z_getR (q := 15483) ff_12_19 dX12_howOf_35 kt_113 (Nat.le_of_ble_eq_true rfl) fl_X12_50 rfl (hs.1 _ _ sr_15483) ?_
      refine z_iload_n dX12_howOf_38 rfl 1 rfl ?_
      refine z_sipush dX12_howOf_39 (by decide) ?_
      refine z_isub dX12_howOf_42 ?_
      obtain ⟨h0, h1, h⟩ := h
      refine z_iald dX12_howOf_43 kt_124 (Nat.le_of_ble_eq_true rfl) h0 h1 ?_
      exact z_iret rfl dX12_howOf_44 rfl rfl rfl ⟨_, rfl, hs, h⟩
abbrev Y_M_isOpen : Yt := (2, (some .boolean), yX12_isOpen.name, { frames := 1, cells := 0, slots := 0, locals := 21 }, 175, 0, 0)
def f_M_isOpen (a1 : Int) (μ : Mem) (k : Bool → Mem → Prop) : Prop := if (v_M_isMotion a1 μ) = true then (0 ≤ w a1 ∧ w a1 < ((24 : Nat) : Int) ∧ ∀ x22 : Bool, x22 = (if w (rI μ 122 (w a1)) = 0 then true else false) → k x22 μ) else (k false μ)
theorem i_M_isOpen {l : Launch} {Γ : Gam} {g : Nat} {a1 : Int} {μ : Mem} {k : Bool → Mem → Prop} (hs : StatR μ.2.2) (h : f_M_isOpen a1 μ k) : CT l Γ yX12_isOpen cX12_isOpen 2 (some .boolean) 1 21 0 0 [vr Γ 113, vi a1] g 175 μ (pB k) := by
  refine SW.ct (by decide) (Nat.le_of_ble_eq_true rfl) ?_
  refine z_sub (lv' := [(0, vr Γ 113), (1, vi a1)]) [0, 1] rfl ?_
  show SW l Γ yX12_isOpen.cls cX12_isOpen Y_M_isOpen (pB k) g 175 0 0 μ 0 [(0, vr Γ 113), (1, vi a1)] []
  unfold f_M_isOpen at h
  refine z_rload_n dX12_isOpen_0 rfl 0 rfl ?_
  refine z_iload_n dX12_isOpen_1 rfl 1 rfl ?_
  refine z_VE (i_M_isMotion ) vk_X12_isMotion kt_113 (Nat.le_of_ble_eq_true rfl) rfl ml_X12_234 ⟨Nat.le_of_ble_eq_true rfl, Nat.le_of_ble_eq_true rfl⟩ ⟨Nat.zero_le _, Nat.zero_le _⟩ rfl rfl (Nat.le_of_ble_eq_true rfl) dX12_isOpen_2 ?_
  refine z_ifeq_b (tgt := 21) dX12_isOpen_5 (by decide) h (fun h => ?_) (fun h => ?_)
  · refine z_rload_n dX12_isOpen_8 rfl 0 rfl ?_
    refine z_getR (q := 15481) ff_12_17 dX12_isOpen_9 kt_113 (Nat.le_of_ble_eq_true rfl) fl_X12_44 rfl (hs.1 _ _ sr_15481) ?_
    refine z_iload_n dX12_isOpen_12 rfl 1 rfl ?_
    obtain ⟨h0, h1, h⟩ := h
    refine z_iald dX12_isOpen_13 kt_122 (Nat.le_of_ble_eq_true rfl) h0 h1 ?_
    refine z_phiB 22 [] (fun V9 hv J9 => ?_) h (fun x22 h => ?_)
    · refine z_if_ne (tgt := 21) dX12_isOpen_14 (by decide) (eq_ite hv) (fun hv => ?_) (fun hv => ?_)
      · refine z_iconst dX12_isOpen_17 ?_
        refine z_goto (tgt := 22) dX12_isOpen_18 (by decide) ?_
        exact J9 true hv.symm
      · refine z_iconst dX12_isOpen_21 ?_
        exact J9 false hv.symm
    · exact z_zret (b := x22) rfl dX12_isOpen_22 rfl rfl rfl ⟨_, rfl, hs, h⟩
  · refine z_iconst dX12_isOpen_21 ?_
    exact z_zret (b := false) rfl dX12_isOpen_22 rfl rfl rfl ⟨_, rfl, hs, h⟩
abbrev Y_M_how : Yt := (2, (some .int), yX12_how.name, { frames := 2, cells := 0, slots := 0, locals := 43 }, 175, 0, 0)
def f_M_how (a1 : Int) (μ : Mem) (k : Int → Mem → Prop) : Prop := ∀ μ_1 : Mem, μ_1 = sI μ 15464 0 0 → if (v_M_isMatter a1 μ_1) = true then (f_M_howOf a1 μ_1 (fun r15 μ_2 => k r15 μ_2)) else (k (-1) μ_1)
theorem i_M_how {l : Launch} {Γ : Gam} {g : Nat} {a1 : Int} {μ : Mem} {k : Int → Mem → Prop} (hs : StatR μ.2.2) (h : f_M_how a1 μ k) : CT l Γ yX12_how cX12_how 2 (some .int) 2 43 0 0 [vr Γ 113, vi a1] g 175 μ (pI k) := by
  refine SW.ct (by decide) (Nat.le_of_ble_eq_true rfl) ?_
  refine z_sub (lv' := [(0, vr Γ 113), (1, vi a1)]) [0, 1] rfl ?_
  show SW l Γ yX12_how.cls cX12_how Y_M_how (pI k) g 175 0 0 μ 0 [(0, vr Γ 113), (1, vi a1)] []
  unfold f_M_how at h
  refine z_rload_n dX12_how_0 rfl 0 rfl ?_
  refine z_iconst dX12_how_1 ?_
  refine z_putI (q := 15464) ff_12_0 (Or.inl rfl) rfl dX12_how_2 kt_113 (Nat.le_of_ble_eq_true rfl) fl_X12_1 rfl ?_
  refine z_mm (fun μ_1 eμ_1 => ?_)
  replace h := h μ_1 eμ_1
  replace hs : StatR μ_1.2.2 := by rw [eμ_1]; exact hs
  refine z_rload_n dX12_how_5 rfl 0 rfl ?_
  refine z_iload_n dX12_how_6 rfl 1 rfl ?_
  refine z_VE (i_M_isMatter ) vk_X12_isMatter kt_113 (Nat.le_of_ble_eq_true rfl) rfl ml_X12_243 ⟨Nat.le_of_ble_eq_true rfl, Nat.le_of_ble_eq_true rfl⟩ ⟨Nat.zero_le _, Nat.zero_le _⟩ rfl rfl (Nat.le_of_ble_eq_true rfl) dX12_how_7 ?_
  refine z_ifeq_b (tgt := 21) dX12_how_10 (by decide) h (fun h => ?_) (fun h => ?_)
  · refine z_rload_n dX12_how_13 rfl 0 rfl ?_
    refine z_iload_n dX12_how_14 rfl 1 rfl ?_
    refine z_VI (i_M_howOf  hs h) vk_X12_howOf kt_113 (Nat.le_of_ble_eq_true rfl) rfl ml_X12_246 ⟨Nat.le_of_ble_eq_true rfl, Nat.le_of_ble_eq_true rfl⟩ ⟨Nat.zero_le _, Nat.zero_le _⟩ rfl rfl (Nat.le_of_ble_eq_true rfl) dX12_how_15 (fun r15 μ_2 hs h => ?_)
    refine z_goto (tgt := 22) dX12_how_18 (by decide) ?_
    exact z_iret rfl dX12_how_22 rfl rfl rfl ⟨_, rfl, hs, h⟩
  · refine z_iconst dX12_how_21 ?_
    exact z_iret rfl dX12_how_22 rfl rfl rfl ⟨_, rfl, hs, h⟩
abbrev Y_M_line : Yt := (5, (some .int), yX12_line.name, { frames := 1, cells := 0, slots := 0, locals := 22 }, 175, 0, 0)
def f_M_line (a1 : Int) (a2 : Int) (a3 : Int) (μ : Mem) (k : Int → Mem → Prop) : Prop := ∀ μ_1 : Mem, μ_1 = sI μ 15464 0 0 → if (v_M_isMotion a1 μ_1) = true then (if w a2 < 0 then (∀ x45 : Int, x45 = (if w a3 = 0 then 0 else (-1)) → k x45 μ_1) else (0 ≤ w a1 ∧ w a1 < ((24 : Nat) : Int) ∧ if w a2 < w (rI μ_1 125 (w a1)) then (if (v_M_within a3 0 2) = true then (∀ v4 : Int, v4 = (12 * a1) + a2 → if w a3 = 0 then (0 ≤ w v4 ∧ w v4 < ((288 : Nat) : Int) ∧ k (rI μ_1 126 (w v4)) μ_1) else (if w a3 = w 1 then (0 ≤ w v4 ∧ w v4 < ((288 : Nat) : Int) ∧ ∀ x98 : Int, x98 = (if (rB μ_1 127 (w v4)) = true then 1 else 0) → k x98 μ_1) else (0 ≤ w v4 ∧ w v4 < ((288 : Nat) : Int) ∧ k (rI μ_1 128 (w v4)) μ_1))) else (∀ x45_1 : Int, x45_1 = (if w a3 = 0 then 0 else (-1)) → k x45_1 μ_1)) else (∀ x45_2 : Int, x45_2 = (if w a3 = 0 then 0 else (-1)) → k x45_2 μ_1))) else (∀ x45_3 : Int, x45_3 = (if w a3 = 0 then 0 else (-1)) → k x45_3 μ_1)
theorem i_M_line {l : Launch} {Γ : Gam} {g : Nat} {a1 : Int} {a2 : Int} {a3 : Int} {μ : Mem} {k : Int → Mem → Prop} (hs : StatR μ.2.2) (h : f_M_line a1 a2 a3 μ k) : CT l Γ yX12_line cX12_line 5 (some .int) 1 22 0 0 [vr Γ 113, vi a1, vi a2, vi a3] g 175 μ (pI k) := by
  refine SW.ct (by decide) (Nat.le_of_ble_eq_true rfl) ?_
  refine z_sub (lv' := [(0, vr Γ 113), (1, vi a1), (2, vi a2), (3, vi a3)]) [0, 1, 2, 3] rfl ?_
  show SW l Γ yX12_line.cls cX12_line Y_M_line (pI k) g 175 0 0 μ 0 [(0, vr Γ 113), (1, vi a1), (2, vi a2), (3, vi a3)] []
  unfold f_M_line at h
  refine z_rload_n dX12_line_0 rfl 0 rfl ?_
  refine z_iconst dX12_line_1 ?_
  refine z_putI (q := 15464) ff_12_0 (Or.inl rfl) rfl dX12_line_2 kt_113 (Nat.le_of_ble_eq_true rfl) fl_X12_1 rfl ?_
  refine z_mm (fun μ_1 eμ_1 => ?_)
  replace h := h μ_1 eμ_1
  replace hs : StatR μ_1.2.2 := by rw [eμ_1]; exact hs
  refine z_rload_n dX12_line_5 rfl 0 rfl ?_
  refine z_iload_n dX12_line_6 rfl 1 rfl ?_
  refine z_VE (i_M_isMotion ) vk_X12_isMotion kt_113 (Nat.le_of_ble_eq_true rfl) rfl ml_X12_234 ⟨Nat.le_of_ble_eq_true rfl, Nat.le_of_ble_eq_true rfl⟩ ⟨Nat.zero_le _, Nat.zero_le _⟩ rfl rfl (Nat.le_of_ble_eq_true rfl) dX12_line_7 ?_
  refine z_ifeq_b (tgt := 36) dX12_line_10 (by decide) h (fun h => ?_) (fun h => ?_)
  · refine z_iload_n dX12_line_13 rfl 2 rfl ?_
    refine z_if_lt (tgt := 36) dX12_line_14 (by decide) h (fun h => ?_) (fun h => ?_)
    · refine z_iload_n dX12_line_36 rfl 3 rfl ?_
      refine z_phi 45 [] (fun V9 hv J9 => ?_) h (fun x45 h => ?_)
      · refine z_if_ne (tgt := 44) dX12_line_37 (by decide) (eq_ite hv) (fun hv => ?_) (fun hv => ?_)
        · refine z_iconst dX12_line_40 ?_
          refine z_goto (tgt := 45) dX12_line_41 (by decide) ?_
          exact J9 _ hv.symm
        · refine z_iconst dX12_line_44 ?_
          exact J9 _ hv.symm
      · exact z_iret rfl dX12_line_45 rfl rfl rfl ⟨_, rfl, hs, h⟩
    · refine z_iload_n dX12_line_17 rfl 2 rfl ?_
      refine z_rload_n dX12_line_18 rfl 0 rfl ?_
      refine z_getR (q := 15484) ff_12_20 dX12_line_19 kt_113 (Nat.le_of_ble_eq_true rfl) fl_X12_53 rfl (hs.1 _ _ sr_15484) ?_
      refine z_iload_n dX12_line_22 rfl 1 rfl ?_
      obtain ⟨h0, h1, h⟩ := h
      refine z_iald dX12_line_23 kt_125 (Nat.le_of_ble_eq_true rfl) h0 h1 ?_
      refine z_icmp_ge (tgt := 36) dX12_line_24 (by decide) h (fun h => ?_) (fun h => ?_)
      · refine z_iload_n dX12_line_27 rfl 3 rfl ?_
        refine z_iconst dX12_line_28 ?_
        refine z_iconst dX12_line_29 ?_
        refine z_SE (i_M_within ) sk_X12_within ml_X12_215 ⟨Nat.le_of_ble_eq_true rfl, Nat.le_of_ble_eq_true rfl⟩ ⟨Nat.zero_le _, Nat.zero_le _⟩ rfl rfl (Nat.le_of_ble_eq_true rfl) dX12_line_30 ?_
        refine z_ifne_b (tgt := 46) dX12_line_33 (by decide) h (fun h => ?_) (fun h => ?_)
        · refine z_bipush dX12_line_46 (by decide) ?_
          refine z_iload_n dX12_line_48 rfl 1 rfl ?_
          refine z_imul dX12_line_49 ?_
          refine z_iload_n dX12_line_50 rfl 2 rfl ?_
          refine z_iadd dX12_line_51 ?_
          refine z_nm (fun v4 ev4 => ?_)
          replace h := h v4 ev4
          refine z_istore (lv' := [(4, vi v4), (0, vr Γ 113), (1, vi a1), (2, vi a2), (3, vi a3)]) dX12_line_52 (Nat.le_of_ble_eq_true rfl) rfl ?_
          refine z_iload_n dX12_line_54 rfl 4 rfl ?_
          refine z_if_ne (tgt := 68) dX12_line_55 (by decide) h (fun h => ?_) (fun h => ?_)
          · refine z_rload_n dX12_line_58 rfl 1 rfl ?_
            refine z_getR (q := 15485) ff_12_21 dX12_line_59 kt_113 (Nat.le_of_ble_eq_true rfl) fl_X12_56 rfl (hs.1 _ _ sr_15485) ?_
            refine z_iload dX12_line_62 0 rfl ?_
            obtain ⟨h0, h1, h⟩ := h
            refine z_iald dX12_line_64 kt_126 (Nat.le_of_ble_eq_true rfl) h0 h1 ?_
            refine z_goto (tgt := 98) dX12_line_65 (by decide) ?_
            exact z_iret rfl dX12_line_98 rfl rfl rfl ⟨_, rfl, hs, h⟩
          · refine z_iload_n dX12_line_68 rfl 4 rfl ?_
            refine z_iconst dX12_line_69 ?_
            refine z_icmp_ne (tgt := 91) dX12_line_70 (by decide) h (fun h => ?_) (fun h => ?_)
            · refine z_rload_n dX12_line_73 rfl 1 rfl ?_
              refine z_getR (q := 15486) ff_12_22 dX12_line_74 kt_113 (Nat.le_of_ble_eq_true rfl) fl_X12_59 rfl (hs.1 _ _ sr_15486) ?_
              refine z_iload dX12_line_77 0 rfl ?_
              obtain ⟨h0, h1, h⟩ := h
              refine z_zald dX12_line_79 kt_127 (Nat.le_of_ble_eq_true rfl) h0 h1 ?_
              refine z_phi 98 [] (fun V9 hv J9 => ?_) h (fun x98 h => ?_)
              · refine z_ifeq_b (tgt := 87) dX12_line_80 (by decide) (eq_ite hv) (fun hv => ?_) (fun hv => ?_)
                · refine z_iconst dX12_line_83 ?_
                  refine z_goto (tgt := 98) dX12_line_84 (by decide) ?_
                  exact J9 _ hv.symm
                · refine z_iconst dX12_line_87 ?_
                  refine z_goto (tgt := 98) dX12_line_88 (by decide) ?_
                  exact J9 _ hv.symm
              · exact z_iret rfl dX12_line_98 rfl rfl rfl ⟨_, rfl, hs, h⟩
            · refine z_rload_n dX12_line_91 rfl 1 rfl ?_
              refine z_getR (q := 15487) ff_12_23 dX12_line_92 kt_113 (Nat.le_of_ble_eq_true rfl) fl_X12_63 rfl (hs.1 _ _ sr_15487) ?_
              refine z_iload dX12_line_95 0 rfl ?_
              obtain ⟨h0, h1, h⟩ := h
              refine z_iald dX12_line_97 kt_128 (Nat.le_of_ble_eq_true rfl) h0 h1 ?_
              exact z_iret rfl dX12_line_98 rfl rfl rfl ⟨_, rfl, hs, h⟩
        · refine z_iload_n dX12_line_36 rfl 3 rfl ?_
          refine z_phi 45 [] (fun V9 hv J9 => ?_) h (fun x45_1 h => ?_)
          · refine z_if_ne (tgt := 44) dX12_line_37 (by decide) (eq_ite hv) (fun hv => ?_) (fun hv => ?_)
            · refine z_iconst dX12_line_40 ?_
              refine z_goto (tgt := 45) dX12_line_41 (by decide) ?_
              exact J9 _ hv.symm
            · refine z_iconst dX12_line_44 ?_
              exact J9 _ hv.symm
          · exact z_iret rfl dX12_line_45 rfl rfl rfl ⟨_, rfl, hs, h⟩
      · refine z_iload_n dX12_line_36 rfl 3 rfl ?_
        refine z_phi 45 [] (fun V9 hv J9 => ?_) h (fun x45_2 h => ?_)
        · refine z_if_ne (tgt := 44) dX12_line_37 (by decide) (eq_ite hv) (fun hv => ?_) (fun hv => ?_)
          · refine z_iconst dX12_line_40 ?_
            refine z_goto (tgt := 45) dX12_line_41 (by decide) ?_
            exact J9 _ hv.symm
          · refine z_iconst dX12_line_44 ?_
            exact J9 _ hv.symm
        · exact z_iret rfl dX12_line_45 rfl rfl rfl ⟨_, rfl, hs, h⟩
  · refine z_iload_n dX12_line_36 rfl 3 rfl ?_
    refine z_phi 45 [] (fun V9 hv J9 => ?_) h (fun x45_3 h => ?_)
    · refine z_if_ne (tgt := 44) dX12_line_37 (by decide) (eq_ite hv) (fun hv => ?_) (fun hv => ?_)
      · refine z_iconst dX12_line_40 ?_
        refine z_goto (tgt := 45) dX12_line_41 (by decide) ?_
        exact J9 _ hv.symm
      · refine z_iconst dX12_line_44 ?_
        exact J9 _ hv.symm
    · exact z_iret rfl dX12_line_45 rfl rfl rfl ⟨_, rfl, hs, h⟩
abbrev Y_M_stands : Yt := (2, (some .int), yX12_stands.name, { frames := 1, cells := 0, slots := 0, locals := 22 }, 175, 0, 0)
def f_M_stands (a1 : Int) (μ : Mem) (k : Int → Mem → Prop) : Prop := ∀ μ_1 : Mem, μ_1 = sI μ 15464 0 0 → if (v_M_within a1 1 60) = true then (0 ≤ w a1 ∧ w a1 < ((61 : Nat) : Int) ∧ k (rI μ_1 129 (w a1)) μ_1) else (k (-2) μ_1)
theorem i_M_stands {l : Launch} {Γ : Gam} {g : Nat} {a1 : Int} {μ : Mem} {k : Int → Mem → Prop} (hs : StatR μ.2.2) (h : f_M_stands a1 μ k) : CT l Γ yX12_stands cX12_stands 2 (some .int) 1 22 0 0 [vr Γ 113, vi a1] g 175 μ (pI k) := by
  refine SW.ct (by decide) (Nat.le_of_ble_eq_true rfl) ?_
  refine z_sub (lv' := [(0, vr Γ 113), (1, vi a1)]) [0, 1] rfl ?_
  show SW l Γ yX12_stands.cls cX12_stands Y_M_stands (pI k) g 175 0 0 μ 0 [(0, vr Γ 113), (1, vi a1)] []
  unfold f_M_stands at h
  refine z_rload_n dX12_stands_0 rfl 0 rfl ?_
  refine z_iconst dX12_stands_1 ?_
  refine z_putI (q := 15464) ff_12_0 (Or.inl rfl) rfl dX12_stands_2 kt_113 (Nat.le_of_ble_eq_true rfl) fl_X12_1 rfl ?_
  refine z_mm (fun μ_1 eμ_1 => ?_)
  replace h := h μ_1 eμ_1
  replace hs : StatR μ_1.2.2 := by rw [eμ_1]; exact hs
  refine z_iload_n dX12_stands_5 rfl 1 rfl ?_
  refine z_iconst dX12_stands_6 ?_
  refine z_bipush dX12_stands_7 (by decide) ?_
  refine z_SE (i_M_within ) sk_X12_within ml_X12_215 ⟨Nat.le_of_ble_eq_true rfl, Nat.le_of_ble_eq_true rfl⟩ ⟨Nat.zero_le _, Nat.zero_le _⟩ rfl rfl (Nat.le_of_ble_eq_true rfl) dX12_stands_9 ?_
  refine z_ifeq_b (tgt := 24) dX12_stands_12 (by decide) h (fun h => ?_) (fun h => ?_)
  · refine z_rload_n dX12_stands_15 rfl 0 rfl ?_
    refine z_getR (q := 15488) ff_12_24 dX12_stands_16 kt_113 (Nat.le_of_ble_eq_true rfl) fl_X12_66 rfl (hs.1 _ _ sr_15488) ?_
    refine z_iload_n dX12_stands_19 rfl 1 rfl ?_
    obtain ⟨h0, h1, h⟩ := h
    refine z_iald dX12_stands_20 kt_129 (Nat.le_of_ble_eq_true rfl) h0 h1 ?_
    refine z_goto (tgt := 26) dX12_stands_21 (by decide) ?_
    exact z_iret rfl dX12_stands_26 rfl rfl rfl ⟨_, rfl, hs, h⟩
  · refine z_bipush dX12_stands_24 (by decide) ?_
    exact z_iret rfl dX12_stands_26 rfl rfl rfl ⟨_, rfl, hs, h⟩
abbrev Y_M_tells : Yt := (5, (some .boolean), yX12_tells.name, { frames := 0, cells := 0, slots := 0, locals := 0 }, 175, 0, 0)
def f_M_tells (a1 : Int) (a2 : Int) (a3 : Int) (a4 : Int) (μ : Mem) (k : Bool → Mem → Prop) : Prop := if w (rI μ 15498 0) = w 600 then (k false μ) else (0 ≤ w (rI μ 15498 0) ∧ w (rI μ 15498 0) < ((600 : Nat) : Int) ∧ ∀ μ_1 : Mem, μ_1 = sI μ 138 (w (rI μ 15498 0)) a1 → 0 ≤ w (rI μ_1 15498 0) ∧ w (rI μ_1 15498 0) < ((600 : Nat) : Int) ∧ ∀ μ_2 : Mem, μ_2 = sI μ_1 139 (w (rI μ_1 15498 0)) a2 → 0 ≤ w (rI μ_2 15498 0) ∧ w (rI μ_2 15498 0) < ((600 : Nat) : Int) ∧ ∀ μ_3 : Mem, μ_3 = sI μ_2 140 (w (rI μ_2 15498 0)) a3 → 0 ≤ w (rI μ_3 15498 0) ∧ w (rI μ_3 15498 0) < ((600 : Nat) : Int) ∧ ∀ μ_4 : Mem, μ_4 = sI μ_3 141 (w (rI μ_3 15498 0)) a4 → 0 ≤ w (rI μ_4 15498 0) ∧ w (rI μ_4 15498 0) < ((600 : Nat) : Int) ∧ ∀ μ_5 : Mem, μ_5 = sI μ_4 142 (w (rI μ_4 15498 0)) (rI μ_4 15465 0) → ∀ μ_6 : Mem, μ_6 = sI μ_5 15498 0 ((rI μ_5 15498 0) + 1) → k true μ_6)
theorem i_M_tells {l : Launch} {Γ : Gam} {g : Nat} {a1 : Int} {a2 : Int} {a3 : Int} {a4 : Int} {μ : Mem} {k : Bool → Mem → Prop} (hs : StatR μ.2.2) (h : f_M_tells a1 a2 a3 a4 μ k) : CT l Γ yX12_tells cX12_tells 5 (some .boolean) 0 0 0 0 [vr Γ 113, vi a1, vi a2, vi a3, vi a4] g 175 μ (pB k) := by
  refine SW.ct (by decide) (Nat.le_of_ble_eq_true rfl) ?_
  refine z_sub (lv' := [(0, vr Γ 113), (1, vi a1), (2, vi a2), (3, vi a3), (4, vi a4)]) [0, 1, 2, 3, 4] rfl ?_
  show SW l Γ yX12_tells.cls cX12_tells Y_M_tells (pB k) g 175 0 0 μ 0 [(0, vr Γ 113), (1, vi a1), (2, vi a2), (3, vi a3), (4, vi a4)] []
  unfold f_M_tells at h
  refine z_rload_n dX12_tells_0 rfl 0 rfl ?_
  refine z_getI (q := 15498) ff_12_34 dX12_tells_1 kt_113 (Nat.le_of_ble_eq_true rfl) fl_X12_250 rfl ?_
  refine z_sipush dX12_tells_4 (by decide) ?_
  refine z_icmp_ne (tgt := 12) dX12_tells_7 (by decide) h (fun h => ?_) (fun h => ?_)
  · refine z_iconst dX12_tells_10 ?_
    exact z_zret (b := false) rfl dX12_tells_11 rfl rfl rfl ⟨_, rfl, hs, h⟩
  · refine z_rload_n dX12_tells_12 rfl 0 rfl ?_
    refine z_getR (q := 15499) ff_12_35 dX12_tells_13 kt_113 (Nat.le_of_ble_eq_true rfl) fl_X12_96 rfl (hs.1 _ _ sr_15499) ?_
    refine z_rload_n dX12_tells_16 rfl 0 rfl ?_
    refine z_getI (q := 15498) ff_12_34 dX12_tells_17 kt_113 (Nat.le_of_ble_eq_true rfl) fl_X12_250 rfl ?_
    refine z_iload_n dX12_tells_20 rfl 1 rfl ?_
    obtain ⟨h0, h1, h⟩ := h
    refine z_iast dX12_tells_21 kt_138 (Nat.le_of_ble_eq_true rfl) h0 h1 ?_
    refine z_mm (fun μ_1 eμ_1 => ?_)
    replace h := h μ_1 eμ_1
    replace hs : StatR μ_1.2.2 := by rw [eμ_1]; exact hs
    refine z_rload_n dX12_tells_22 rfl 0 rfl ?_
    refine z_getR (q := 15500) ff_12_36 dX12_tells_23 kt_113 (Nat.le_of_ble_eq_true rfl) fl_X12_99 rfl (hs.1 _ _ sr_15500) ?_
    refine z_rload_n dX12_tells_26 rfl 0 rfl ?_
    refine z_getI (q := 15498) ff_12_34 dX12_tells_27 kt_113 (Nat.le_of_ble_eq_true rfl) fl_X12_250 rfl ?_
    refine z_iload_n dX12_tells_30 rfl 2 rfl ?_
    obtain ⟨h0, h1, h⟩ := h
    refine z_iast dX12_tells_31 kt_139 (Nat.le_of_ble_eq_true rfl) h0 h1 ?_
    refine z_mm (fun μ_2 eμ_2 => ?_)
    replace h := h μ_2 eμ_2
    replace hs : StatR μ_2.2.2 := by rw [eμ_2]; exact hs
    refine z_rload_n dX12_tells_32 rfl 0 rfl ?_
    refine z_getR (q := 15501) ff_12_37 dX12_tells_33 kt_113 (Nat.le_of_ble_eq_true rfl) fl_X12_102 rfl (hs.1 _ _ sr_15501) ?_
    refine z_rload_n dX12_tells_36 rfl 0 rfl ?_
    refine z_getI (q := 15498) ff_12_34 dX12_tells_37 kt_113 (Nat.le_of_ble_eq_true rfl) fl_X12_250 rfl ?_
    refine z_iload_n dX12_tells_40 rfl 3 rfl ?_
    obtain ⟨h0, h1, h⟩ := h
    refine z_iast dX12_tells_41 kt_140 (Nat.le_of_ble_eq_true rfl) h0 h1 ?_
    refine z_mm (fun μ_3 eμ_3 => ?_)
    replace h := h μ_3 eμ_3
    replace hs : StatR μ_3.2.2 := by rw [eμ_3]; exact hs
    refine z_rload_n dX12_tells_42 rfl 0 rfl ?_
    refine z_getR (q := 15502) ff_12_38 dX12_tells_43 kt_113 (Nat.le_of_ble_eq_true rfl) fl_X12_105 rfl (hs.1 _ _ sr_15502) ?_
    refine z_rload_n dX12_tells_46 rfl 0 rfl ?_
    refine z_getI (q := 15498) ff_12_34 dX12_tells_47 kt_113 (Nat.le_of_ble_eq_true rfl) fl_X12_250 rfl ?_
    refine z_iload dX12_tells_50 4 rfl ?_
    obtain ⟨h0, h1, h⟩ := h
    refine z_iast dX12_tells_52 kt_141 (Nat.le_of_ble_eq_true rfl) h0 h1 ?_
    refine z_mm (fun μ_4 eμ_4 => ?_)
    replace h := h μ_4 eμ_4
    replace hs : StatR μ_4.2.2 := by rw [eμ_4]; exact hs
    refine z_rload_n dX12_tells_53 rfl 0 rfl ?_
    refine z_getR (q := 15503) ff_12_39 dX12_tells_54 kt_113 (Nat.le_of_ble_eq_true rfl) fl_X12_108 rfl (hs.1 _ _ sr_15503) ?_
    refine z_rload_n dX12_tells_57 rfl 0 rfl ?_
    refine z_getI (q := 15498) ff_12_34 dX12_tells_58 kt_113 (Nat.le_of_ble_eq_true rfl) fl_X12_250 rfl ?_
    refine z_rload_n dX12_tells_61 rfl 0 rfl ?_
    refine z_getI (q := 15465) ff_12_1 dX12_tells_62 kt_113 (Nat.le_of_ble_eq_true rfl) fl_X12_212 rfl ?_
    obtain ⟨h0, h1, h⟩ := h
    refine z_iast dX12_tells_65 kt_142 (Nat.le_of_ble_eq_true rfl) h0 h1 ?_
    refine z_mm (fun μ_5 eμ_5 => ?_)
    replace h := h μ_5 eμ_5
    replace hs : StatR μ_5.2.2 := by rw [eμ_5]; exact hs
    refine z_rload_n dX12_tells_66 rfl 0 rfl ?_
    refine z_dup dX12_tells_67 rfl ?_
    refine z_getI (q := 15498) ff_12_34 dX12_tells_68 kt_113 (Nat.le_of_ble_eq_true rfl) fl_X12_250 rfl ?_
    refine z_iconst dX12_tells_71 ?_
    refine z_iadd dX12_tells_72 ?_
    refine z_putI (q := 15498) ff_12_34 (Or.inl rfl) rfl dX12_tells_73 kt_113 (Nat.le_of_ble_eq_true rfl) fl_X12_250 rfl ?_
    refine z_mm (fun μ_6 eμ_6 => ?_)
    replace h := h μ_6 eμ_6
    replace hs : StatR μ_6.2.2 := by rw [eμ_6]; exact hs
    refine z_iconst dX12_tells_76 ?_
    exact z_zret (b := true) rfl dX12_tells_77 rfl rfl rfl ⟨_, rfl, hs, h⟩
abbrev Y_M_toldBy : Yt := (7, (some .int), yX12_toldBy.name, { frames := 0, cells := 0, slots := 0, locals := 0 }, 175, 0, 0)
def l_M_toldBy_8 (a1 : Int) (a2 : Int) (a3 : Int) (a4 : Int) (a5 : Int) (μ : Mem) (X_8_58 : Int → Prop) (k : Int → Mem → Prop) : Nat → Int → Prop
  | 0, _ => False
  | fu8 + 1, v6_1 => if w v6_1 < 0 then (k a5 μ) else (0 ≤ w v6_1 ∧ w v6_1 < ((600 : Nat) : Int) ∧ if w (rI μ 138 (w v6_1)) = w a1 then (0 ≤ w v6_1 ∧ w v6_1 < ((600 : Nat) : Int) ∧ if w (rI μ 139 (w v6_1)) = w a2 then (0 ≤ w v6_1 ∧ w v6_1 < ((600 : Nat) : Int) ∧ if w (rI μ 140 (w v6_1)) = w a3 then (0 ≤ w v6_1 ∧ w v6_1 < ((600 : Nat) : Int) ∧ if w a4 < w (rI μ 142 (w v6_1)) then ((l_M_toldBy_8 a1 a2 a3 a4 a5 μ X_8_58 k fu8) (v6_1 + (-1))) else (X_8_58 v6_1)) else ((l_M_toldBy_8 a1 a2 a3 a4 a5 μ X_8_58 k fu8) (v6_1 + (-1)))) else ((l_M_toldBy_8 a1 a2 a3 a4 a5 μ X_8_58 k fu8) (v6_1 + (-1)))) else ((l_M_toldBy_8 a1 a2 a3 a4 a5 μ X_8_58 k fu8) (v6_1 + (-1))))
def f_M_toldBy (a1 : Int) (a2 : Int) (a3 : Int) (a4 : Int) (a5 : Int) (μ : Mem) (k : Int → Mem → Prop) : Prop := ∀ v6 : Int, v6 = (rI μ 15498 0) - 1 → ∃ m8 : Nat, l_M_toldBy_8 a1 a2 a3 a4 a5 μ (fun (v6_2 : Int) => 0 ≤ w v6_2 ∧ w v6_2 < ((600 : Nat) : Int) ∧ k (rI μ 141 (w v6_2)) μ) k m8 v6
theorem L_M_toldBy_8 {l : Launch} {Γ : Gam} {g : Nat} {a1 : Int} {a2 : Int} {a3 : Int} {a4 : Int} {a5 : Int} {μ : Mem} {X_8_58 : Int → Prop} {k : Int → Mem → Prop} (hs : StatR μ.2.2) (hX_8_58 : ∀ (u6 : Int), X_8_58 u6 → SW l Γ yX12_toldBy.cls cX12_toldBy Y_M_toldBy (pI k) g 175 0 0 μ 58 [(0, vr Γ 113), (6, vi u6)] []) (n9 : Nat) : ∀ (v6_1 : Int), l_M_toldBy_8 a1 a2 a3 a4 a5 μ X_8_58 k n9 v6_1 → SW l Γ yX12_toldBy.cls cX12_toldBy Y_M_toldBy (pI k) g 175 0 0 μ 8 [(0, vr Γ 113), (1, vi a1), (2, vi a2), (3, vi a3), (4, vi a4), (5, vi a5), (6, vi v6_1)] [] := by
  induction n9 with
  | zero =>
    intro v6_1 h
    exact h.elim
  | succ n9 hR_8 =>
    intro v6_1 h
    rw [l_M_toldBy_8] at h
    refine z_iload dX12_toldBy_8 6 rfl ?_
    refine z_if_lt (tgt := 72) dX12_toldBy_10 (by decide) h (fun h => ?_) (fun h => ?_)
    · refine z_iload dX12_toldBy_72 5 rfl ?_
      exact z_iret rfl dX12_toldBy_74 rfl rfl rfl ⟨_, rfl, hs, h⟩
    · refine z_rload_n dX12_toldBy_13 rfl 0 rfl ?_
      refine z_getR (q := 15499) ff_12_35 dX12_toldBy_14 kt_113 (Nat.le_of_ble_eq_true rfl) fl_X12_96 rfl (hs.1 _ _ sr_15499) ?_
      refine z_iload dX12_toldBy_17 6 rfl ?_
      obtain ⟨h0, h1, h⟩ := h
      refine z_iald dX12_toldBy_19 kt_138 (Nat.le_of_ble_eq_true rfl) h0 h1 ?_
      refine z_iload_n dX12_toldBy_20 rfl 1 rfl ?_
      refine z_icmp_ne (tgt := 66) dX12_toldBy_21 (by decide) h (fun h => ?_) (fun h => ?_)
      · refine z_rload_n dX12_toldBy_24 rfl 0 rfl ?_
        refine z_getR (q := 15500) ff_12_36 dX12_toldBy_25 kt_113 (Nat.le_of_ble_eq_true rfl) fl_X12_99 rfl (hs.1 _ _ sr_15500) ?_
        refine z_iload dX12_toldBy_28 6 rfl ?_
        obtain ⟨h0, h1, h⟩ := h
        refine z_iald dX12_toldBy_30 kt_139 (Nat.le_of_ble_eq_true rfl) h0 h1 ?_
        refine z_iload_n dX12_toldBy_31 rfl 2 rfl ?_
        refine z_icmp_ne (tgt := 66) dX12_toldBy_32 (by decide) h (fun h => ?_) (fun h => ?_)
        · refine z_rload_n dX12_toldBy_35 rfl 0 rfl ?_
          refine z_getR (q := 15501) ff_12_37 dX12_toldBy_36 kt_113 (Nat.le_of_ble_eq_true rfl) fl_X12_102 rfl (hs.1 _ _ sr_15501) ?_
          refine z_iload dX12_toldBy_39 6 rfl ?_
          obtain ⟨h0, h1, h⟩ := h
          refine z_iald dX12_toldBy_41 kt_140 (Nat.le_of_ble_eq_true rfl) h0 h1 ?_
          refine z_iload_n dX12_toldBy_42 rfl 3 rfl ?_
          refine z_icmp_ne (tgt := 66) dX12_toldBy_43 (by decide) h (fun h => ?_) (fun h => ?_)
          · refine z_rload_n dX12_toldBy_46 rfl 0 rfl ?_
            refine z_getR (q := 15503) ff_12_39 dX12_toldBy_47 kt_113 (Nat.le_of_ble_eq_true rfl) fl_X12_108 rfl (hs.1 _ _ sr_15503) ?_
            refine z_iload dX12_toldBy_50 6 rfl ?_
            obtain ⟨h0, h1, h⟩ := h
            refine z_iald dX12_toldBy_52 kt_142 (Nat.le_of_ble_eq_true rfl) h0 h1 ?_
            refine z_iload dX12_toldBy_53 4 rfl ?_
            refine z_icmp_gt (tgt := 66) dX12_toldBy_55 (by decide) h (fun h => ?_) (fun h => ?_)
            · refine z_iinc (j := 6) (lv' := [(6, vi (v6_1 + (-1))), (0, vr Γ 113), (1, vi a1), (2, vi a2), (3, vi a3), (4, vi a4), (5, vi a5)]) dX12_toldBy_66 rfl (Nat.le_of_ble_eq_true rfl) rfl ?_
              refine z_goto (tgt := 8) dX12_toldBy_69 (by decide) ?_
              refine z_sub (lv' := [(0, vr Γ 113), (1, vi a1), (2, vi a2), (3, vi a3), (4, vi a4), (5, vi a5), (6, vi (v6_1 + (-1)))]) [1, 2, 3, 4, 5, 6, 0] rfl ?_
              exact hR_8 (v6_1 + (-1)) h
            · refine z_sub (lv' := [(0, vr Γ 113), (6, vi v6_1)]) [0, 6] rfl ?_
              exact hX_8_58 v6_1 h
          · refine z_iinc (j := 6) (lv' := [(6, vi (v6_1 + (-1))), (0, vr Γ 113), (1, vi a1), (2, vi a2), (3, vi a3), (4, vi a4), (5, vi a5)]) dX12_toldBy_66 rfl (Nat.le_of_ble_eq_true rfl) rfl ?_
            refine z_goto (tgt := 8) dX12_toldBy_69 (by decide) ?_
            refine z_sub (lv' := [(0, vr Γ 113), (1, vi a1), (2, vi a2), (3, vi a3), (4, vi a4), (5, vi a5), (6, vi (v6_1 + (-1)))]) [1, 2, 3, 4, 5, 6, 0] rfl ?_
            exact hR_8 (v6_1 + (-1)) h
        · refine z_iinc (j := 6) (lv' := [(6, vi (v6_1 + (-1))), (0, vr Γ 113), (1, vi a1), (2, vi a2), (3, vi a3), (4, vi a4), (5, vi a5)]) dX12_toldBy_66 rfl (Nat.le_of_ble_eq_true rfl) rfl ?_
          refine z_goto (tgt := 8) dX12_toldBy_69 (by decide) ?_
          refine z_sub (lv' := [(0, vr Γ 113), (1, vi a1), (2, vi a2), (3, vi a3), (4, vi a4), (5, vi a5), (6, vi (v6_1 + (-1)))]) [1, 2, 3, 4, 5, 6, 0] rfl ?_
          exact hR_8 (v6_1 + (-1)) h
      · refine z_iinc (j := 6) (lv' := [(6, vi (v6_1 + (-1))), (0, vr Γ 113), (1, vi a1), (2, vi a2), (3, vi a3), (4, vi a4), (5, vi a5)]) dX12_toldBy_66 rfl (Nat.le_of_ble_eq_true rfl) rfl ?_
        refine z_goto (tgt := 8) dX12_toldBy_69 (by decide) ?_
        refine z_sub (lv' := [(0, vr Γ 113), (1, vi a1), (2, vi a2), (3, vi a3), (4, vi a4), (5, vi a5), (6, vi (v6_1 + (-1)))]) [1, 2, 3, 4, 5, 6, 0] rfl ?_
        exact hR_8 (v6_1 + (-1)) h
theorem i_M_toldBy {l : Launch} {Γ : Gam} {g : Nat} {a1 : Int} {a2 : Int} {a3 : Int} {a4 : Int} {a5 : Int} {μ : Mem} {k : Int → Mem → Prop} (hs : StatR μ.2.2) (h : f_M_toldBy a1 a2 a3 a4 a5 μ k) : CT l Γ yX12_toldBy cX12_toldBy 7 (some .int) 0 0 0 0 [vr Γ 113, vi a1, vi a2, vi a3, vi a4, vi a5] g 175 μ (pI k) := by
  refine SW.ct (by decide) (Nat.le_of_ble_eq_true rfl) ?_
  refine z_sub (lv' := [(0, vr Γ 113), (1, vi a1), (2, vi a2), (3, vi a3), (4, vi a4), (5, vi a5)]) [0, 1, 2, 3, 4, 5] rfl ?_
  show SW l Γ yX12_toldBy.cls cX12_toldBy Y_M_toldBy (pI k) g 175 0 0 μ 0 [(0, vr Γ 113), (1, vi a1), (2, vi a2), (3, vi a3), (4, vi a4), (5, vi a5)] []
  unfold f_M_toldBy at h
  refine z_rload_n dX12_toldBy_0 rfl 0 rfl ?_
  refine z_getI (q := 15498) ff_12_34 dX12_toldBy_1 kt_113 (Nat.le_of_ble_eq_true rfl) fl_X12_250 rfl ?_
  refine z_iconst dX12_toldBy_4 ?_
  refine z_isub dX12_toldBy_5 ?_
  refine z_nm (fun v6 ev6 => ?_)
  replace h := h v6 ev6
  refine z_istore (lv' := [(6, vi v6), (0, vr Γ 113), (1, vi a1), (2, vi a2), (3, vi a3), (4, vi a4), (5, vi a5)]) dX12_toldBy_6 (Nat.le_of_ble_eq_true rfl) rfl ?_
  obtain ⟨m8, h⟩ := h
  refine z_sub (lv' := [(0, vr Γ 113), (1, vi a1), (2, vi a2), (3, vi a3), (4, vi a4), (5, vi a5), (6, vi v6)]) [1, 2, 3, 4, 5, 6, 0] rfl ?_
  refine L_M_toldBy_8 hs (fun v6_2 h => ?_) m8 v6 h
  refine z_rload_n dX12_toldBy_58 rfl 0 rfl ?_
  refine z_getR (q := 15502) ff_12_38 dX12_toldBy_59 kt_113 (Nat.le_of_ble_eq_true rfl) fl_X12_105 rfl (hs.1 _ _ sr_15502) ?_
  refine z_iload dX12_toldBy_62 1 rfl ?_
  obtain ⟨h0, h1, h⟩ := h
  refine z_iald dX12_toldBy_64 kt_141 (Nat.le_of_ble_eq_true rfl) h0 h1 ?_
  exact z_iret rfl dX12_toldBy_65 rfl rfl rfl ⟨_, rfl, hs, h⟩
abbrev Y_M_heads : Yt := (3, (some .boolean), yX12_heads.name, { frames := 1, cells := 0, slots := 0, locals := 24 }, 175, 0, 0)
def f_M_heads (a1 : Int) (a2 : Int) (μ : Mem) (k : Bool → Mem → Prop) : Prop := ∀ μ_1 : Mem, μ_1 = sI μ 15464 0 0 → if (v_M_isAffiliate a1 μ_1) = true then (if (v_M_within a2 0 9999) = true then (f_M_tells 0 a1 0 a2 μ_1 (fun r29 μ_2 => ∀ x40 : Bool, x40 = (if r29 = true then true else false) → k x40 μ_2)) else (k false μ_1)) else (k false μ_1)
theorem i_M_heads {l : Launch} {Γ : Gam} {g : Nat} {a1 : Int} {a2 : Int} {μ : Mem} {k : Bool → Mem → Prop} (hs : StatR μ.2.2) (h : f_M_heads a1 a2 μ k) : CT l Γ yX12_heads cX12_heads 3 (some .boolean) 1 24 0 0 [vr Γ 113, vi a1, vi a2] g 175 μ (pB k) := by
  refine SW.ct (by decide) (Nat.le_of_ble_eq_true rfl) ?_
  refine z_sub (lv' := [(0, vr Γ 113), (1, vi a1), (2, vi a2)]) [0, 1, 2] rfl ?_
  show SW l Γ yX12_heads.cls cX12_heads Y_M_heads (pB k) g 175 0 0 μ 0 [(0, vr Γ 113), (1, vi a1), (2, vi a2)] []
  unfold f_M_heads at h
  refine z_rload_n dX12_heads_0 rfl 0 rfl ?_
  refine z_iconst dX12_heads_1 ?_
  refine z_putI (q := 15464) ff_12_0 (Or.inl rfl) rfl dX12_heads_2 kt_113 (Nat.le_of_ble_eq_true rfl) fl_X12_1 rfl ?_
  refine z_mm (fun μ_1 eμ_1 => ?_)
  replace h := h μ_1 eμ_1
  replace hs : StatR μ_1.2.2 := by rw [eμ_1]; exact hs
  refine z_rload_n dX12_heads_5 rfl 0 rfl ?_
  refine z_iload_n dX12_heads_6 rfl 1 rfl ?_
  refine z_VE (i_M_isAffiliate ) vk_X12_isAffiliate kt_113 (Nat.le_of_ble_eq_true rfl) rfl ml_X12_219 ⟨Nat.le_of_ble_eq_true rfl, Nat.le_of_ble_eq_true rfl⟩ ⟨Nat.zero_le _, Nat.zero_le _⟩ rfl rfl (Nat.le_of_ble_eq_true rfl) dX12_heads_7 ?_
  refine z_ifeq_b (tgt := 39) dX12_heads_10 (by decide) h (fun h => ?_) (fun h => ?_)
  · refine z_iload_n dX12_heads_13 rfl 2 rfl ?_
    refine z_iconst dX12_heads_14 ?_
    refine z_sipush dX12_heads_15 (by decide) ?_
    refine z_SE (i_M_within ) sk_X12_within ml_X12_215 ⟨Nat.le_of_ble_eq_true rfl, Nat.le_of_ble_eq_true rfl⟩ ⟨Nat.zero_le _, Nat.zero_le _⟩ rfl rfl (Nat.le_of_ble_eq_true rfl) dX12_heads_18 ?_
    refine z_ifeq_b (tgt := 39) dX12_heads_21 (by decide) h (fun h => ?_) (fun h => ?_)
    · refine z_rload_n dX12_heads_24 rfl 0 rfl ?_
      refine z_iconst dX12_heads_25 ?_
      refine z_iload_n dX12_heads_26 rfl 1 rfl ?_
      refine z_iconst dX12_heads_27 ?_
      refine z_iload_n dX12_heads_28 rfl 2 rfl ?_
      refine z_VB (i_M_tells  hs h) vk_X12_tells kt_113 (Nat.le_of_ble_eq_true rfl) rfl ml_X12_253 ⟨Nat.le_of_ble_eq_true rfl, Nat.le_of_ble_eq_true rfl⟩ ⟨Nat.zero_le _, Nat.zero_le _⟩ rfl rfl (Nat.le_of_ble_eq_true rfl) dX12_heads_29 (fun r29 μ_2 hs h => ?_)
      refine z_phiB 40 [] (fun V9 hv J9 => ?_) h (fun x40 h => ?_)
      · refine z_ifeq_b (tgt := 39) dX12_heads_32 (by decide) (eq_ite hv) (fun hv => ?_) (fun hv => ?_)
        · refine z_iconst dX12_heads_35 ?_
          refine z_goto (tgt := 40) dX12_heads_36 (by decide) ?_
          exact J9 true hv.symm
        · refine z_iconst dX12_heads_39 ?_
          exact J9 false hv.symm
      · exact z_zret (b := x40) rfl dX12_heads_40 rfl rfl rfl ⟨_, rfl, hs, h⟩
    · refine z_iconst dX12_heads_39 ?_
      exact z_zret (b := false) rfl dX12_heads_40 rfl rfl rfl ⟨_, rfl, hs, h⟩
  · refine z_iconst dX12_heads_39 ?_
    exact z_zret (b := false) rfl dX12_heads_40 rfl rfl rfl ⟨_, rfl, hs, h⟩
abbrev Y_M_dues : Yt := (3, (some .boolean), yX12_dues.name, { frames := 1, cells := 0, slots := 0, locals := 24 }, 175, 0, 0)
def f_M_dues (a1 : Int) (a2 : Int) (μ : Mem) (k : Bool → Mem → Prop) : Prop := ∀ μ_1 : Mem, μ_1 = sI μ 15464 0 0 → if (v_M_isAffiliate a1 μ_1) = true then (if (v_M_within a2 0 99999) = true then (f_M_tells 1 a1 0 a2 μ_1 (fun r29 μ_2 => ∀ x40 : Bool, x40 = (if r29 = true then true else false) → k x40 μ_2)) else (k false μ_1)) else (k false μ_1)
theorem i_M_dues {l : Launch} {Γ : Gam} {g : Nat} {a1 : Int} {a2 : Int} {μ : Mem} {k : Bool → Mem → Prop} (hs : StatR μ.2.2) (h : f_M_dues a1 a2 μ k) : CT l Γ yX12_dues cX12_dues 3 (some .boolean) 1 24 0 0 [vr Γ 113, vi a1, vi a2] g 175 μ (pB k) := by
  refine SW.ct (by decide) (Nat.le_of_ble_eq_true rfl) ?_
  refine z_sub (lv' := [(0, vr Γ 113), (1, vi a1), (2, vi a2)]) [0, 1, 2] rfl ?_
  show SW l Γ yX12_dues.cls cX12_dues Y_M_dues (pB k) g 175 0 0 μ 0 [(0, vr Γ 113), (1, vi a1), (2, vi a2)] []
  unfold f_M_dues at h
  refine z_rload_n dX12_dues_0 rfl 0 rfl ?_
  refine z_iconst dX12_dues_1 ?_
  refine z_putI (q := 15464) ff_12_0 (Or.inl rfl) rfl dX12_dues_2 kt_113 (Nat.le_of_ble_eq_true rfl) fl_X12_1 rfl ?_
  refine z_mm (fun μ_1 eμ_1 => ?_)
  replace h := h μ_1 eμ_1
  replace hs : StatR μ_1.2.2 := by rw [eμ_1]; exact hs
  refine z_rload_n dX12_dues_5 rfl 0 rfl ?_
  refine z_iload_n dX12_dues_6 rfl 1 rfl ?_
  refine z_VE (i_M_isAffiliate ) vk_X12_isAffiliate kt_113 (Nat.le_of_ble_eq_true rfl) rfl ml_X12_219 ⟨Nat.le_of_ble_eq_true rfl, Nat.le_of_ble_eq_true rfl⟩ ⟨Nat.zero_le _, Nat.zero_le _⟩ rfl rfl (Nat.le_of_ble_eq_true rfl) dX12_dues_7 ?_
  refine z_ifeq_b (tgt := 39) dX12_dues_10 (by decide) h (fun h => ?_) (fun h => ?_)
  · refine z_iload_n dX12_dues_13 rfl 2 rfl ?_
    refine z_iconst dX12_dues_14 ?_
    refine z_ldcw (x := 99999) dX12_dues_15 cs_X12_257 ?_
    refine z_SE (i_M_within ) sk_X12_within ml_X12_215 ⟨Nat.le_of_ble_eq_true rfl, Nat.le_of_ble_eq_true rfl⟩ ⟨Nat.zero_le _, Nat.zero_le _⟩ rfl rfl (Nat.le_of_ble_eq_true rfl) dX12_dues_18 ?_
    refine z_ifeq_b (tgt := 39) dX12_dues_21 (by decide) h (fun h => ?_) (fun h => ?_)
    · refine z_rload_n dX12_dues_24 rfl 0 rfl ?_
      refine z_iconst dX12_dues_25 ?_
      refine z_iload_n dX12_dues_26 rfl 1 rfl ?_
      refine z_iconst dX12_dues_27 ?_
      refine z_iload_n dX12_dues_28 rfl 2 rfl ?_
      refine z_VB (i_M_tells  hs h) vk_X12_tells kt_113 (Nat.le_of_ble_eq_true rfl) rfl ml_X12_253 ⟨Nat.le_of_ble_eq_true rfl, Nat.le_of_ble_eq_true rfl⟩ ⟨Nat.zero_le _, Nat.zero_le _⟩ rfl rfl (Nat.le_of_ble_eq_true rfl) dX12_dues_29 (fun r29 μ_2 hs h => ?_)
      refine z_phiB 40 [] (fun V9 hv J9 => ?_) h (fun x40 h => ?_)
      · refine z_ifeq_b (tgt := 39) dX12_dues_32 (by decide) (eq_ite hv) (fun hv => ?_) (fun hv => ?_)
        · refine z_iconst dX12_dues_35 ?_
          refine z_goto (tgt := 40) dX12_dues_36 (by decide) ?_
          exact J9 true hv.symm
        · refine z_iconst dX12_dues_39 ?_
          exact J9 false hv.symm
      · exact z_zret (b := x40) rfl dX12_dues_40 rfl rfl rfl ⟨_, rfl, hs, h⟩
    · refine z_iconst dX12_dues_39 ?_
      exact z_zret (b := false) rfl dX12_dues_40 rfl rfl rfl ⟨_, rfl, hs, h⟩
  · refine z_iconst dX12_dues_39 ?_
    exact z_zret (b := false) rfl dX12_dues_40 rfl rfl rfl ⟨_, rfl, hs, h⟩
abbrev Y_M_mandate : Yt := (4, (some .boolean), yX12_mandate.name, { frames := 2, cells := 0, slots := 0, locals := 43 }, 175, 0, 0)
def f_M_mandate (a1 : Int) (a2 : Int) (a3 : Int) (μ : Mem) (k : Bool → Mem → Prop) : Prop := ∀ μ_1 : Mem, μ_1 = sI μ 15464 0 0 → if w a1 < 0 then (k false μ_1) else (if w a1 < w (rI μ_1 15468 0) then (if (v_M_isMatter a2 μ_1) = true then (if (v_M_within a3 0 2) = true then (f_M_tells 2 a1 a2 a3 μ_1 (fun r39 μ_2 => ∀ x50 : Bool, x50 = (if r39 = true then true else false) → k x50 μ_2)) else (k false μ_1)) else (k false μ_1)) else (k false μ_1))
theorem i_M_mandate {l : Launch} {Γ : Gam} {g : Nat} {a1 : Int} {a2 : Int} {a3 : Int} {μ : Mem} {k : Bool → Mem → Prop} (hs : StatR μ.2.2) (h : f_M_mandate a1 a2 a3 μ k) : CT l Γ yX12_mandate cX12_mandate 4 (some .boolean) 2 43 0 0 [vr Γ 113, vi a1, vi a2, vi a3] g 175 μ (pB k) := by
  refine SW.ct (by decide) (Nat.le_of_ble_eq_true rfl) ?_
  refine z_sub (lv' := [(0, vr Γ 113), (1, vi a1), (2, vi a2), (3, vi a3)]) [0, 1, 2, 3] rfl ?_
  show SW l Γ yX12_mandate.cls cX12_mandate Y_M_mandate (pB k) g 175 0 0 μ 0 [(0, vr Γ 113), (1, vi a1), (2, vi a2), (3, vi a3)] []
  unfold f_M_mandate at h
  refine z_rload_n dX12_mandate_0 rfl 0 rfl ?_
  refine z_iconst dX12_mandate_1 ?_
  refine z_putI (q := 15464) ff_12_0 (Or.inl rfl) rfl dX12_mandate_2 kt_113 (Nat.le_of_ble_eq_true rfl) fl_X12_1 rfl ?_
  refine z_mm (fun μ_1 eμ_1 => ?_)
  replace h := h μ_1 eμ_1
  replace hs : StatR μ_1.2.2 := by rw [eμ_1]; exact hs
  refine z_iload_n dX12_mandate_5 rfl 1 rfl ?_
  refine z_if_lt (tgt := 49) dX12_mandate_6 (by decide) h (fun h => ?_) (fun h => ?_)
  · refine z_iconst dX12_mandate_49 ?_
    exact z_zret (b := false) rfl dX12_mandate_50 rfl rfl rfl ⟨_, rfl, hs, h⟩
  · refine z_iload_n dX12_mandate_9 rfl 1 rfl ?_
    refine z_rload_n dX12_mandate_10 rfl 0 rfl ?_
    refine z_getI (q := 15468) ff_12_4 dX12_mandate_11 kt_113 (Nat.le_of_ble_eq_true rfl) fl_X12_223 rfl ?_
    refine z_icmp_ge (tgt := 49) dX12_mandate_14 (by decide) h (fun h => ?_) (fun h => ?_)
    · refine z_rload_n dX12_mandate_17 rfl 0 rfl ?_
      refine z_iload_n dX12_mandate_18 rfl 2 rfl ?_
      refine z_VE (i_M_isMatter ) vk_X12_isMatter kt_113 (Nat.le_of_ble_eq_true rfl) rfl ml_X12_243 ⟨Nat.le_of_ble_eq_true rfl, Nat.le_of_ble_eq_true rfl⟩ ⟨Nat.zero_le _, Nat.zero_le _⟩ rfl rfl (Nat.le_of_ble_eq_true rfl) dX12_mandate_19 ?_
      refine z_ifeq_b (tgt := 49) dX12_mandate_22 (by decide) h (fun h => ?_) (fun h => ?_)
      · refine z_iload_n dX12_mandate_25 rfl 3 rfl ?_
        refine z_iconst dX12_mandate_26 ?_
        refine z_iconst dX12_mandate_27 ?_
        refine z_SE (i_M_within ) sk_X12_within ml_X12_215 ⟨Nat.le_of_ble_eq_true rfl, Nat.le_of_ble_eq_true rfl⟩ ⟨Nat.zero_le _, Nat.zero_le _⟩ rfl rfl (Nat.le_of_ble_eq_true rfl) dX12_mandate_28 ?_
        refine z_ifeq_b (tgt := 49) dX12_mandate_31 (by decide) h (fun h => ?_) (fun h => ?_)
        · refine z_rload_n dX12_mandate_34 rfl 0 rfl ?_
          refine z_iconst dX12_mandate_35 ?_
          refine z_iload_n dX12_mandate_36 rfl 1 rfl ?_
          refine z_iload_n dX12_mandate_37 rfl 2 rfl ?_
          refine z_iload_n dX12_mandate_38 rfl 3 rfl ?_
          refine z_VB (i_M_tells  hs h) vk_X12_tells kt_113 (Nat.le_of_ble_eq_true rfl) rfl ml_X12_253 ⟨Nat.le_of_ble_eq_true rfl, Nat.le_of_ble_eq_true rfl⟩ ⟨Nat.zero_le _, Nat.zero_le _⟩ rfl rfl (Nat.le_of_ble_eq_true rfl) dX12_mandate_39 (fun r39 μ_2 hs h => ?_)
          refine z_phiB 50 [] (fun V9 hv J9 => ?_) h (fun x50 h => ?_)
          · refine z_ifeq_b (tgt := 49) dX12_mandate_42 (by decide) (eq_ite hv) (fun hv => ?_) (fun hv => ?_)
            · refine z_iconst dX12_mandate_45 ?_
              refine z_goto (tgt := 50) dX12_mandate_46 (by decide) ?_
              exact J9 true hv.symm
            · refine z_iconst dX12_mandate_49 ?_
              exact J9 false hv.symm
          · exact z_zret (b := x50) rfl dX12_mandate_50 rfl rfl rfl ⟨_, rfl, hs, h⟩
        · refine z_iconst dX12_mandate_49 ?_
          exact z_zret (b := false) rfl dX12_mandate_50 rfl rfl rfl ⟨_, rfl, hs, h⟩
      · refine z_iconst dX12_mandate_49 ?_
        exact z_zret (b := false) rfl dX12_mandate_50 rfl rfl rfl ⟨_, rfl, hs, h⟩
    · refine z_iconst dX12_mandate_49 ?_
      exact z_zret (b := false) rfl dX12_mandate_50 rfl rfl rfl ⟨_, rfl, hs, h⟩
