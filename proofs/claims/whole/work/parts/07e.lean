abbrev Y_M_cardsOf : Yt := (5, (some .int), yX12_cardsOf.name, { frames := 3, cells := 0, slots := 0, locals := 68 }, 175, 0, 0)
def l_M_cardsOf_63 (a1 : Int) (r2 : Int) (X_63_120 : Mem → Prop) : Nat → Int → Mem → Prop
  | 0, _, _ => False
  | fu63 + 1, v4, μ_8 => if w v4 < w (rI μ_8 15468 0) then (0 ≤ w v4 ∧ w v4 < ((48 : Nat) : Int) ∧ if w (rI μ_8 115 (w v4)) = w a1 then (∀ μ_9 : Mem, μ_9 = sI μ_8 151 (w 7) ((rI μ_8 151 (w 7)) + 1) → 0 ≤ w v4 ∧ w v4 < ((48 : Nat) : Int) ∧ ∀ μ_10 : Mem, μ_10 = sI μ_9 151 (w 8) ((rI μ_9 151 (w 8)) + (rI μ_9 116 (w v4))) → (l_M_cardsOf_63 a1 r2 X_63_120 fu63) (v4 + 1) μ_10) else ((l_M_cardsOf_63 a1 r2 X_63_120 fu63) (v4 + 1) μ_8)) else (X_63_120 μ_8)
def f_M_cardsOf (a1 : Int) (a2 : Int) (μ : Mem) (k : Int → Mem → Prop) : Prop := f_M_clause 3 μ (fun r2 μ_1 => if w r2 = w (-1) then (f_M_paidOf a1 a2 μ_1 (fun r14 μ_2 => k r14 μ_2)) else (f_M_paidOf a1 a2 μ_1 (fun r27 μ_3 => ∀ μ_4 : Mem, μ_4 = sI μ_3 151 (w 6) r27 → ∀ μ_5 : Mem, μ_5 = sI μ_4 151 (w 7) 0 → ∀ μ_6 : Mem, μ_6 = sI μ_5 151 (w 8) 0 → 0 ≤ w a1 ∧ w a1 < ((12 : Nat) : Int) ∧ ∀ μ_7 : Mem, μ_7 = sI μ_6 151 (w 9) (rI μ_6 114 (w a1)) → ∃ m63 : Nat, l_M_cardsOf_63 a1 r2 (fun (μ_11 : Mem) => f_M_works r2 μ_11 (fun r122 μ_12 => ∀ x138 : Int, x138 = (if 0 < w r122 then r122 else 0) → k x138 μ_12)) m63 0 μ_7)))
theorem L_M_cardsOf_63 {l : Launch} {Γ : Gam} {g : Nat} {a1 : Int} {r2 : Int} {X_63_120 : Mem → Prop} {k : Int → Mem → Prop} (hX_63_120 : ∀ (ν : Mem), StatR ν.2.2 → X_63_120 ν → SW l Γ yX12_cardsOf.cls cX12_cardsOf Y_M_cardsOf (pI k) g 175 0 0 ν 120 [(0, vr Γ 113), (3, vi r2)] []) (n9 : Nat) : ∀ (v4 : Int) (μ_8 : Mem), StatR μ_8.2.2 → l_M_cardsOf_63 a1 r2 X_63_120 n9 v4 μ_8 → SW l Γ yX12_cardsOf.cls cX12_cardsOf Y_M_cardsOf (pI k) g 175 0 0 μ_8 63 [(0, vr Γ 113), (1, vi a1), (3, vi r2), (4, vi v4)] [] := by
  induction n9 with
  | zero =>
    intro v4 μ_8 hs h
    exact h.elim
  | succ n9 hR_63 =>
    intro v4 μ_8 hs h
    rw [l_M_cardsOf_63] at h
    refine z_iload dX12_cardsOf_63 3 rfl ?_
    refine z_rload_n dX12_cardsOf_65 rfl 0 rfl ?_
    refine z_getI (q := 15468) ff_12_4 dX12_cardsOf_66 kt_113 (Nat.le_of_ble_eq_true rfl) fl_X12_223 rfl ?_
    refine z_icmp_ge (tgt := 120) dX12_cardsOf_69 (by decide) h (fun h => ?_) (fun h => ?_)
    · refine z_rload_n dX12_cardsOf_72 rfl 0 rfl ?_
      refine z_getR (q := 15469) ff_12_5 dX12_cardsOf_73 kt_113 (Nat.le_of_ble_eq_true rfl) fl_X12_17 rfl (hs.1 _ _ sr_15469) ?_
      refine z_iload dX12_cardsOf_76 3 rfl ?_
      obtain ⟨h0, h1, h⟩ := h
      refine z_iald dX12_cardsOf_78 kt_115 (Nat.le_of_ble_eq_true rfl) h0 h1 ?_
      refine z_iload_n dX12_cardsOf_79 rfl 1 rfl ?_
      refine z_icmp_eq (tgt := 86) dX12_cardsOf_80 (by decide) h (fun h => ?_) (fun h => ?_)
      · refine z_rload_n dX12_cardsOf_86 rfl 0 rfl ?_
        refine z_getR (q := 15522) ff_12_58 dX12_cardsOf_87 kt_113 (Nat.le_of_ble_eq_true rfl) fl_X12_139 rfl (hs.1 _ _ sr_15522) ?_
        refine z_bipush dX12_cardsOf_90 (by decide) ?_
        refine z_dup2 dX12_cardsOf_92 rfl rfl ?_
        refine z_iald dX12_cardsOf_93 kt_151 (Nat.le_of_ble_eq_true rfl) (by decide) (by decide) ?_
        refine z_iconst dX12_cardsOf_94 ?_
        refine z_iadd dX12_cardsOf_95 ?_
        refine z_iast dX12_cardsOf_96 kt_151 (Nat.le_of_ble_eq_true rfl) (by decide) (by decide) ?_
        refine z_mm (fun μ_9 eμ_9 => ?_)
        replace h := h μ_9 eμ_9
        replace hs : StatR μ_9.2.2 := by rw [eμ_9]; exact hs
        refine z_rload_n dX12_cardsOf_97 rfl 0 rfl ?_
        refine z_getR (q := 15522) ff_12_58 dX12_cardsOf_98 kt_113 (Nat.le_of_ble_eq_true rfl) fl_X12_139 rfl (hs.1 _ _ sr_15522) ?_
        refine z_bipush dX12_cardsOf_101 (by decide) ?_
        refine z_dup2 dX12_cardsOf_103 rfl rfl ?_
        refine z_iald dX12_cardsOf_104 kt_151 (Nat.le_of_ble_eq_true rfl) (by decide) (by decide) ?_
        refine z_rload_n dX12_cardsOf_105 rfl 0 rfl ?_
        refine z_getR (q := 15470) ff_12_6 dX12_cardsOf_106 kt_113 (Nat.le_of_ble_eq_true rfl) fl_X12_20 rfl (hs.1 _ _ sr_15470) ?_
        refine z_iload dX12_cardsOf_109 3 rfl ?_
        obtain ⟨h0, h1, h⟩ := h
        refine z_iald dX12_cardsOf_111 kt_116 (Nat.le_of_ble_eq_true rfl) h0 h1 ?_
        refine z_iadd dX12_cardsOf_112 ?_
        refine z_iast dX12_cardsOf_113 kt_151 (Nat.le_of_ble_eq_true rfl) (by decide) (by decide) ?_
        refine z_mm (fun μ_10 eμ_10 => ?_)
        replace h := h μ_10 eμ_10
        replace hs : StatR μ_10.2.2 := by rw [eμ_10]; exact hs
        refine z_iinc (j := 3) (lv' := [(4, vi (v4 + 1)), (0, vr Γ 113), (1, vi a1), (3, vi r2)]) dX12_cardsOf_114 rfl (Nat.le_of_ble_eq_true rfl) rfl ?_
        refine z_goto (tgt := 63) dX12_cardsOf_117 (by decide) ?_
        refine z_sub (lv' := [(0, vr Γ 113), (1, vi a1), (3, vi r2), (4, vi (v4 + 1))]) [1, 2, 3, 0] rfl ?_
        exact hR_63 (v4 + 1) μ_10 hs h
      · refine z_goto (tgt := 114) dX12_cardsOf_83 (by decide) ?_
        refine z_iinc (j := 3) (lv' := [(4, vi (v4 + 1)), (0, vr Γ 113), (1, vi a1), (3, vi r2)]) dX12_cardsOf_114 rfl (Nat.le_of_ble_eq_true rfl) rfl ?_
        refine z_goto (tgt := 63) dX12_cardsOf_117 (by decide) ?_
        refine z_sub (lv' := [(0, vr Γ 113), (1, vi a1), (3, vi r2), (4, vi (v4 + 1))]) [1, 2, 3, 0] rfl ?_
        exact hR_63 (v4 + 1) μ_8 hs h
    · refine z_sub (lv' := [(0, vr Γ 113), (3, vi r2)]) [0, 2] rfl ?_
      exact hX_63_120 μ_8 hs h
theorem i_M_cardsOf {l : Launch} {Γ : Gam} {g : Nat} {a1 : Int} {a2 : Int} {μ : Mem} {k : Int → Mem → Prop} (hs : StatR μ.2.2) (h : f_M_cardsOf a1 a2 μ k) : CT l Γ yX12_cardsOf cX12_cardsOf 5 (some .int) 3 68 0 0 [vr Γ 113, vi a1, vi a2] g 175 μ (pI k) := by
  refine SW.ct (by decide) (Nat.le_of_ble_eq_true rfl) ?_
  refine z_sub (lv' := [(0, vr Γ 113), (1, vi a1), (2, vi a2)]) [0, 1, 2] rfl ?_
  show SW l Γ yX12_cardsOf.cls cX12_cardsOf Y_M_cardsOf (pI k) g 175 0 0 μ 0 [(0, vr Γ 113), (1, vi a1), (2, vi a2)] []
  unfold f_M_cardsOf at h
  refine z_rload_n dX12_cardsOf_0 rfl 0 rfl ?_
  refine z_iconst dX12_cardsOf_1 ?_
  refine z_VI (i_M_clause  hs h) vk_X12_clause kt_113 (Nat.le_of_ble_eq_true rfl) rfl ml_X12_437 ⟨Nat.le_of_ble_eq_true rfl, Nat.le_of_ble_eq_true rfl⟩ ⟨Nat.zero_le _, Nat.zero_le _⟩ rfl rfl (Nat.le_of_ble_eq_true rfl) dX12_cardsOf_2 (fun r2 μ_1 hs h => ?_)
  refine z_istore_n (lv' := [(3, vi r2), (0, vr Γ 113), (1, vi a1), (2, vi a2)]) dX12_cardsOf_5 rfl (Nat.le_of_ble_eq_true rfl) rfl ?_
  refine z_iload_n dX12_cardsOf_6 rfl 0 rfl ?_
  refine z_iconst dX12_cardsOf_7 ?_
  refine z_icmp_ne (tgt := 18) dX12_cardsOf_8 (by decide) h (fun h => ?_) (fun h => ?_)
  · refine z_rload_n dX12_cardsOf_11 rfl 1 rfl ?_
    refine z_iload_n dX12_cardsOf_12 rfl 2 rfl ?_
    refine z_iload_n dX12_cardsOf_13 rfl 3 rfl ?_
    refine z_VI (i_M_paidOf  hs h) vk_X12_paidOf kt_113 (Nat.le_of_ble_eq_true rfl) rfl ml_X12_453 ⟨Nat.le_of_ble_eq_true rfl, Nat.le_of_ble_eq_true rfl⟩ ⟨Nat.zero_le _, Nat.zero_le _⟩ rfl rfl (Nat.le_of_ble_eq_true rfl) dX12_cardsOf_14 (fun r14 μ_2 hs h => ?_)
    exact z_iret rfl dX12_cardsOf_17 rfl rfl rfl ⟨_, rfl, hs, h⟩
  · refine z_rload_n dX12_cardsOf_18 rfl 1 rfl ?_
    refine z_getR (q := 15522) ff_12_58 dX12_cardsOf_19 kt_113 (Nat.le_of_ble_eq_true rfl) fl_X12_139 rfl (hs.1 _ _ sr_15522) ?_
    refine z_bipush dX12_cardsOf_22 (by decide) ?_
    refine z_rload_n dX12_cardsOf_24 rfl 1 rfl ?_
    refine z_iload_n dX12_cardsOf_25 rfl 2 rfl ?_
    refine z_iload_n dX12_cardsOf_26 rfl 3 rfl ?_
    refine z_VI (i_M_paidOf  hs h) vk_X12_paidOf kt_113 (Nat.le_of_ble_eq_true rfl) rfl ml_X12_453 ⟨Nat.le_of_ble_eq_true rfl, Nat.le_of_ble_eq_true rfl⟩ ⟨Nat.zero_le _, Nat.zero_le _⟩ rfl rfl (Nat.le_of_ble_eq_true rfl) dX12_cardsOf_27 (fun r27 μ_3 hs h => ?_)
    refine z_iast dX12_cardsOf_30 kt_151 (Nat.le_of_ble_eq_true rfl) (by decide) (by decide) ?_
    refine z_mm (fun μ_4 eμ_4 => ?_)
    replace h := h μ_4 eμ_4
    replace hs : StatR μ_4.2.2 := by rw [eμ_4]; exact hs
    refine z_rload_n dX12_cardsOf_31 rfl 1 rfl ?_
    refine z_getR (q := 15522) ff_12_58 dX12_cardsOf_32 kt_113 (Nat.le_of_ble_eq_true rfl) fl_X12_139 rfl (hs.1 _ _ sr_15522) ?_
    refine z_bipush dX12_cardsOf_35 (by decide) ?_
    refine z_iconst dX12_cardsOf_37 ?_
    refine z_iast dX12_cardsOf_38 kt_151 (Nat.le_of_ble_eq_true rfl) (by decide) (by decide) ?_
    refine z_mm (fun μ_5 eμ_5 => ?_)
    replace h := h μ_5 eμ_5
    replace hs : StatR μ_5.2.2 := by rw [eμ_5]; exact hs
    refine z_rload_n dX12_cardsOf_39 rfl 1 rfl ?_
    refine z_getR (q := 15522) ff_12_58 dX12_cardsOf_40 kt_113 (Nat.le_of_ble_eq_true rfl) fl_X12_139 rfl (hs.1 _ _ sr_15522) ?_
    refine z_bipush dX12_cardsOf_43 (by decide) ?_
    refine z_iconst dX12_cardsOf_45 ?_
    refine z_iast dX12_cardsOf_46 kt_151 (Nat.le_of_ble_eq_true rfl) (by decide) (by decide) ?_
    refine z_mm (fun μ_6 eμ_6 => ?_)
    replace h := h μ_6 eμ_6
    replace hs : StatR μ_6.2.2 := by rw [eμ_6]; exact hs
    refine z_rload_n dX12_cardsOf_47 rfl 1 rfl ?_
    refine z_getR (q := 15522) ff_12_58 dX12_cardsOf_48 kt_113 (Nat.le_of_ble_eq_true rfl) fl_X12_139 rfl (hs.1 _ _ sr_15522) ?_
    refine z_bipush dX12_cardsOf_51 (by decide) ?_
    refine z_rload_n dX12_cardsOf_53 rfl 1 rfl ?_
    refine z_getR (q := 15467) ff_12_3 dX12_cardsOf_54 kt_113 (Nat.le_of_ble_eq_true rfl) fl_X12_13 rfl (hs.1 _ _ sr_15467) ?_
    refine z_iload_n dX12_cardsOf_57 rfl 2 rfl ?_
    obtain ⟨h0, h1, h⟩ := h
    refine z_iald dX12_cardsOf_58 kt_114 (Nat.le_of_ble_eq_true rfl) h0 h1 ?_
    refine z_iast dX12_cardsOf_59 kt_151 (Nat.le_of_ble_eq_true rfl) (by decide) (by decide) ?_
    refine z_mm (fun μ_7 eμ_7 => ?_)
    replace h := h μ_7 eμ_7
    replace hs : StatR μ_7.2.2 := by rw [eμ_7]; exact hs
    refine z_iconst dX12_cardsOf_60 ?_
    refine z_istore (lv' := [(4, vi 0), (3, vi r2), (0, vr Γ 113), (1, vi a1), (2, vi a2)]) dX12_cardsOf_61 (Nat.le_of_ble_eq_true rfl) rfl ?_
    obtain ⟨m63, h⟩ := h
    refine z_sub (lv' := [(0, vr Γ 113), (1, vi a1), (3, vi r2), (4, vi 0)]) [2, 3, 1, 0] rfl ?_
    refine L_M_cardsOf_63 (fun μ_11 hs h => ?_) m63 0 μ_7 hs h
    refine z_rload_n dX12_cardsOf_120 rfl 0 rfl ?_
    refine z_iload_n dX12_cardsOf_121 rfl 1 rfl ?_
    refine z_VI (i_M_works  hs h) vk_X12_works kt_113 (Nat.le_of_ble_eq_true rfl) rfl ml_X12_457 ⟨Nat.le_of_ble_eq_true rfl, Nat.le_of_ble_eq_true rfl⟩ ⟨Nat.zero_le _, Nat.zero_le _⟩ rfl rfl (Nat.le_of_ble_eq_true rfl) dX12_cardsOf_122 (fun r122 μ_12 hs h => ?_)
    refine z_istore (lv' := [(4, vi r122), (0, vr Γ 113), (3, vi r2)]) dX12_cardsOf_125 (Nat.le_of_ble_eq_true rfl) rfl ?_
    refine z_iload dX12_cardsOf_127 0 rfl ?_
    refine z_phi 138 [] (fun V9 hv J9 => ?_) h (fun x138 h => ?_)
    · refine z_if_le (tgt := 137) dX12_cardsOf_129 (by decide) (eq_ite hv) (fun hv => ?_) (fun hv => ?_)
      · refine z_iload dX12_cardsOf_132 0 rfl ?_
        refine z_goto (tgt := 138) dX12_cardsOf_134 (by decide) ?_
        exact J9 _ hv.symm
      · refine z_iconst dX12_cardsOf_137 ?_
        exact J9 _ hv.symm
    · exact z_iret rfl dX12_cardsOf_138 rfl rfl rfl ⟨_, rfl, hs, h⟩
abbrev Y_M_paid : Yt := (3, (some .int), yX12_paid.name, { frames := 2, cells := 0, slots := 0, locals := 51 }, 175, 0, 0)
def f_M_paid (a1 : Int) (a2 : Int) (μ : Mem) (k : Int → Mem → Prop) : Prop := ∀ μ_1 : Mem, μ_1 = sI μ 15464 0 0 → if (v_M_isAffiliate a1 μ_1) = true then (if (v_M_isKnown a2 μ_1) = true then (f_M_paidOf a1 a2 μ_1 (fun r24 μ_2 => k r24 μ_2)) else (k (-1) μ_1)) else (k (-1) μ_1)
theorem i_M_paid {l : Launch} {Γ : Gam} {g : Nat} {a1 : Int} {a2 : Int} {μ : Mem} {k : Int → Mem → Prop} (hs : StatR μ.2.2) (h : f_M_paid a1 a2 μ k) : CT l Γ yX12_paid cX12_paid 3 (some .int) 2 51 0 0 [vr Γ 113, vi a1, vi a2] g 175 μ (pI k) := by
  refine SW.ct (by decide) (Nat.le_of_ble_eq_true rfl) ?_
  refine z_sub (lv' := [(0, vr Γ 113), (1, vi a1), (2, vi a2)]) [0, 1, 2] rfl ?_
  show SW l Γ yX12_paid.cls cX12_paid Y_M_paid (pI k) g 175 0 0 μ 0 [(0, vr Γ 113), (1, vi a1), (2, vi a2)] []
  unfold f_M_paid at h
  refine z_rload_n dX12_paid_0 rfl 0 rfl ?_
  refine z_iconst dX12_paid_1 ?_
  refine z_putI (q := 15464) ff_12_0 (Or.inl rfl) rfl dX12_paid_2 kt_113 (Nat.le_of_ble_eq_true rfl) fl_X12_1 rfl ?_
  refine z_mm (fun μ_1 eμ_1 => ?_)
  replace h := h μ_1 eμ_1
  replace hs : StatR μ_1.2.2 := by rw [eμ_1]; exact hs
  refine z_rload_n dX12_paid_5 rfl 0 rfl ?_
  refine z_iload_n dX12_paid_6 rfl 1 rfl ?_
  refine z_VE (i_M_isAffiliate ) vk_X12_isAffiliate kt_113 (Nat.le_of_ble_eq_true rfl) rfl ml_X12_219 ⟨Nat.le_of_ble_eq_true rfl, Nat.le_of_ble_eq_true rfl⟩ ⟨Nat.zero_le _, Nat.zero_le _⟩ rfl rfl (Nat.le_of_ble_eq_true rfl) dX12_paid_7 ?_
  refine z_ifeq_b (tgt := 30) dX12_paid_10 (by decide) h (fun h => ?_) (fun h => ?_)
  · refine z_rload_n dX12_paid_13 rfl 0 rfl ?_
    refine z_iload_n dX12_paid_14 rfl 2 rfl ?_
    refine z_VE (i_M_isKnown ) vk_X12_isKnown kt_113 (Nat.le_of_ble_eq_true rfl) rfl ml_X12_270 ⟨Nat.le_of_ble_eq_true rfl, Nat.le_of_ble_eq_true rfl⟩ ⟨Nat.zero_le _, Nat.zero_le _⟩ rfl rfl (Nat.le_of_ble_eq_true rfl) dX12_paid_15 ?_
    refine z_ifeq_b (tgt := 30) dX12_paid_18 (by decide) h (fun h => ?_) (fun h => ?_)
    · refine z_rload_n dX12_paid_21 rfl 0 rfl ?_
      refine z_iload_n dX12_paid_22 rfl 1 rfl ?_
      refine z_iload_n dX12_paid_23 rfl 2 rfl ?_
      refine z_VI (i_M_paidOf  hs h) vk_X12_paidOf kt_113 (Nat.le_of_ble_eq_true rfl) rfl ml_X12_453 ⟨Nat.le_of_ble_eq_true rfl, Nat.le_of_ble_eq_true rfl⟩ ⟨Nat.zero_le _, Nat.zero_le _⟩ rfl rfl (Nat.le_of_ble_eq_true rfl) dX12_paid_24 (fun r24 μ_2 hs h => ?_)
      refine z_goto (tgt := 31) dX12_paid_27 (by decide) ?_
      exact z_iret rfl dX12_paid_31 rfl rfl rfl ⟨_, rfl, hs, h⟩
    · refine z_iconst dX12_paid_30 ?_
      exact z_iret rfl dX12_paid_31 rfl rfl rfl ⟨_, rfl, hs, h⟩
  · refine z_iconst dX12_paid_30 ?_
    exact z_iret rfl dX12_paid_31 rfl rfl rfl ⟨_, rfl, hs, h⟩
abbrev Y_M_cards : Yt := (3, (some .int), yX12_cards.name, { frames := 4, cells := 0, slots := 0, locals := 92 }, 175, 0, 0)
def f_M_cards (a1 : Int) (a2 : Int) (μ : Mem) (k : Int → Mem → Prop) : Prop := ∀ μ_1 : Mem, μ_1 = sI μ 15464 0 0 → if (v_M_isAffiliate a1 μ_1) = true then (if (v_M_isKnown a2 μ_1) = true then (f_M_cardsOf a1 a2 μ_1 (fun r24 μ_2 => k r24 μ_2)) else (k (-1) μ_1)) else (k (-1) μ_1)
theorem i_M_cards {l : Launch} {Γ : Gam} {g : Nat} {a1 : Int} {a2 : Int} {μ : Mem} {k : Int → Mem → Prop} (hs : StatR μ.2.2) (h : f_M_cards a1 a2 μ k) : CT l Γ yX12_cards cX12_cards 3 (some .int) 4 92 0 0 [vr Γ 113, vi a1, vi a2] g 175 μ (pI k) := by
  refine SW.ct (by decide) (Nat.le_of_ble_eq_true rfl) ?_
  refine z_sub (lv' := [(0, vr Γ 113), (1, vi a1), (2, vi a2)]) [0, 1, 2] rfl ?_
  show SW l Γ yX12_cards.cls cX12_cards Y_M_cards (pI k) g 175 0 0 μ 0 [(0, vr Γ 113), (1, vi a1), (2, vi a2)] []
  unfold f_M_cards at h
  refine z_rload_n dX12_cards_0 rfl 0 rfl ?_
  refine z_iconst dX12_cards_1 ?_
  refine z_putI (q := 15464) ff_12_0 (Or.inl rfl) rfl dX12_cards_2 kt_113 (Nat.le_of_ble_eq_true rfl) fl_X12_1 rfl ?_
  refine z_mm (fun μ_1 eμ_1 => ?_)
  replace h := h μ_1 eμ_1
  replace hs : StatR μ_1.2.2 := by rw [eμ_1]; exact hs
  refine z_rload_n dX12_cards_5 rfl 0 rfl ?_
  refine z_iload_n dX12_cards_6 rfl 1 rfl ?_
  refine z_VE (i_M_isAffiliate ) vk_X12_isAffiliate kt_113 (Nat.le_of_ble_eq_true rfl) rfl ml_X12_219 ⟨Nat.le_of_ble_eq_true rfl, Nat.le_of_ble_eq_true rfl⟩ ⟨Nat.zero_le _, Nat.zero_le _⟩ rfl rfl (Nat.le_of_ble_eq_true rfl) dX12_cards_7 ?_
  refine z_ifeq_b (tgt := 30) dX12_cards_10 (by decide) h (fun h => ?_) (fun h => ?_)
  · refine z_rload_n dX12_cards_13 rfl 0 rfl ?_
    refine z_iload_n dX12_cards_14 rfl 2 rfl ?_
    refine z_VE (i_M_isKnown ) vk_X12_isKnown kt_113 (Nat.le_of_ble_eq_true rfl) rfl ml_X12_270 ⟨Nat.le_of_ble_eq_true rfl, Nat.le_of_ble_eq_true rfl⟩ ⟨Nat.zero_le _, Nat.zero_le _⟩ rfl rfl (Nat.le_of_ble_eq_true rfl) dX12_cards_15 ?_
    refine z_ifeq_b (tgt := 30) dX12_cards_18 (by decide) h (fun h => ?_) (fun h => ?_)
    · refine z_rload_n dX12_cards_21 rfl 0 rfl ?_
      refine z_iload_n dX12_cards_22 rfl 1 rfl ?_
      refine z_iload_n dX12_cards_23 rfl 2 rfl ?_
      refine z_VI (i_M_cardsOf  hs h) vk_X12_cardsOf kt_113 (Nat.le_of_ble_eq_true rfl) rfl ml_X12_460 ⟨Nat.le_of_ble_eq_true rfl, Nat.le_of_ble_eq_true rfl⟩ ⟨Nat.zero_le _, Nat.zero_le _⟩ rfl rfl (Nat.le_of_ble_eq_true rfl) dX12_cards_24 (fun r24 μ_2 hs h => ?_)
      refine z_goto (tgt := 31) dX12_cards_27 (by decide) ?_
      exact z_iret rfl dX12_cards_31 rfl rfl rfl ⟨_, rfl, hs, h⟩
    · refine z_iconst dX12_cards_30 ?_
      exact z_iret rfl dX12_cards_31 rfl rfl rfl ⟨_, rfl, hs, h⟩
  · refine z_iconst dX12_cards_30 ?_
    exact z_iret rfl dX12_cards_31 rfl rfl rfl ⟨_, rfl, hs, h⟩
abbrev Y_M_counts : Yt := (4, none, yX12_counts.name, { frames := 0, cells := 0, slots := 0, locals := 0 }, 175, 0, 0)
def f_M_counts (a1 : Int) (a2 : Int) (a3 : Int) (μ : Mem) (k : Mem → Prop) : Prop := ∀ μ_1 : Mem, μ_1 = sL μ 15527 0 ((rL μ 15527 0) + (w_i2l a3)) → if w a1 = w 1 then (∀ μ_2 : Mem, μ_2 = sL μ_1 15525 0 ((rL μ_1 15525 0) + (w_i2l a3)) → 0 ≤ w a2 ∧ w a2 < ((6 : Nat) : Int) ∧ 0 ≤ w a2 ∧ w a2 < ((6 : Nat) : Int) ∧ ∀ μ_3 : Mem, μ_3 = sL μ_2 154 (w a2) ((rL μ_2 154 (w a2)) + (w_i2l a3)) → k μ_3) else (if w a1 = 0 then (∀ μ_4 : Mem, μ_4 = sL μ_1 15526 0 ((rL μ_1 15526 0) + (w_i2l a3)) → 0 ≤ w a2 ∧ w a2 < ((6 : Nat) : Int) ∧ 0 ≤ w a2 ∧ w a2 < ((6 : Nat) : Int) ∧ ∀ μ_5 : Mem, μ_5 = sL μ_4 154 (w a2) ((rL μ_4 154 (w a2)) - (w_i2l a3)) → k μ_5) else (k μ_1))
theorem i_M_counts {l : Launch} {Γ : Gam} {g : Nat} {a1 : Int} {a2 : Int} {a3 : Int} {μ : Mem} {k : Mem → Prop} (hs : StatR μ.2.2) (h : f_M_counts a1 a2 a3 μ k) : CT l Γ yX12_counts cX12_counts 4 none 0 0 0 0 [vr Γ 113, vi a1, vi a2, vi a3] g 175 μ (pV k) := by
  refine SW.ct (by decide) (Nat.le_of_ble_eq_true rfl) ?_
  refine z_sub (lv' := [(0, vr Γ 113), (1, vi a1), (2, vi a2), (3, vi a3)]) [0, 1, 2, 3] rfl ?_
  show SW l Γ yX12_counts.cls cX12_counts Y_M_counts (pV k) g 175 0 0 μ 0 [(0, vr Γ 113), (1, vi a1), (2, vi a2), (3, vi a3)] []
  unfold f_M_counts at h
  refine z_rload_n dX12_counts_0 rfl 0 rfl ?_
  refine z_dup dX12_counts_1 rfl ?_
  refine z_getJ (q := 15527) ff_12_63 dX12_counts_2 kt_113 (Nat.le_of_ble_eq_true rfl) fl_X12_463 rfl ?_
  refine z_iload_n dX12_counts_5 rfl 3 rfl ?_
  refine z_i2l dX12_counts_6 ?_
  refine z_ladd dX12_counts_7 ?_
  refine z_putJ (q := 15527) ff_12_63 (Or.inl rfl) rfl dX12_counts_8 kt_113 (Nat.le_of_ble_eq_true rfl) fl_X12_463 rfl ?_
  refine z_mm (fun μ_1 eμ_1 => ?_)
  replace h := h μ_1 eμ_1
  replace hs : StatR μ_1.2.2 := by rw [eμ_1]; exact hs
  refine z_iload_n dX12_counts_11 rfl 1 rfl ?_
  refine z_iconst dX12_counts_12 ?_
  refine z_icmp_ne (tgt := 41) dX12_counts_13 (by decide) h (fun h => ?_) (fun h => ?_)
  · refine z_rload_n dX12_counts_16 rfl 0 rfl ?_
    refine z_dup dX12_counts_17 rfl ?_
    refine z_getJ (q := 15525) ff_12_61 dX12_counts_18 kt_113 (Nat.le_of_ble_eq_true rfl) fl_X12_466 rfl ?_
    refine z_iload_n dX12_counts_21 rfl 3 rfl ?_
    refine z_i2l dX12_counts_22 ?_
    refine z_ladd dX12_counts_23 ?_
    refine z_putJ (q := 15525) ff_12_61 (Or.inl rfl) rfl dX12_counts_24 kt_113 (Nat.le_of_ble_eq_true rfl) fl_X12_466 rfl ?_
    refine z_mm (fun μ_2 eμ_2 => ?_)
    replace h := h μ_2 eμ_2
    replace hs : StatR μ_2.2.2 := by rw [eμ_2]; exact hs
    refine z_rload_n dX12_counts_27 rfl 0 rfl ?_
    refine z_getR (q := 15528) ff_12_64 dX12_counts_28 kt_113 (Nat.le_of_ble_eq_true rfl) fl_X12_148 rfl (hs.1 _ _ sr_15528) ?_
    refine z_iload_n dX12_counts_31 rfl 2 rfl ?_
    refine z_dup2 dX12_counts_32 rfl rfl ?_
    obtain ⟨h0, h1, h⟩ := h
    refine z_lald dX12_counts_33 kt_154 (Nat.le_of_ble_eq_true rfl) h0 h1 ?_
    refine z_iload_n dX12_counts_34 rfl 3 rfl ?_
    refine z_i2l dX12_counts_35 ?_
    refine z_ladd dX12_counts_36 ?_
    obtain ⟨h0, h1, h⟩ := h
    refine z_last dX12_counts_37 kt_154 (Nat.le_of_ble_eq_true rfl) h0 h1 ?_
    refine z_mm (fun μ_3 eμ_3 => ?_)
    replace h := h μ_3 eμ_3
    replace hs : StatR μ_3.2.2 := by rw [eμ_3]; exact hs
    refine z_goto (tgt := 67) dX12_counts_38 (by decide) ?_
    exact z_vret rfl dX12_counts_67 rfl rfl rfl ⟨rfl, hs, h⟩
  · refine z_iload_n dX12_counts_41 rfl 1 rfl ?_
    refine z_if_ne (tgt := 67) dX12_counts_42 (by decide) h (fun h => ?_) (fun h => ?_)
    · refine z_rload_n dX12_counts_45 rfl 0 rfl ?_
      refine z_dup dX12_counts_46 rfl ?_
      refine z_getJ (q := 15526) ff_12_62 dX12_counts_47 kt_113 (Nat.le_of_ble_eq_true rfl) fl_X12_468 rfl ?_
      refine z_iload_n dX12_counts_50 rfl 3 rfl ?_
      refine z_i2l dX12_counts_51 ?_
      refine z_ladd dX12_counts_52 ?_
      refine z_putJ (q := 15526) ff_12_62 (Or.inl rfl) rfl dX12_counts_53 kt_113 (Nat.le_of_ble_eq_true rfl) fl_X12_468 rfl ?_
      refine z_mm (fun μ_4 eμ_4 => ?_)
      replace h := h μ_4 eμ_4
      replace hs : StatR μ_4.2.2 := by rw [eμ_4]; exact hs
      refine z_rload_n dX12_counts_56 rfl 0 rfl ?_
      refine z_getR (q := 15528) ff_12_64 dX12_counts_57 kt_113 (Nat.le_of_ble_eq_true rfl) fl_X12_148 rfl (hs.1 _ _ sr_15528) ?_
      refine z_iload_n dX12_counts_60 rfl 2 rfl ?_
      refine z_dup2 dX12_counts_61 rfl rfl ?_
      obtain ⟨h0, h1, h⟩ := h
      refine z_lald dX12_counts_62 kt_154 (Nat.le_of_ble_eq_true rfl) h0 h1 ?_
      refine z_iload_n dX12_counts_63 rfl 3 rfl ?_
      refine z_i2l dX12_counts_64 ?_
      refine z_lsub dX12_counts_65 ?_
      obtain ⟨h0, h1, h⟩ := h
      refine z_last dX12_counts_66 kt_154 (Nat.le_of_ble_eq_true rfl) h0 h1 ?_
      refine z_mm (fun μ_5 eμ_5 => ?_)
      replace h := h μ_5 eμ_5
      replace hs : StatR μ_5.2.2 := by rw [eμ_5]; exact hs
      exact z_vret rfl dX12_counts_67 rfl rfl rfl ⟨rfl, hs, h⟩
    · exact z_vret rfl dX12_counts_67 rfl rfl rfl ⟨rfl, hs, h⟩
def v_M_whole (a1 : Int64) : Int := v_M_bounded a1
theorem i_M_whole {l : Launch} {Γ : Gam} {g : Nat} {μ : Mem} {a1 : Int64} : CT l Γ yX12_whole cX12_whole 2 (some .int) 1 21 0 0 [vl a1] g 175 μ (pE (vi (v_M_whole a1)) μ) := by
  refine SW.ct (by decide) (Nat.le_of_ble_eq_true rfl) ?_
  refine z_sub (lv' := [(0, vl a1)]) [0] rfl ?_
  have hv : v_M_whole a1 = v_M_whole a1 := rfl
  refine z_lload_n dX12_whole_0 rfl 0 rfl ?_
  refine z_SE (i_M_bounded ) sk_X12_bounded ml_X12_446 ⟨Nat.le_of_ble_eq_true rfl, Nat.le_of_ble_eq_true rfl⟩ ⟨Nat.zero_le _, Nat.zero_le _⟩ rfl rfl (Nat.le_of_ble_eq_true rfl) dX12_whole_1 ?_
  exact z_iret rfl dX12_whole_4 rfl rfl rfl ⟨by first | (rw [hv]; done) | rfl, rfl⟩
abbrev Y_M_findCount : Yt := (9, none, yX12_findCount.name, { frames := 4, cells := 0, slots := 0, locals := 92 }, 175, 0, 0)
def l_M_findCount_23 (a1 : Int) (a2 : Int) (a3 : Int) (a4 : Int) (a5 : Bool) (X_23_44 : Mem → Prop) : Nat → Int → Mem → Prop
  | 0, _, _ => False
  | fu23 + 1, v6, μ_5 => if w v6 < w 6 then (0 ≤ w v6 ∧ w v6 < ((6 : Nat) : Int) ∧ ∀ μ_6 : Mem, μ_6 = sL μ_5 154 (w v6) 0 → (l_M_findCount_23 a1 a2 a3 a4 a5 X_23_44 fu23) (v6 + 1) μ_6) else (X_23_44 μ_5)
def b_M_findCount_103 (R_47 : Int → Mem → Prop) (v1_1 : Int) (v2_1 : Int) (v3_1 : Int) (v4_1 : Int) (v5_1 : Bool) (v6_3 : Int) (v7_2 : Int) (μ_12 : Mem) : Prop := if w v3_1 = 0 then (f_M_cardsOf v6_3 v2_1 μ_12 (fun r111 μ_13 => 0 ≤ w v6_3 ∧ w v6_3 < ((12 : Nat) : Int) ∧ f_M_counts v7_2 (rI μ_13 114 (w v6_3)) r111 μ_13 (fun μ_14 => R_47 (v6_3 + 1) μ_14))) else (if w v3_1 = w 1 then (f_M_paidOf v6_3 v2_1 μ_12 (fun r126 μ_15 => 0 ≤ w v6_3 ∧ w v6_3 < ((12 : Nat) : Int) ∧ f_M_counts v7_2 (rI μ_15 114 (w v6_3)) r126 μ_15 (fun μ_16 => R_47 (v6_3 + 1) μ_16))) else (0 ≤ w v6_3 ∧ w v6_3 < ((12 : Nat) : Int) ∧ f_M_counts v7_2 (rI μ_12 114 (w v6_3)) 1 μ_12 (fun μ_17 => R_47 (v6_3 + 1) μ_17)))
def b_M_findCount_84 (R_47 : Int → Mem → Prop) (v1 : Int) (v2 : Int) (v3 : Int) (v4 : Int) (v5 : Bool) (v6_2 : Int) (v7_1 : Int) (μ_10 : Mem) : Prop := if v5 = true then (0 ≤ w v6_2 ∧ w v6_2 < ((12 : Nat) : Int) ∧ if (rB μ_10 153 (w v6_2)) = true then (0 ≤ w v6_2 ∧ w v6_2 < ((12 : Nat) : Int) ∧ f_M_counts v7_1 (rI μ_10 114 (w v6_2)) 0 μ_10 (fun μ_11 => R_47 (v6_2 + 1) μ_11)) else (b_M_findCount_103 R_47 v1 v2 v3 v4 v5 v6_2 v7_1 μ_10)) else (b_M_findCount_103 R_47 v1 v2 v3 v4 v5 v6_2 v7_1 μ_10)
def l_M_findCount_47 (a1 : Int) (a2 : Int) (a3 : Int) (a4 : Int) (a5 : Bool) (X_47_156 : Mem → Prop) : Nat → Int → Mem → Prop
  | 0, _, _ => False
  | fu47 + 1, v6_1, μ_8 => if w v6_1 < w (rI μ_8 15466 0) then (if w a3 = w 3 then (X_47_156 μ_8) else (f_M_voiceOf v6_1 a1 a2 μ_8 (fun r66 μ_9 => if w v6_1 = w a4 then (∀ v7 : Int, v7 = 1 - r66 → b_M_findCount_84 (l_M_findCount_47 a1 a2 a3 a4 a5 X_47_156 fu47) a1 a2 a3 a4 a5 v6_1 v7 μ_9) else (b_M_findCount_84 (l_M_findCount_47 a1 a2 a3 a4 a5 X_47_156 fu47) a1 a2 a3 a4 a5 v6_1 r66 μ_9)))) else (X_47_156 μ_8)
def l_M_findCount_159 (a1 : Int) (a2 : Int) (a3 : Int) (X_159_206 : Mem → Prop) : Nat → Int → Mem → Prop
  | 0, _, _ => False
  | fu159 + 1, v6_4, μ_19 => if w v6_4 < w (rI μ_19 15468 0) then (if w a3 = w 3 then (f_M_toldBy 2 v6_4 a1 a2 2 μ_19 (fun r181 μ_20 => 0 ≤ w v6_4 ∧ w v6_4 < ((48 : Nat) : Int) ∧ 0 ≤ w (rI μ_20 115 (w v6_4)) ∧ w (rI μ_20 115 (w v6_4)) < ((12 : Nat) : Int) ∧ f_M_counts r181 (rI μ_20 114 (w (rI μ_20 115 (w v6_4)))) 1 μ_20 (fun μ_21 => (l_M_findCount_159 a1 a2 a3 X_159_206 fu159) (v6_4 + 1) μ_21))) else (X_159_206 μ_19)) else (X_159_206 μ_19)
def l_M_findCount_209 (X_209_244 : Mem → Prop) : Nat → Int → Mem → Prop
  | 0, _, _ => False
  | fu209 + 1, v6_5, μ_23 => if w v6_5 < w 6 then (0 ≤ w v6_5 ∧ w v6_5 < ((6 : Nat) : Int) ∧ if 0 < (rL μ_23 154 (w v6_5)) then (∀ μ_24 : Mem, μ_24 = sI μ_23 15529 0 ((rI μ_23 15529 0) + 1) → (l_M_findCount_209 X_209_244 fu209) (v6_5 + 1) μ_24) else ((l_M_findCount_209 X_209_244 fu209) (v6_5 + 1) μ_23)) else (X_209_244 μ_23)
def f_M_findCount (a1 : Int) (a2 : Int) (a3 : Int) (a4 : Int) (a5 : Bool) (μ : Mem) (k : Mem → Prop) : Prop := ∀ μ_1 : Mem, μ_1 = sL μ 15525 0 0 → ∀ μ_2 : Mem, μ_2 = sL μ_1 15526 0 0 → ∀ μ_3 : Mem, μ_3 = sL μ_2 15527 0 0 → ∀ μ_4 : Mem, μ_4 = sI μ_3 15529 0 0 → ∃ m23 : Nat, l_M_findCount_23 a1 a2 a3 a4 a5 (fun (μ_7 : Mem) => ∃ m47 : Nat, l_M_findCount_47 a1 a2 a3 a4 a5 (fun (μ_18 : Mem) => ∃ m159 : Nat, l_M_findCount_159 a1 a2 a3 (fun (μ_22 : Mem) => ∃ m209 : Nat, l_M_findCount_209 (fun (μ_25 : Mem) => ∀ μ_26 : Mem, μ_26 = sL μ_25 15525 0 (w_i2l (v_M_whole (rL μ_25 15525 0))) → ∀ μ_27 : Mem, μ_27 = sL μ_26 15526 0 (w_i2l (v_M_whole (rL μ_26 15526 0))) → ∀ μ_28 : Mem, μ_28 = sL μ_27 15527 0 (w_i2l (v_M_whole (rL μ_27 15527 0))) → k μ_28) m209 0 μ_22) m159 0 μ_18) m47 0 μ_7) m23 0 μ_4
theorem L_M_findCount_23 {l : Launch} {Γ : Gam} {g : Nat} {a1 : Int} {a2 : Int} {a3 : Int} {a4 : Int} {a5 : Bool} {X_23_44 : Mem → Prop} {k : Mem → Prop} (hX_23_44 : ∀ (ν : Mem), StatR ν.2.2 → X_23_44 ν → SW l Γ yX12_findCount.cls cX12_findCount Y_M_findCount (pV k) g 175 0 0 ν 44 [(0, vr Γ 113), (1, vi a1), (2, vi a2), (3, vi a3), (4, vi a4), (5, vi (b2i a5))] []) (n9 : Nat) : ∀ (v6 : Int) (μ_5 : Mem), StatR μ_5.2.2 → l_M_findCount_23 a1 a2 a3 a4 a5 X_23_44 n9 v6 μ_5 → SW l Γ yX12_findCount.cls cX12_findCount Y_M_findCount (pV k) g 175 0 0 μ_5 23 [(0, vr Γ 113), (1, vi a1), (2, vi a2), (3, vi a3), (4, vi a4), (5, vi (b2i a5)), (6, vi v6)] [] := by
  induction n9 with
  | zero =>
    intro v6 μ_5 hs h
    exact h.elim
  | succ n9 hR_23 =>
    intro v6 μ_5 hs h
    rw [l_M_findCount_23] at h
    refine z_iload dX12_findCount_23 6 rfl ?_
    refine z_bipush dX12_findCount_25 (by decide) ?_
    refine z_icmp_ge (tgt := 44) dX12_findCount_27 (by decide) h (fun h => ?_) (fun h => ?_)
    · refine z_rload_n dX12_findCount_30 rfl 0 rfl ?_
      refine z_getR (q := 15528) ff_12_64 dX12_findCount_31 kt_113 (Nat.le_of_ble_eq_true rfl) fl_X12_148 rfl (hs.1 _ _ sr_15528) ?_
      refine z_iload dX12_findCount_34 6 rfl ?_
      refine z_lconst (v := 0) dX12_findCount_36 rfl ?_
      obtain ⟨h0, h1, h⟩ := h
      refine z_last dX12_findCount_37 kt_154 (Nat.le_of_ble_eq_true rfl) h0 h1 ?_
      refine z_mm (fun μ_6 eμ_6 => ?_)
      replace h := h μ_6 eμ_6
      replace hs : StatR μ_6.2.2 := by rw [eμ_6]; exact hs
      refine z_iinc (j := 6) (lv' := [(6, vi (v6 + 1)), (0, vr Γ 113), (1, vi a1), (2, vi a2), (3, vi a3), (4, vi a4), (5, vi (b2i a5))]) dX12_findCount_38 rfl (Nat.le_of_ble_eq_true rfl) rfl ?_
      refine z_goto (tgt := 23) dX12_findCount_41 (by decide) ?_
      refine z_sub (lv' := [(0, vr Γ 113), (1, vi a1), (2, vi a2), (3, vi a3), (4, vi a4), (5, vi (b2i a5)), (6, vi (v6 + 1))]) [1, 2, 3, 4, 5, 6, 0] rfl ?_
      exact hR_23 (v6 + 1) μ_6 hs h
    · refine z_sub (lv' := [(0, vr Γ 113), (1, vi a1), (2, vi a2), (3, vi a3), (4, vi a4), (5, vi (b2i a5))]) [0, 1, 2, 3, 4, 5] rfl ?_
      exact hX_23_44 μ_5 hs h
theorem B_M_findCount_103 {l : Launch} {Γ : Gam} {g : Nat} {R_47 : Int → Mem → Prop} {k : Mem → Prop} {v1_1 : Int} {v2_1 : Int} {v3_1 : Int} {v4_1 : Int} {v5_1 : Bool} {v6_3 : Int} {v7_2 : Int} {μ_12 : Mem} (hR_47 : ∀ (u6 : Int) (ν : Mem), StatR ν.2.2 → R_47 u6 ν → SW l Γ yX12_findCount.cls cX12_findCount Y_M_findCount (pV k) g 175 0 0 ν 47 [(0, vr Γ 113), (1, vi v1_1), (2, vi v2_1), (3, vi v3_1), (4, vi v4_1), (5, vi (b2i v5_1)), (6, vi u6)] []) (hs : StatR μ_12.2.2) (h : b_M_findCount_103 R_47 v1_1 v2_1 v3_1 v4_1 v5_1 v6_3 v7_2 μ_12) : SW l Γ yX12_findCount.cls cX12_findCount Y_M_findCount (pV k) g 175 0 0 μ_12 103 [(0, vr Γ 113), (1, vi v1_1), (2, vi v2_1), (3, vi v3_1), (4, vi v4_1), (5, vi (b2i v5_1)), (6, vi v6_3), (7, vi v7_2)] [] := by
  unfold b_M_findCount_103 at h
  refine z_iload_n dX12_findCount_103 rfl 3 rfl ?_
  refine z_if_ne (tgt := 117) dX12_findCount_104 (by decide) h (fun h => ?_) (fun h => ?_)
  · refine z_rload_n dX12_findCount_107 rfl 0 rfl ?_
    refine z_iload dX12_findCount_108 6 rfl ?_
    refine z_iload_n dX12_findCount_110 rfl 2 rfl ?_
    refine z_VI (i_M_cardsOf  hs h) vk_X12_cardsOf kt_113 (Nat.le_of_ble_eq_true rfl) rfl ml_X12_460 ⟨Nat.le_of_ble_eq_true rfl, Nat.le_of_ble_eq_true rfl⟩ ⟨Nat.zero_le _, Nat.zero_le _⟩ rfl rfl (Nat.le_of_ble_eq_true rfl) dX12_findCount_111 (fun r111 μ_13 hs h => ?_)
    refine z_goto (tgt := 133) dX12_findCount_114 (by decide) ?_
    refine z_istore (lv' := [(8, vi r111), (0, vr Γ 113), (1, vi v1_1), (2, vi v2_1), (3, vi v3_1), (4, vi v4_1), (5, vi (b2i v5_1)), (6, vi v6_3), (7, vi v7_2)]) dX12_findCount_133 (Nat.le_of_ble_eq_true rfl) rfl ?_
    refine z_rload_n dX12_findCount_135 rfl 1 rfl ?_
    refine z_iload dX12_findCount_136 8 rfl ?_
    refine z_rload_n dX12_findCount_138 rfl 1 rfl ?_
    refine z_getR (q := 15467) ff_12_3 dX12_findCount_139 kt_113 (Nat.le_of_ble_eq_true rfl) fl_X12_13 rfl (hs.1 _ _ sr_15467) ?_
    refine z_iload dX12_findCount_142 7 rfl ?_
    obtain ⟨h0, h1, h⟩ := h
    refine z_iald dX12_findCount_144 kt_114 (Nat.le_of_ble_eq_true rfl) h0 h1 ?_
    refine z_iload dX12_findCount_145 0 rfl ?_
    refine z_VU (i_M_counts  hs h) vk_X12_counts kt_113 (Nat.le_of_ble_eq_true rfl) rfl ml_X12_472 ⟨Nat.le_of_ble_eq_true rfl, Nat.le_of_ble_eq_true rfl⟩ ⟨Nat.zero_le _, Nat.zero_le _⟩ rfl rfl (Nat.le_of_ble_eq_true rfl) dX12_findCount_147 (fun μ_14 hs h => ?_)
    refine z_iinc (j := 7) (lv' := [(6, vi (v6_3 + 1)), (8, vi r111), (0, vr Γ 113), (1, vi v1_1), (2, vi v2_1), (3, vi v3_1), (4, vi v4_1), (5, vi (b2i v5_1)), (7, vi v7_2)]) dX12_findCount_150 rfl (Nat.le_of_ble_eq_true rfl) rfl ?_
    refine z_goto (tgt := 47) dX12_findCount_153 (by decide) ?_
    refine z_sub (lv' := [(0, vr Γ 113), (1, vi v1_1), (2, vi v2_1), (3, vi v3_1), (4, vi v4_1), (5, vi (b2i v5_1)), (6, vi (v6_3 + 1))]) [2, 3, 4, 5, 6, 7, 0] rfl ?_
    exact hR_47 (v6_3 + 1) μ_14 hs h
  · refine z_iload_n dX12_findCount_117 rfl 3 rfl ?_
    refine z_iconst dX12_findCount_118 ?_
    refine z_icmp_ne (tgt := 132) dX12_findCount_119 (by decide) h (fun h => ?_) (fun h => ?_)
    · refine z_rload_n dX12_findCount_122 rfl 0 rfl ?_
      refine z_iload dX12_findCount_123 6 rfl ?_
      refine z_iload_n dX12_findCount_125 rfl 2 rfl ?_
      refine z_VI (i_M_paidOf  hs h) vk_X12_paidOf kt_113 (Nat.le_of_ble_eq_true rfl) rfl ml_X12_453 ⟨Nat.le_of_ble_eq_true rfl, Nat.le_of_ble_eq_true rfl⟩ ⟨Nat.zero_le _, Nat.zero_le _⟩ rfl rfl (Nat.le_of_ble_eq_true rfl) dX12_findCount_126 (fun r126 μ_15 hs h => ?_)
      refine z_goto (tgt := 133) dX12_findCount_129 (by decide) ?_
      refine z_istore (lv' := [(8, vi r126), (0, vr Γ 113), (1, vi v1_1), (2, vi v2_1), (3, vi v3_1), (4, vi v4_1), (5, vi (b2i v5_1)), (6, vi v6_3), (7, vi v7_2)]) dX12_findCount_133 (Nat.le_of_ble_eq_true rfl) rfl ?_
      refine z_rload_n dX12_findCount_135 rfl 1 rfl ?_
      refine z_iload dX12_findCount_136 8 rfl ?_
      refine z_rload_n dX12_findCount_138 rfl 1 rfl ?_
      refine z_getR (q := 15467) ff_12_3 dX12_findCount_139 kt_113 (Nat.le_of_ble_eq_true rfl) fl_X12_13 rfl (hs.1 _ _ sr_15467) ?_
      refine z_iload dX12_findCount_142 7 rfl ?_
      obtain ⟨h0, h1, h⟩ := h
      refine z_iald dX12_findCount_144 kt_114 (Nat.le_of_ble_eq_true rfl) h0 h1 ?_
      refine z_iload dX12_findCount_145 0 rfl ?_
      refine z_VU (i_M_counts  hs h) vk_X12_counts kt_113 (Nat.le_of_ble_eq_true rfl) rfl ml_X12_472 ⟨Nat.le_of_ble_eq_true rfl, Nat.le_of_ble_eq_true rfl⟩ ⟨Nat.zero_le _, Nat.zero_le _⟩ rfl rfl (Nat.le_of_ble_eq_true rfl) dX12_findCount_147 (fun μ_16 hs h => ?_)
      refine z_iinc (j := 7) (lv' := [(6, vi (v6_3 + 1)), (8, vi r126), (0, vr Γ 113), (1, vi v1_1), (2, vi v2_1), (3, vi v3_1), (4, vi v4_1), (5, vi (b2i v5_1)), (7, vi v7_2)]) dX12_findCount_150 rfl (Nat.le_of_ble_eq_true rfl) rfl ?_
      refine z_goto (tgt := 47) dX12_findCount_153 (by decide) ?_
      refine z_sub (lv' := [(0, vr Γ 113), (1, vi v1_1), (2, vi v2_1), (3, vi v3_1), (4, vi v4_1), (5, vi (b2i v5_1)), (6, vi (v6_3 + 1))]) [2, 3, 4, 5, 6, 7, 0] rfl ?_
      exact hR_47 (v6_3 + 1) μ_16 hs h
    · refine z_iconst dX12_findCount_132 ?_
      refine z_istore (lv' := [(8, vi 1), (0, vr Γ 113), (1, vi v1_1), (2, vi v2_1), (3, vi v3_1), (4, vi v4_1), (5, vi (b2i v5_1)), (6, vi v6_3), (7, vi v7_2)]) dX12_findCount_133 (Nat.le_of_ble_eq_true rfl) rfl ?_
      refine z_rload_n dX12_findCount_135 rfl 1 rfl ?_
      refine z_iload dX12_findCount_136 8 rfl ?_
      refine z_rload_n dX12_findCount_138 rfl 1 rfl ?_
      refine z_getR (q := 15467) ff_12_3 dX12_findCount_139 kt_113 (Nat.le_of_ble_eq_true rfl) fl_X12_13 rfl (hs.1 _ _ sr_15467) ?_
      refine z_iload dX12_findCount_142 7 rfl ?_
      obtain ⟨h0, h1, h⟩ := h
      refine z_iald dX12_findCount_144 kt_114 (Nat.le_of_ble_eq_true rfl) h0 h1 ?_
      refine z_iload dX12_findCount_145 0 rfl ?_
      refine z_VU (i_M_counts  hs h) vk_X12_counts kt_113 (Nat.le_of_ble_eq_true rfl) rfl ml_X12_472 ⟨Nat.le_of_ble_eq_true rfl, Nat.le_of_ble_eq_true rfl⟩ ⟨Nat.zero_le _, Nat.zero_le _⟩ rfl rfl (Nat.le_of_ble_eq_true rfl) dX12_findCount_147 (fun μ_17 hs h => ?_)
      refine z_iinc (j := 7) (lv' := [(6, vi (v6_3 + 1)), (8, vi 1), (0, vr Γ 113), (1, vi v1_1), (2, vi v2_1), (3, vi v3_1), (4, vi v4_1), (5, vi (b2i v5_1)), (7, vi v7_2)]) dX12_findCount_150 rfl (Nat.le_of_ble_eq_true rfl) rfl ?_
      refine z_goto (tgt := 47) dX12_findCount_153 (by decide) ?_
      refine z_sub (lv' := [(0, vr Γ 113), (1, vi v1_1), (2, vi v2_1), (3, vi v3_1), (4, vi v4_1), (5, vi (b2i v5_1)), (6, vi (v6_3 + 1))]) [2, 3, 4, 5, 6, 7, 0] rfl ?_
      exact hR_47 (v6_3 + 1) μ_17 hs h
theorem B_M_findCount_84 {l : Launch} {Γ : Gam} {g : Nat} {R_47 : Int → Mem → Prop} {k : Mem → Prop} {v1 : Int} {v2 : Int} {v3 : Int} {v4 : Int} {v5 : Bool} {v6_2 : Int} {v7_1 : Int} {μ_10 : Mem} (hR_47 : ∀ (u6 : Int) (ν : Mem), StatR ν.2.2 → R_47 u6 ν → SW l Γ yX12_findCount.cls cX12_findCount Y_M_findCount (pV k) g 175 0 0 ν 47 [(0, vr Γ 113), (1, vi v1), (2, vi v2), (3, vi v3), (4, vi v4), (5, vi (b2i v5)), (6, vi u6)] []) (hs : StatR μ_10.2.2) (h : b_M_findCount_84 R_47 v1 v2 v3 v4 v5 v6_2 v7_1 μ_10) : SW l Γ yX12_findCount.cls cX12_findCount Y_M_findCount (pV k) g 175 0 0 μ_10 84 [(0, vr Γ 113), (1, vi v1), (2, vi v2), (3, vi v3), (4, vi v4), (5, vi (b2i v5)), (6, vi v6_2), (7, vi v7_1)] [] := by
  unfold b_M_findCount_84 at h
  refine z_iload dX12_findCount_84 5 rfl ?_
  refine z_ifeq_b (tgt := 103) dX12_findCount_86 (by decide) h (fun h => ?_) (fun h => ?_)
  · refine z_rload_n dX12_findCount_89 rfl 0 rfl ?_
    refine z_getR (q := 15524) ff_12_60 dX12_findCount_90 kt_113 (Nat.le_of_ble_eq_true rfl) fl_X12_145 rfl (hs.1 _ _ sr_15524) ?_
    refine z_iload dX12_findCount_93 6 rfl ?_
    obtain ⟨h0, h1, h⟩ := h
    refine z_zald dX12_findCount_95 kt_153 (Nat.le_of_ble_eq_true rfl) h0 h1 ?_
    refine z_ifeq_b (tgt := 103) dX12_findCount_96 (by decide) h (fun h => ?_) (fun h => ?_)
    · refine z_iconst dX12_findCount_99 ?_
      refine z_goto (tgt := 133) dX12_findCount_100 (by decide) ?_
      refine z_istore (lv' := [(8, vi 0), (0, vr Γ 113), (1, vi v1), (2, vi v2), (3, vi v3), (4, vi v4), (5, vi (b2i v5)), (6, vi v6_2), (7, vi v7_1)]) dX12_findCount_133 (Nat.le_of_ble_eq_true rfl) rfl ?_
      refine z_rload_n dX12_findCount_135 rfl 1 rfl ?_
      refine z_iload dX12_findCount_136 8 rfl ?_
      refine z_rload_n dX12_findCount_138 rfl 1 rfl ?_
      refine z_getR (q := 15467) ff_12_3 dX12_findCount_139 kt_113 (Nat.le_of_ble_eq_true rfl) fl_X12_13 rfl (hs.1 _ _ sr_15467) ?_
      refine z_iload dX12_findCount_142 7 rfl ?_
      obtain ⟨h0, h1, h⟩ := h
      refine z_iald dX12_findCount_144 kt_114 (Nat.le_of_ble_eq_true rfl) h0 h1 ?_
      refine z_iload dX12_findCount_145 0 rfl ?_
      refine z_VU (i_M_counts  hs h) vk_X12_counts kt_113 (Nat.le_of_ble_eq_true rfl) rfl ml_X12_472 ⟨Nat.le_of_ble_eq_true rfl, Nat.le_of_ble_eq_true rfl⟩ ⟨Nat.zero_le _, Nat.zero_le _⟩ rfl rfl (Nat.le_of_ble_eq_true rfl) dX12_findCount_147 (fun μ_11 hs h => ?_)
      refine z_iinc (j := 7) (lv' := [(6, vi (v6_2 + 1)), (8, vi 0), (0, vr Γ 113), (1, vi v1), (2, vi v2), (3, vi v3), (4, vi v4), (5, vi (b2i v5)), (7, vi v7_1)]) dX12_findCount_150 rfl (Nat.le_of_ble_eq_true rfl) rfl ?_
      refine z_goto (tgt := 47) dX12_findCount_153 (by decide) ?_
      refine z_sub (lv' := [(0, vr Γ 113), (1, vi v1), (2, vi v2), (3, vi v3), (4, vi v4), (5, vi (b2i v5)), (6, vi (v6_2 + 1))]) [2, 3, 4, 5, 6, 7, 0] rfl ?_
      exact hR_47 (v6_2 + 1) μ_11 hs h
    · refine z_sub (lv' := [(0, vr Γ 113), (1, vi v1), (2, vi v2), (3, vi v3), (4, vi v4), (5, vi (b2i v5)), (6, vi v6_2), (7, vi v7_1)]) [0, 1, 2, 3, 4, 5, 6, 7] rfl ?_
      exact B_M_findCount_103 hR_47 hs h
  · refine z_sub (lv' := [(0, vr Γ 113), (1, vi v1), (2, vi v2), (3, vi v3), (4, vi v4), (5, vi (b2i v5)), (6, vi v6_2), (7, vi v7_1)]) [0, 1, 2, 3, 4, 5, 6, 7] rfl ?_
    exact B_M_findCount_103 hR_47 hs h
theorem L_M_findCount_47 {l : Launch} {Γ : Gam} {g : Nat} {a1 : Int} {a2 : Int} {a3 : Int} {a4 : Int} {a5 : Bool} {X_47_156 : Mem → Prop} {k : Mem → Prop} (hX_47_156 : ∀ (ν : Mem), StatR ν.2.2 → X_47_156 ν → SW l Γ yX12_findCount.cls cX12_findCount Y_M_findCount (pV k) g 175 0 0 ν 156 [(0, vr Γ 113), (1, vi a1), (2, vi a2), (3, vi a3)] []) (n9 : Nat) : ∀ (v6_1 : Int) (μ_8 : Mem), StatR μ_8.2.2 → l_M_findCount_47 a1 a2 a3 a4 a5 X_47_156 n9 v6_1 μ_8 → SW l Γ yX12_findCount.cls cX12_findCount Y_M_findCount (pV k) g 175 0 0 μ_8 47 [(0, vr Γ 113), (1, vi a1), (2, vi a2), (3, vi a3), (4, vi a4), (5, vi (b2i a5)), (6, vi v6_1)] [] := by
  induction n9 with
  | zero =>
    intro v6_1 μ_8 hs h
    exact h.elim
  | succ n9 hR_47 =>
    intro v6_1 μ_8 hs h
    rw [l_M_findCount_47] at h
    refine z_iload dX12_findCount_47 6 rfl ?_
    refine z_rload_n dX12_findCount_49 rfl 0 rfl ?_
    refine z_getI (q := 15466) ff_12_2 dX12_findCount_50 kt_113 (Nat.le_of_ble_eq_true rfl) fl_X12_209 rfl ?_
    refine z_icmp_ge (tgt := 156) dX12_findCount_53 (by decide) h (fun h => ?_) (fun h => ?_)
    · refine z_iload_n dX12_findCount_56 rfl 3 rfl ?_
      refine z_iconst dX12_findCount_57 ?_
      refine z_icmp_eq (tgt := 156) dX12_findCount_58 (by decide) h (fun h => ?_) (fun h => ?_)
      · refine z_sub (lv' := [(0, vr Γ 113), (1, vi a1), (2, vi a2), (3, vi a3)]) [0, 1, 2, 3] rfl ?_
        exact hX_47_156 μ_8 hs h
      · refine z_rload_n dX12_findCount_61 rfl 0 rfl ?_
        refine z_iload dX12_findCount_62 6 rfl ?_
        refine z_iload_n dX12_findCount_64 rfl 1 rfl ?_
        refine z_iload_n dX12_findCount_65 rfl 2 rfl ?_
        refine z_VI (i_M_voiceOf  hs h) vk_X12_voiceOf kt_113 (Nat.le_of_ble_eq_true rfl) rfl ml_X12_273 ⟨Nat.le_of_ble_eq_true rfl, Nat.le_of_ble_eq_true rfl⟩ ⟨Nat.zero_le _, Nat.zero_le _⟩ rfl rfl (Nat.le_of_ble_eq_true rfl) dX12_findCount_66 (fun r66 μ_9 hs h => ?_)
        refine z_istore (lv' := [(7, vi r66), (0, vr Γ 113), (1, vi a1), (2, vi a2), (3, vi a3), (4, vi a4), (5, vi (b2i a5)), (6, vi v6_1)]) dX12_findCount_69 (Nat.le_of_ble_eq_true rfl) rfl ?_
        refine z_iload dX12_findCount_71 7 rfl ?_
        refine z_iload dX12_findCount_73 5 rfl ?_
        refine z_icmp_ne (tgt := 84) dX12_findCount_75 (by decide) h (fun h => ?_) (fun h => ?_)
        · refine z_iconst dX12_findCount_78 ?_
          refine z_iload dX12_findCount_79 0 rfl ?_
          refine z_isub dX12_findCount_81 ?_
          refine z_nm (fun v7 ev7 => ?_)
          replace h := h v7 ev7
          refine z_istore (lv' := [(7, vi v7), (0, vr Γ 113), (1, vi a1), (2, vi a2), (3, vi a3), (4, vi a4), (5, vi (b2i a5)), (6, vi v6_1)]) dX12_findCount_82 (Nat.le_of_ble_eq_true rfl) rfl ?_
          refine z_sub (lv' := [(0, vr Γ 113), (1, vi a1), (2, vi a2), (3, vi a3), (4, vi a4), (5, vi (b2i a5)), (6, vi v6_1), (7, vi v7)]) [1, 2, 3, 4, 5, 6, 7, 0] rfl ?_
          exact B_M_findCount_84 hR_47 hs h
        · refine z_sub (lv' := [(0, vr Γ 113), (1, vi a1), (2, vi a2), (3, vi a3), (4, vi a4), (5, vi (b2i a5)), (6, vi v6_1), (7, vi r66)]) [1, 2, 3, 4, 5, 6, 7, 0] rfl ?_
          exact B_M_findCount_84 hR_47 hs h
    · refine z_sub (lv' := [(0, vr Γ 113), (1, vi a1), (2, vi a2), (3, vi a3)]) [0, 1, 2, 3] rfl ?_
      exact hX_47_156 μ_8 hs h
theorem L_M_findCount_159 {l : Launch} {Γ : Gam} {g : Nat} {a1 : Int} {a2 : Int} {a3 : Int} {X_159_206 : Mem → Prop} {k : Mem → Prop} (hX_159_206 : ∀ (ν : Mem), StatR ν.2.2 → X_159_206 ν → SW l Γ yX12_findCount.cls cX12_findCount Y_M_findCount (pV k) g 175 0 0 ν 206 [(0, vr Γ 113)] []) (n9 : Nat) : ∀ (v6_4 : Int) (μ_19 : Mem), StatR μ_19.2.2 → l_M_findCount_159 a1 a2 a3 X_159_206 n9 v6_4 μ_19 → SW l Γ yX12_findCount.cls cX12_findCount Y_M_findCount (pV k) g 175 0 0 μ_19 159 [(0, vr Γ 113), (1, vi a1), (2, vi a2), (3, vi a3), (6, vi v6_4)] [] := by
  induction n9 with
  | zero =>
    intro v6_4 μ_19 hs h
    exact h.elim
  | succ n9 hR_159 =>
    intro v6_4 μ_19 hs h
    rw [l_M_findCount_159] at h
    refine z_iload dX12_findCount_159 4 rfl ?_
    refine z_rload_n dX12_findCount_161 rfl 0 rfl ?_
    refine z_getI (q := 15468) ff_12_4 dX12_findCount_162 kt_113 (Nat.le_of_ble_eq_true rfl) fl_X12_223 rfl ?_
    refine z_icmp_ge (tgt := 206) dX12_findCount_165 (by decide) h (fun h => ?_) (fun h => ?_)
    · refine z_iload_n dX12_findCount_168 rfl 3 rfl ?_
      refine z_iconst dX12_findCount_169 ?_
      refine z_icmp_ne (tgt := 206) dX12_findCount_170 (by decide) h (fun h => ?_) (fun h => ?_)
      · refine z_rload_n dX12_findCount_173 rfl 0 rfl ?_
        refine z_rload_n dX12_findCount_174 rfl 0 rfl ?_
        refine z_iconst dX12_findCount_175 ?_
        refine z_iload dX12_findCount_176 4 rfl ?_
        refine z_iload_n dX12_findCount_178 rfl 1 rfl ?_
        refine z_iload_n dX12_findCount_179 rfl 2 rfl ?_
        refine z_iconst dX12_findCount_180 ?_
        refine z_VI (i_M_toldBy  hs h) vk_X12_toldBy kt_113 (Nat.le_of_ble_eq_true rfl) rfl ml_X12_258 ⟨Nat.le_of_ble_eq_true rfl, Nat.le_of_ble_eq_true rfl⟩ ⟨Nat.zero_le _, Nat.zero_le _⟩ rfl rfl (Nat.le_of_ble_eq_true rfl) dX12_findCount_181 (fun r181 μ_20 hs h => ?_)
        refine z_rload_n dX12_findCount_184 rfl 0 rfl ?_
        refine z_getR (q := 15467) ff_12_3 dX12_findCount_185 kt_113 (Nat.le_of_ble_eq_true rfl) fl_X12_13 rfl (hs.1 _ _ sr_15467) ?_
        refine z_rload_n dX12_findCount_188 rfl 0 rfl ?_
        refine z_getR (q := 15469) ff_12_5 dX12_findCount_189 kt_113 (Nat.le_of_ble_eq_true rfl) fl_X12_17 rfl (hs.1 _ _ sr_15469) ?_
        refine z_iload dX12_findCount_192 4 rfl ?_
        obtain ⟨h0, h1, h⟩ := h
        refine z_iald dX12_findCount_194 kt_115 (Nat.le_of_ble_eq_true rfl) h0 h1 ?_
        obtain ⟨h0, h1, h⟩ := h
        refine z_iald dX12_findCount_195 kt_114 (Nat.le_of_ble_eq_true rfl) h0 h1 ?_
        refine z_iconst dX12_findCount_196 ?_
        refine z_VU (i_M_counts  hs h) vk_X12_counts kt_113 (Nat.le_of_ble_eq_true rfl) rfl ml_X12_472 ⟨Nat.le_of_ble_eq_true rfl, Nat.le_of_ble_eq_true rfl⟩ ⟨Nat.zero_le _, Nat.zero_le _⟩ rfl rfl (Nat.le_of_ble_eq_true rfl) dX12_findCount_197 (fun μ_21 hs h => ?_)
        refine z_iinc (j := 4) (lv' := [(6, vi (v6_4 + 1)), (0, vr Γ 113), (1, vi a1), (2, vi a2), (3, vi a3)]) dX12_findCount_200 rfl (Nat.le_of_ble_eq_true rfl) rfl ?_
        refine z_goto (tgt := 159) dX12_findCount_203 (by decide) ?_
        refine z_sub (lv' := [(0, vr Γ 113), (1, vi a1), (2, vi a2), (3, vi a3), (6, vi (v6_4 + 1))]) [1, 2, 3, 4, 0] rfl ?_
        exact hR_159 (v6_4 + 1) μ_21 hs h
      · refine z_sub (lv' := [(0, vr Γ 113)]) [0] rfl ?_
        exact hX_159_206 μ_19 hs h
    · refine z_sub (lv' := [(0, vr Γ 113)]) [0] rfl ?_
      exact hX_159_206 μ_19 hs h
theorem L_M_findCount_209 {l : Launch} {Γ : Gam} {g : Nat} {X_209_244 : Mem → Prop} {k : Mem → Prop} (hX_209_244 : ∀ (ν : Mem), StatR ν.2.2 → X_209_244 ν → SW l Γ yX12_findCount.cls cX12_findCount Y_M_findCount (pV k) g 175 0 0 ν 244 [(0, vr Γ 113)] []) (n9 : Nat) : ∀ (v6_5 : Int) (μ_23 : Mem), StatR μ_23.2.2 → l_M_findCount_209 X_209_244 n9 v6_5 μ_23 → SW l Γ yX12_findCount.cls cX12_findCount Y_M_findCount (pV k) g 175 0 0 μ_23 209 [(0, vr Γ 113), (6, vi v6_5)] [] := by
  induction n9 with
  | zero =>
    intro v6_5 μ_23 hs h
    exact h.elim
  | succ n9 hR_209 =>
    intro v6_5 μ_23 hs h
    rw [l_M_findCount_209] at h
    refine z_iload dX12_findCount_209 1 rfl ?_
    refine z_bipush dX12_findCount_211 (by decide) ?_
    refine z_icmp_ge (tgt := 244) dX12_findCount_213 (by decide) h (fun h => ?_) (fun h => ?_)
    · refine z_rload_n dX12_findCount_216 rfl 0 rfl ?_
      refine z_getR (q := 15528) ff_12_64 dX12_findCount_217 kt_113 (Nat.le_of_ble_eq_true rfl) fl_X12_148 rfl (hs.1 _ _ sr_15528) ?_
      refine z_iload dX12_findCount_220 1 rfl ?_
      obtain ⟨h0, h1, h⟩ := h
      refine z_lald dX12_findCount_222 kt_154 (Nat.le_of_ble_eq_true rfl) h0 h1 ?_
      refine z_lconst (v := 0) dX12_findCount_223 rfl ?_
      refine z_lcmp_le (tgt := 238) dX12_findCount_224 dX12_findCount_225 (by decide) h (fun h => ?_) (fun h => ?_)
      · refine z_rload_n dX12_findCount_228 rfl 0 rfl ?_
        refine z_dup dX12_findCount_229 rfl ?_
        refine z_getI (q := 15529) ff_12_65 dX12_findCount_230 kt_113 (Nat.le_of_ble_eq_true rfl) fl_X12_470 rfl ?_
        refine z_iconst dX12_findCount_233 ?_
        refine z_iadd dX12_findCount_234 ?_
        refine z_putI (q := 15529) ff_12_65 (Or.inl rfl) rfl dX12_findCount_235 kt_113 (Nat.le_of_ble_eq_true rfl) fl_X12_470 rfl ?_
        refine z_mm (fun μ_24 eμ_24 => ?_)
        replace h := h μ_24 eμ_24
        replace hs : StatR μ_24.2.2 := by rw [eμ_24]; exact hs
        refine z_iinc (j := 1) (lv' := [(6, vi (v6_5 + 1)), (0, vr Γ 113)]) dX12_findCount_238 rfl (Nat.le_of_ble_eq_true rfl) rfl ?_
        refine z_goto (tgt := 209) dX12_findCount_241 (by decide) ?_
        refine z_sub (lv' := [(0, vr Γ 113), (6, vi (v6_5 + 1))]) [1, 0] rfl ?_
        exact hR_209 (v6_5 + 1) μ_24 hs h
      · refine z_iinc (j := 1) (lv' := [(6, vi (v6_5 + 1)), (0, vr Γ 113)]) dX12_findCount_238 rfl (Nat.le_of_ble_eq_true rfl) rfl ?_
        refine z_goto (tgt := 209) dX12_findCount_241 (by decide) ?_
        refine z_sub (lv' := [(0, vr Γ 113), (6, vi (v6_5 + 1))]) [1, 0] rfl ?_
        exact hR_209 (v6_5 + 1) μ_23 hs h
    · refine z_sub (lv' := [(0, vr Γ 113)]) [0] rfl ?_
      exact hX_209_244 μ_23 hs h
theorem i_M_findCount {l : Launch} {Γ : Gam} {g : Nat} {a1 : Int} {a2 : Int} {a3 : Int} {a4 : Int} {a5 : Bool} {μ : Mem} {k : Mem → Prop} (hs : StatR μ.2.2) (h : f_M_findCount a1 a2 a3 a4 a5 μ k) : CT l Γ yX12_findCount cX12_findCount 9 none 4 92 0 0 [vr Γ 113, vi a1, vi a2, vi a3, vi a4, vi (b2i a5)] g 175 μ (pV k) := by
  refine SW.ct (by decide) (Nat.le_of_ble_eq_true rfl) ?_
  refine z_sub (lv' := [(0, vr Γ 113), (1, vi a1), (2, vi a2), (3, vi a3), (4, vi a4), (5, vi (b2i a5))]) [0, 1, 2, 3, 4, 5] rfl ?_
  show SW l Γ yX12_findCount.cls cX12_findCount Y_M_findCount (pV k) g 175 0 0 μ 0 [(0, vr Γ 113), (1, vi a1), (2, vi a2), (3, vi a3), (4, vi a4), (5, vi (b2i a5))] []
  unfold f_M_findCount at h
  refine z_rload_n dX12_findCount_0 rfl 0 rfl ?_
  refine z_lconst (v := 0) dX12_findCount_1 rfl ?_
  refine z_putJ (q := 15525) ff_12_61 (Or.inl rfl) rfl dX12_findCount_2 kt_113 (Nat.le_of_ble_eq_true rfl) fl_X12_466 rfl ?_
  refine z_mm (fun μ_1 eμ_1 => ?_)
  replace h := h μ_1 eμ_1
  replace hs : StatR μ_1.2.2 := by rw [eμ_1]; exact hs
  refine z_rload_n dX12_findCount_5 rfl 0 rfl ?_
  refine z_lconst (v := 0) dX12_findCount_6 rfl ?_
  refine z_putJ (q := 15526) ff_12_62 (Or.inl rfl) rfl dX12_findCount_7 kt_113 (Nat.le_of_ble_eq_true rfl) fl_X12_468 rfl ?_
  refine z_mm (fun μ_2 eμ_2 => ?_)
  replace h := h μ_2 eμ_2
  replace hs : StatR μ_2.2.2 := by rw [eμ_2]; exact hs
  refine z_rload_n dX12_findCount_10 rfl 0 rfl ?_
  refine z_lconst (v := 0) dX12_findCount_11 rfl ?_
  refine z_putJ (q := 15527) ff_12_63 (Or.inl rfl) rfl dX12_findCount_12 kt_113 (Nat.le_of_ble_eq_true rfl) fl_X12_463 rfl ?_
  refine z_mm (fun μ_3 eμ_3 => ?_)
  replace h := h μ_3 eμ_3
  replace hs : StatR μ_3.2.2 := by rw [eμ_3]; exact hs
  refine z_rload_n dX12_findCount_15 rfl 0 rfl ?_
  refine z_iconst dX12_findCount_16 ?_
  refine z_putI (q := 15529) ff_12_65 (Or.inl rfl) rfl dX12_findCount_17 kt_113 (Nat.le_of_ble_eq_true rfl) fl_X12_470 rfl ?_
  refine z_mm (fun μ_4 eμ_4 => ?_)
  replace h := h μ_4 eμ_4
  replace hs : StatR μ_4.2.2 := by rw [eμ_4]; exact hs
  refine z_iconst dX12_findCount_20 ?_
  refine z_istore (lv' := [(6, vi 0), (0, vr Γ 113), (1, vi a1), (2, vi a2), (3, vi a3), (4, vi a4), (5, vi (b2i a5))]) dX12_findCount_21 (Nat.le_of_ble_eq_true rfl) rfl ?_
  obtain ⟨m23, h⟩ := h
  refine z_sub (lv' := [(0, vr Γ 113), (1, vi a1), (2, vi a2), (3, vi a3), (4, vi a4), (5, vi (b2i a5)), (6, vi 0)]) [1, 2, 3, 4, 5, 6, 0] rfl ?_
  refine L_M_findCount_23 (fun μ_7 hs h => ?_) m23 0 μ_4 hs h
  refine z_iconst dX12_findCount_44 ?_
  refine z_istore (lv' := [(6, vi 0), (0, vr Γ 113), (1, vi a1), (2, vi a2), (3, vi a3), (4, vi a4), (5, vi (b2i a5))]) dX12_findCount_45 (Nat.le_of_ble_eq_true rfl) rfl ?_
  obtain ⟨m47, h⟩ := h
  refine z_sub (lv' := [(0, vr Γ 113), (1, vi a1), (2, vi a2), (3, vi a3), (4, vi a4), (5, vi (b2i a5)), (6, vi 0)]) [1, 2, 3, 4, 5, 6, 0] rfl ?_
  refine L_M_findCount_47 (fun μ_18 hs h => ?_) m47 0 μ_7 hs h
  refine z_iconst dX12_findCount_156 ?_
  refine z_istore (lv' := [(6, vi 0), (0, vr Γ 113), (1, vi a1), (2, vi a2), (3, vi a3)]) dX12_findCount_157 (Nat.le_of_ble_eq_true rfl) rfl ?_
  obtain ⟨m159, h⟩ := h
  refine z_sub (lv' := [(0, vr Γ 113), (1, vi a1), (2, vi a2), (3, vi a3), (6, vi 0)]) [1, 2, 3, 4, 0] rfl ?_
  refine L_M_findCount_159 (fun μ_22 hs h => ?_) m159 0 μ_18 hs h
  refine z_iconst dX12_findCount_206 ?_
  refine z_istore (lv' := [(6, vi 0), (0, vr Γ 113)]) dX12_findCount_207 (Nat.le_of_ble_eq_true rfl) rfl ?_
  obtain ⟨m209, h⟩ := h
  refine z_sub (lv' := [(0, vr Γ 113), (6, vi 0)]) [1, 0] rfl ?_
  refine L_M_findCount_209 (fun μ_25 hs h => ?_) m209 0 μ_22 hs h
  refine z_rload_n dX12_findCount_244 rfl 0 rfl ?_
  refine z_rload_n dX12_findCount_245 rfl 0 rfl ?_
  refine z_getJ (q := 15525) ff_12_61 dX12_findCount_246 kt_113 (Nat.le_of_ble_eq_true rfl) fl_X12_466 rfl ?_
  refine z_SE (i_M_whole ) sk_X12_whole ml_X12_476 ⟨Nat.le_of_ble_eq_true rfl, Nat.le_of_ble_eq_true rfl⟩ ⟨Nat.zero_le _, Nat.zero_le _⟩ rfl rfl (Nat.le_of_ble_eq_true rfl) dX12_findCount_249 ?_
  refine z_i2l dX12_findCount_252 ?_
  refine z_putJ (q := 15525) ff_12_61 (Or.inl rfl) rfl dX12_findCount_253 kt_113 (Nat.le_of_ble_eq_true rfl) fl_X12_466 rfl ?_
  refine z_mm (fun μ_26 eμ_26 => ?_)
  replace h := h μ_26 eμ_26
  replace hs : StatR μ_26.2.2 := by rw [eμ_26]; exact hs
  refine z_rload_n dX12_findCount_256 rfl 0 rfl ?_
  refine z_rload_n dX12_findCount_257 rfl 0 rfl ?_
  refine z_getJ (q := 15526) ff_12_62 dX12_findCount_258 kt_113 (Nat.le_of_ble_eq_true rfl) fl_X12_468 rfl ?_
  refine z_SE (i_M_whole ) sk_X12_whole ml_X12_476 ⟨Nat.le_of_ble_eq_true rfl, Nat.le_of_ble_eq_true rfl⟩ ⟨Nat.zero_le _, Nat.zero_le _⟩ rfl rfl (Nat.le_of_ble_eq_true rfl) dX12_findCount_261 ?_
  refine z_i2l dX12_findCount_264 ?_
  refine z_putJ (q := 15526) ff_12_62 (Or.inl rfl) rfl dX12_findCount_265 kt_113 (Nat.le_of_ble_eq_true rfl) fl_X12_468 rfl ?_
  refine z_mm (fun μ_27 eμ_27 => ?_)
  replace h := h μ_27 eμ_27
  replace hs : StatR μ_27.2.2 := by rw [eμ_27]; exact hs
  refine z_rload_n dX12_findCount_268 rfl 0 rfl ?_
  refine z_rload_n dX12_findCount_269 rfl 0 rfl ?_
  refine z_getJ (q := 15527) ff_12_63 dX12_findCount_270 kt_113 (Nat.le_of_ble_eq_true rfl) fl_X12_463 rfl ?_
  refine z_SE (i_M_whole ) sk_X12_whole ml_X12_476 ⟨Nat.le_of_ble_eq_true rfl, Nat.le_of_ble_eq_true rfl⟩ ⟨Nat.zero_le _, Nat.zero_le _⟩ rfl rfl (Nat.le_of_ble_eq_true rfl) dX12_findCount_273 ?_
  refine z_i2l dX12_findCount_276 ?_
  refine z_putJ (q := 15527) ff_12_63 (Or.inl rfl) rfl dX12_findCount_277 kt_113 (Nat.le_of_ble_eq_true rfl) fl_X12_463 rfl ?_
  refine z_mm (fun μ_28 eμ_28 => ?_)
  replace h := h μ_28 eμ_28
  replace hs : StatR μ_28.2.2 := by rw [eμ_28]; exact hs
  exact z_vret rfl dX12_findCount_280 rfl rfl rfl ⟨rfl, hs, h⟩
abbrev Y_M_counted : Yt := (4, (some .int), yX12_counted.name, { frames := 5, cells := 0, slots := 0, locals := 120 }, 175, 0, 0)
def f_M_counted (a1 : Int) (a2 : Int) (a3 : Int) (μ : Mem) (k : Int → Mem → Prop) : Prop := ∀ μ_1 : Mem, μ_1 = sI μ 15464 0 0 → if (v_M_isMatter a1 μ_1) = true then (if (v_M_isKnown a2 μ_1) = true then (if (v_M_within a3 0 3) = true then (f_M_findCount a1 a2 0 (-1) false μ_1 (fun μ_2 => ∀ x83 : Int, x83 = (if w a3 = 0 then (w_l2i (rL μ_2 15525 0)) else (if w a3 = w 1 then (w_l2i (rL μ_2 15526 0)) else (if w a3 = w 2 then (w_l2i (rL μ_2 15527 0)) else (rI μ_2 15529 0)))) → k x83 μ_2)) else (k (-1) μ_1)) else (k (-1) μ_1)) else (k (-1) μ_1)
theorem i_M_counted {l : Launch} {Γ : Gam} {g : Nat} {a1 : Int} {a2 : Int} {a3 : Int} {μ : Mem} {k : Int → Mem → Prop} (hs : StatR μ.2.2) (h : f_M_counted a1 a2 a3 μ k) : CT l Γ yX12_counted cX12_counted 4 (some .int) 5 120 0 0 [vr Γ 113, vi a1, vi a2, vi a3] g 175 μ (pI k) := by
  refine SW.ct (by decide) (Nat.le_of_ble_eq_true rfl) ?_
  refine z_sub (lv' := [(0, vr Γ 113), (1, vi a1), (2, vi a2), (3, vi a3)]) [0, 1, 2, 3] rfl ?_
  show SW l Γ yX12_counted.cls cX12_counted Y_M_counted (pI k) g 175 0 0 μ 0 [(0, vr Γ 113), (1, vi a1), (2, vi a2), (3, vi a3)] []
  unfold f_M_counted at h
  refine z_rload_n dX12_counted_0 rfl 0 rfl ?_
  refine z_iconst dX12_counted_1 ?_
  refine z_putI (q := 15464) ff_12_0 (Or.inl rfl) rfl dX12_counted_2 kt_113 (Nat.le_of_ble_eq_true rfl) fl_X12_1 rfl ?_
  refine z_mm (fun μ_1 eμ_1 => ?_)
  replace h := h μ_1 eμ_1
  replace hs : StatR μ_1.2.2 := by rw [eμ_1]; exact hs
  refine z_rload_n dX12_counted_5 rfl 0 rfl ?_
  refine z_iload_n dX12_counted_6 rfl 1 rfl ?_
  refine z_VE (i_M_isMatter ) vk_X12_isMatter kt_113 (Nat.le_of_ble_eq_true rfl) rfl ml_X12_243 ⟨Nat.le_of_ble_eq_true rfl, Nat.le_of_ble_eq_true rfl⟩ ⟨Nat.zero_le _, Nat.zero_le _⟩ rfl rfl (Nat.le_of_ble_eq_true rfl) dX12_counted_7 ?_
  refine z_ifeq_b (tgt := 30) dX12_counted_10 (by decide) h (fun h => ?_) (fun h => ?_)
  · refine z_rload_n dX12_counted_13 rfl 0 rfl ?_
    refine z_iload_n dX12_counted_14 rfl 2 rfl ?_
    refine z_VE (i_M_isKnown ) vk_X12_isKnown kt_113 (Nat.le_of_ble_eq_true rfl) rfl ml_X12_270 ⟨Nat.le_of_ble_eq_true rfl, Nat.le_of_ble_eq_true rfl⟩ ⟨Nat.zero_le _, Nat.zero_le _⟩ rfl rfl (Nat.le_of_ble_eq_true rfl) dX12_counted_15 ?_
    refine z_ifeq_b (tgt := 30) dX12_counted_18 (by decide) h (fun h => ?_) (fun h => ?_)
    · refine z_iload_n dX12_counted_21 rfl 3 rfl ?_
      refine z_iconst dX12_counted_22 ?_
      refine z_iconst dX12_counted_23 ?_
      refine z_SE (i_M_within ) sk_X12_within ml_X12_215 ⟨Nat.le_of_ble_eq_true rfl, Nat.le_of_ble_eq_true rfl⟩ ⟨Nat.zero_le _, Nat.zero_le _⟩ rfl rfl (Nat.le_of_ble_eq_true rfl) dX12_counted_24 ?_
      refine z_ifne_b (tgt := 32) dX12_counted_27 (by decide) h (fun h => ?_) (fun h => ?_)
      · refine z_rload_n dX12_counted_32 rfl 0 rfl ?_
        refine z_iload_n dX12_counted_33 rfl 1 rfl ?_
        refine z_iload_n dX12_counted_34 rfl 2 rfl ?_
        refine z_iconst dX12_counted_35 ?_
        refine z_iconst dX12_counted_36 ?_
        refine z_iconst dX12_counted_37 ?_
        refine z_VU (i_M_findCount  hs h) vk_X12_findCount kt_113 (Nat.le_of_ble_eq_true rfl) rfl ml_X12_479 ⟨Nat.le_of_ble_eq_true rfl, Nat.le_of_ble_eq_true rfl⟩ ⟨Nat.zero_le _, Nat.zero_le _⟩ rfl rfl (Nat.le_of_ble_eq_true rfl) dX12_counted_38 (fun μ_2 hs h => ?_)
        refine z_iload_n dX12_counted_41 rfl 3 rfl ?_
        refine z_phi 83 [] (fun V9 hv J9 => ?_) h (fun x83 h => ?_)
        · refine z_if_ne (tgt := 53) dX12_counted_42 (by decide) (eq_ite hv) (fun hv => ?_) (fun hv => ?_)
          · refine z_rload_n dX12_counted_45 rfl 0 rfl ?_
            refine z_getJ (q := 15525) ff_12_61 dX12_counted_46 kt_113 (Nat.le_of_ble_eq_true rfl) fl_X12_466 rfl ?_
            refine z_l2i dX12_counted_49 ?_
            refine z_goto (tgt := 83) dX12_counted_50 (by decide) ?_
            exact J9 _ hv.symm
          · refine z_iload_n dX12_counted_53 rfl 3 rfl ?_
            refine z_iconst dX12_counted_54 ?_
            refine z_icmp_ne (tgt := 66) dX12_counted_55 (by decide) (eq_ite hv) (fun hv => ?_) (fun hv => ?_)
            · refine z_rload_n dX12_counted_58 rfl 0 rfl ?_
              refine z_getJ (q := 15526) ff_12_62 dX12_counted_59 kt_113 (Nat.le_of_ble_eq_true rfl) fl_X12_468 rfl ?_
              refine z_l2i dX12_counted_62 ?_
              refine z_goto (tgt := 83) dX12_counted_63 (by decide) ?_
              exact J9 _ hv.symm
            · refine z_iload_n dX12_counted_66 rfl 3 rfl ?_
              refine z_iconst dX12_counted_67 ?_
              refine z_icmp_ne (tgt := 79) dX12_counted_68 (by decide) (eq_ite hv) (fun hv => ?_) (fun hv => ?_)
              · refine z_rload_n dX12_counted_71 rfl 0 rfl ?_
                refine z_getJ (q := 15527) ff_12_63 dX12_counted_72 kt_113 (Nat.le_of_ble_eq_true rfl) fl_X12_463 rfl ?_
                refine z_l2i dX12_counted_75 ?_
                refine z_goto (tgt := 83) dX12_counted_76 (by decide) ?_
                exact J9 _ hv.symm
              · refine z_rload_n dX12_counted_79 rfl 0 rfl ?_
                refine z_getI (q := 15529) ff_12_65 dX12_counted_80 kt_113 (Nat.le_of_ble_eq_true rfl) fl_X12_470 rfl ?_
                exact J9 _ hv.symm
        · exact z_iret rfl dX12_counted_83 rfl rfl rfl ⟨_, rfl, hs, h⟩
      · refine z_iconst dX12_counted_30 ?_
        exact z_iret rfl dX12_counted_31 rfl rfl rfl ⟨_, rfl, hs, h⟩
    · refine z_iconst dX12_counted_30 ?_
      exact z_iret rfl dX12_counted_31 rfl rfl rfl ⟨_, rfl, hs, h⟩
  · refine z_iconst dX12_counted_30 ?_
    exact z_iret rfl dX12_counted_31 rfl rfl rfl ⟨_, rfl, hs, h⟩
abbrev Y_M_takesRow : Yt := (3, none, yX12_takesRow.name, { frames := 0, cells := 0, slots := 0, locals := 0 }, 175, 0, 0)
def l_M_takesRow_12 (a1 : Int) (X_12_77 : Mem → Prop) : Nat → Int → Mem → Prop
  | 0, _, _ => False
  | fu12 + 1, v2, μ_2 => if w v2 < w (rI μ_2 15533 0) then (0 ≤ w ((12 * a1) + v2) ∧ w ((12 * a1) + v2) < ((288 : Nat) : Int) ∧ 0 ≤ w v2 ∧ w v2 < ((12 : Nat) : Int) ∧ ∀ μ_3 : Mem, μ_3 = sI μ_2 155 (w v2) (rI μ_2 126 (w ((12 * a1) + v2))) → 0 ≤ w ((12 * a1) + v2) ∧ w ((12 * a1) + v2) < ((288 : Nat) : Int) ∧ 0 ≤ w v2 ∧ w v2 < ((12 : Nat) : Int) ∧ ∀ μ_4 : Mem, μ_4 = sB μ_3 156 (w v2) (rB μ_3 127 (w ((12 * a1) + v2))) → 0 ≤ w ((12 * a1) + v2) ∧ w ((12 * a1) + v2) < ((288 : Nat) : Int) ∧ 0 ≤ w v2 ∧ w v2 < ((12 : Nat) : Int) ∧ ∀ μ_5 : Mem, μ_5 = sI μ_4 157 (w v2) (rI μ_4 128 (w ((12 * a1) + v2))) → (l_M_takesRow_12 a1 X_12_77 fu12) (v2 + 1) μ_5) else (X_12_77 μ_2)
def f_M_takesRow (a1 : Int) (μ : Mem) (k : Mem → Prop) : Prop := 0 ≤ w a1 ∧ w a1 < ((24 : Nat) : Int) ∧ ∀ μ_1 : Mem, μ_1 = sI μ 15533 0 (rI μ 125 (w a1)) → ∃ m12 : Nat, l_M_takesRow_12 a1 (fun (μ_6 : Mem) => k μ_6) m12 0 μ_1
theorem L_M_takesRow_12 {l : Launch} {Γ : Gam} {g : Nat} {a1 : Int} {X_12_77 : Mem → Prop} {k : Mem → Prop} (hX_12_77 : ∀ (ν : Mem), StatR ν.2.2 → X_12_77 ν → SW l Γ yX12_takesRow.cls cX12_takesRow Y_M_takesRow (pV k) g 175 0 0 ν 77 [] []) (n9 : Nat) : ∀ (v2 : Int) (μ_2 : Mem), StatR μ_2.2.2 → l_M_takesRow_12 a1 X_12_77 n9 v2 μ_2 → SW l Γ yX12_takesRow.cls cX12_takesRow Y_M_takesRow (pV k) g 175 0 0 μ_2 12 [(0, vr Γ 113), (1, vi a1), (2, vi v2)] [] := by
  induction n9 with
  | zero =>
    intro v2 μ_2 hs h
    exact h.elim
  | succ n9 hR_12 =>
    intro v2 μ_2 hs h
    rw [l_M_takesRow_12] at h
    refine z_iload_n dX12_takesRow_12 rfl 2 rfl ?_
    refine z_rload_n dX12_takesRow_13 rfl 0 rfl ?_
    refine z_getI (q := 15533) ff_12_69 dX12_takesRow_14 kt_113 (Nat.le_of_ble_eq_true rfl) fl_X12_483 rfl ?_
    refine z_icmp_ge (tgt := 77) dX12_takesRow_17 (by decide) h (fun h => ?_) (fun h => ?_)
    · refine z_rload_n dX12_takesRow_20 rfl 0 rfl ?_
      refine z_getR (q := 15530) ff_12_66 dX12_takesRow_21 kt_113 (Nat.le_of_ble_eq_true rfl) fl_X12_152 rfl (hs.1 _ _ sr_15530) ?_
      refine z_iload_n dX12_takesRow_24 rfl 2 rfl ?_
      refine z_rload_n dX12_takesRow_25 rfl 0 rfl ?_
      refine z_getR (q := 15485) ff_12_21 dX12_takesRow_26 kt_113 (Nat.le_of_ble_eq_true rfl) fl_X12_56 rfl (hs.1 _ _ sr_15485) ?_
      refine z_bipush dX12_takesRow_29 (by decide) ?_
      refine z_iload_n dX12_takesRow_31 rfl 1 rfl ?_
      refine z_imul dX12_takesRow_32 ?_
      refine z_iload_n dX12_takesRow_33 rfl 2 rfl ?_
      refine z_iadd dX12_takesRow_34 ?_
      obtain ⟨h0, h1, h⟩ := h
      refine z_iald dX12_takesRow_35 kt_126 (Nat.le_of_ble_eq_true rfl) h0 h1 ?_
      obtain ⟨h0, h1, h⟩ := h
      refine z_iast dX12_takesRow_36 kt_155 (Nat.le_of_ble_eq_true rfl) h0 h1 ?_
      refine z_mm (fun μ_3 eμ_3 => ?_)
      replace h := h μ_3 eμ_3
      replace hs : StatR μ_3.2.2 := by rw [eμ_3]; exact hs
      refine z_rload_n dX12_takesRow_37 rfl 0 rfl ?_
      refine z_getR (q := 15531) ff_12_67 dX12_takesRow_38 kt_113 (Nat.le_of_ble_eq_true rfl) fl_X12_155 rfl (hs.1 _ _ sr_15531) ?_
      refine z_iload_n dX12_takesRow_41 rfl 2 rfl ?_
      refine z_rload_n dX12_takesRow_42 rfl 0 rfl ?_
      refine z_getR (q := 15486) ff_12_22 dX12_takesRow_43 kt_113 (Nat.le_of_ble_eq_true rfl) fl_X12_59 rfl (hs.1 _ _ sr_15486) ?_
      refine z_bipush dX12_takesRow_46 (by decide) ?_
      refine z_iload_n dX12_takesRow_48 rfl 1 rfl ?_
      refine z_imul dX12_takesRow_49 ?_
      refine z_iload_n dX12_takesRow_50 rfl 2 rfl ?_
      refine z_iadd dX12_takesRow_51 ?_
      obtain ⟨h0, h1, h⟩ := h
      refine z_zald dX12_takesRow_52 kt_127 (Nat.le_of_ble_eq_true rfl) h0 h1 ?_
      obtain ⟨h0, h1, h⟩ := h
      refine z_zast dX12_takesRow_53 kt_156 (Nat.le_of_ble_eq_true rfl) h0 h1 ?_
      refine z_mm (fun μ_4 eμ_4 => ?_)
      replace h := h μ_4 eμ_4
      replace hs : StatR μ_4.2.2 := by rw [eμ_4]; exact hs
      refine z_rload_n dX12_takesRow_54 rfl 0 rfl ?_
      refine z_getR (q := 15532) ff_12_68 dX12_takesRow_55 kt_113 (Nat.le_of_ble_eq_true rfl) fl_X12_158 rfl (hs.1 _ _ sr_15532) ?_
      refine z_iload_n dX12_takesRow_58 rfl 2 rfl ?_
      refine z_rload_n dX12_takesRow_59 rfl 0 rfl ?_
      refine z_getR (q := 15487) ff_12_23 dX12_takesRow_60 kt_113 (Nat.le_of_ble_eq_true rfl) fl_X12_63 rfl (hs.1 _ _ sr_15487) ?_
      refine z_bipush dX12_takesRow_63 (by decide) ?_
      refine z_iload_n dX12_takesRow_65 rfl 1 rfl ?_
      refine z_imul dX12_takesRow_66 ?_
      refine z_iload_n dX12_takesRow_67 rfl 2 rfl ?_
      refine z_iadd dX12_takesRow_68 ?_
      obtain ⟨h0, h1, h⟩ := h
      refine z_iald dX12_takesRow_69 kt_128 (Nat.le_of_ble_eq_true rfl) h0 h1 ?_
      obtain ⟨h0, h1, h⟩ := h
      refine z_iast dX12_takesRow_70 kt_157 (Nat.le_of_ble_eq_true rfl) h0 h1 ?_
      refine z_mm (fun μ_5 eμ_5 => ?_)
      replace h := h μ_5 eμ_5
      replace hs : StatR μ_5.2.2 := by rw [eμ_5]; exact hs
      refine z_iinc (j := 2) (lv' := [(2, vi (v2 + 1)), (0, vr Γ 113), (1, vi a1)]) dX12_takesRow_71 rfl (Nat.le_of_ble_eq_true rfl) rfl ?_
      refine z_goto (tgt := 12) dX12_takesRow_74 (by decide) ?_
      refine z_sub (lv' := [(0, vr Γ 113), (1, vi a1), (2, vi (v2 + 1))]) [1, 2, 0] rfl ?_
      exact hR_12 (v2 + 1) μ_5 hs h
    · refine z_sub (lv' := []) [] rfl ?_
      exact hX_12_77 μ_2 hs h
theorem i_M_takesRow {l : Launch} {Γ : Gam} {g : Nat} {a1 : Int} {μ : Mem} {k : Mem → Prop} (hs : StatR μ.2.2) (h : f_M_takesRow a1 μ k) : CT l Γ yX12_takesRow cX12_takesRow 3 none 0 0 0 0 [vr Γ 113, vi a1] g 175 μ (pV k) := by
  refine SW.ct (by decide) (Nat.le_of_ble_eq_true rfl) ?_
  refine z_sub (lv' := [(0, vr Γ 113), (1, vi a1)]) [0, 1] rfl ?_
  show SW l Γ yX12_takesRow.cls cX12_takesRow Y_M_takesRow (pV k) g 175 0 0 μ 0 [(0, vr Γ 113), (1, vi a1)] []
  unfold f_M_takesRow at h
  refine z_rload_n dX12_takesRow_0 rfl 0 rfl ?_
  refine z_rload_n dX12_takesRow_1 rfl 0 rfl ?_
  refine z_getR (q := 15484) ff_12_20 dX12_takesRow_2 kt_113 (Nat.le_of_ble_eq_true rfl) fl_X12_53 rfl (hs.1 _ _ sr_15484) ?_
  refine z_iload_n dX12_takesRow_5 rfl 1 rfl ?_
  obtain ⟨h0, h1, h⟩ := h
  refine z_iald dX12_takesRow_6 kt_125 (Nat.le_of_ble_eq_true rfl) h0 h1 ?_
  refine z_putI (q := 15533) ff_12_69 (Or.inl rfl) rfl dX12_takesRow_7 kt_113 (Nat.le_of_ble_eq_true rfl) fl_X12_483 rfl ?_
  refine z_mm (fun μ_1 eμ_1 => ?_)
  replace h := h μ_1 eμ_1
  replace hs : StatR μ_1.2.2 := by rw [eμ_1]; exact hs
  refine z_iconst dX12_takesRow_10 ?_
  refine z_istore_n (lv' := [(2, vi 0), (0, vr Γ 113), (1, vi a1)]) dX12_takesRow_11 rfl (Nat.le_of_ble_eq_true rfl) rfl ?_
  obtain ⟨m12, h⟩ := h
  refine z_sub (lv' := [(0, vr Γ 113), (1, vi a1), (2, vi 0)]) [1, 2, 0] rfl ?_
  refine L_M_takesRow_12 (fun μ_6 hs h => ?_) m12 0 μ_1 hs h
  exact z_vret rfl dX12_takesRow_77 rfl rfl rfl ⟨rfl, hs, h⟩
abbrev Y_M_laysRow : Yt := (3, none, yX12_laysRow.name, { frames := 0, cells := 0, slots := 0, locals := 0 }, 175, 0, 0)
def l_M_laysRow_12 (a1 : Int) (X_12_77 : Mem → Prop) : Nat → Int → Mem → Prop
  | 0, _, _ => False
  | fu12 + 1, v2, μ_2 => if w v2 < w (rI μ_2 15533 0) then (0 ≤ w v2 ∧ w v2 < ((12 : Nat) : Int) ∧ 0 ≤ w ((12 * a1) + v2) ∧ w ((12 * a1) + v2) < ((288 : Nat) : Int) ∧ ∀ μ_3 : Mem, μ_3 = sI μ_2 126 (w ((12 * a1) + v2)) (rI μ_2 155 (w v2)) → 0 ≤ w v2 ∧ w v2 < ((12 : Nat) : Int) ∧ 0 ≤ w ((12 * a1) + v2) ∧ w ((12 * a1) + v2) < ((288 : Nat) : Int) ∧ ∀ μ_4 : Mem, μ_4 = sB μ_3 127 (w ((12 * a1) + v2)) (rB μ_3 156 (w v2)) → 0 ≤ w v2 ∧ w v2 < ((12 : Nat) : Int) ∧ 0 ≤ w ((12 * a1) + v2) ∧ w ((12 * a1) + v2) < ((288 : Nat) : Int) ∧ ∀ μ_5 : Mem, μ_5 = sI μ_4 128 (w ((12 * a1) + v2)) (rI μ_4 157 (w v2)) → (l_M_laysRow_12 a1 X_12_77 fu12) (v2 + 1) μ_5) else (X_12_77 μ_2)
def f_M_laysRow (a1 : Int) (μ : Mem) (k : Mem → Prop) : Prop := 0 ≤ w a1 ∧ w a1 < ((24 : Nat) : Int) ∧ ∀ μ_1 : Mem, μ_1 = sI μ 125 (w a1) (rI μ 15533 0) → ∃ m12 : Nat, l_M_laysRow_12 a1 (fun (μ_6 : Mem) => k μ_6) m12 0 μ_1
theorem L_M_laysRow_12 {l : Launch} {Γ : Gam} {g : Nat} {a1 : Int} {X_12_77 : Mem → Prop} {k : Mem → Prop} (hX_12_77 : ∀ (ν : Mem), StatR ν.2.2 → X_12_77 ν → SW l Γ yX12_laysRow.cls cX12_laysRow Y_M_laysRow (pV k) g 175 0 0 ν 77 [] []) (n9 : Nat) : ∀ (v2 : Int) (μ_2 : Mem), StatR μ_2.2.2 → l_M_laysRow_12 a1 X_12_77 n9 v2 μ_2 → SW l Γ yX12_laysRow.cls cX12_laysRow Y_M_laysRow (pV k) g 175 0 0 μ_2 12 [(0, vr Γ 113), (1, vi a1), (2, vi v2)] [] := by
  induction n9 with
  | zero =>
    intro v2 μ_2 hs h
    exact h.elim
  | succ n9 hR_12 =>
    intro v2 μ_2 hs h
    rw [l_M_laysRow_12] at h
    refine z_iload_n dX12_laysRow_12 rfl 2 rfl ?_
    refine z_rload_n dX12_laysRow_13 rfl 0 rfl ?_
    refine z_getI (q := 15533) ff_12_69 dX12_laysRow_14 kt_113 (Nat.le_of_ble_eq_true rfl) fl_X12_483 rfl ?_
    refine z_icmp_ge (tgt := 77) dX12_laysRow_17 (by decide) h (fun h => ?_) (fun h => ?_)
    · refine z_rload_n dX12_laysRow_20 rfl 0 rfl ?_
      refine z_getR (q := 15485) ff_12_21 dX12_laysRow_21 kt_113 (Nat.le_of_ble_eq_true rfl) fl_X12_56 rfl (hs.1 _ _ sr_15485) ?_
      refine z_bipush dX12_laysRow_24 (by decide) ?_
      refine z_iload_n dX12_laysRow_26 rfl 1 rfl ?_
      refine z_imul dX12_laysRow_27 ?_
      refine z_iload_n dX12_laysRow_28 rfl 2 rfl ?_
      refine z_iadd dX12_laysRow_29 ?_
      refine z_rload_n dX12_laysRow_30 rfl 0 rfl ?_
      refine z_getR (q := 15530) ff_12_66 dX12_laysRow_31 kt_113 (Nat.le_of_ble_eq_true rfl) fl_X12_152 rfl (hs.1 _ _ sr_15530) ?_
      refine z_iload_n dX12_laysRow_34 rfl 2 rfl ?_
      obtain ⟨h0, h1, h⟩ := h
      refine z_iald dX12_laysRow_35 kt_155 (Nat.le_of_ble_eq_true rfl) h0 h1 ?_
      obtain ⟨h0, h1, h⟩ := h
      refine z_iast dX12_laysRow_36 kt_126 (Nat.le_of_ble_eq_true rfl) h0 h1 ?_
      refine z_mm (fun μ_3 eμ_3 => ?_)
      replace h := h μ_3 eμ_3
      replace hs : StatR μ_3.2.2 := by rw [eμ_3]; exact hs
      refine z_rload_n dX12_laysRow_37 rfl 0 rfl ?_
      refine z_getR (q := 15486) ff_12_22 dX12_laysRow_38 kt_113 (Nat.le_of_ble_eq_true rfl) fl_X12_59 rfl (hs.1 _ _ sr_15486) ?_
      refine z_bipush dX12_laysRow_41 (by decide) ?_
      refine z_iload_n dX12_laysRow_43 rfl 1 rfl ?_
      refine z_imul dX12_laysRow_44 ?_
      refine z_iload_n dX12_laysRow_45 rfl 2 rfl ?_
      refine z_iadd dX12_laysRow_46 ?_
      refine z_rload_n dX12_laysRow_47 rfl 0 rfl ?_
      refine z_getR (q := 15531) ff_12_67 dX12_laysRow_48 kt_113 (Nat.le_of_ble_eq_true rfl) fl_X12_155 rfl (hs.1 _ _ sr_15531) ?_
      refine z_iload_n dX12_laysRow_51 rfl 2 rfl ?_
      obtain ⟨h0, h1, h⟩ := h
      refine z_zald dX12_laysRow_52 kt_156 (Nat.le_of_ble_eq_true rfl) h0 h1 ?_
      obtain ⟨h0, h1, h⟩ := h
      refine z_zast dX12_laysRow_53 kt_127 (Nat.le_of_ble_eq_true rfl) h0 h1 ?_
      refine z_mm (fun μ_4 eμ_4 => ?_)
      replace h := h μ_4 eμ_4
      replace hs : StatR μ_4.2.2 := by rw [eμ_4]; exact hs
      refine z_rload_n dX12_laysRow_54 rfl 0 rfl ?_
      refine z_getR (q := 15487) ff_12_23 dX12_laysRow_55 kt_113 (Nat.le_of_ble_eq_true rfl) fl_X12_63 rfl (hs.1 _ _ sr_15487) ?_
      refine z_bipush dX12_laysRow_58 (by decide) ?_
      refine z_iload_n dX12_laysRow_60 rfl 1 rfl ?_
      refine z_imul dX12_laysRow_61 ?_
      refine z_iload_n dX12_laysRow_62 rfl 2 rfl ?_
      refine z_iadd dX12_laysRow_63 ?_
      refine z_rload_n dX12_laysRow_64 rfl 0 rfl ?_
      refine z_getR (q := 15532) ff_12_68 dX12_laysRow_65 kt_113 (Nat.le_of_ble_eq_true rfl) fl_X12_158 rfl (hs.1 _ _ sr_15532) ?_
      refine z_iload_n dX12_laysRow_68 rfl 2 rfl ?_
      obtain ⟨h0, h1, h⟩ := h
      refine z_iald dX12_laysRow_69 kt_157 (Nat.le_of_ble_eq_true rfl) h0 h1 ?_
      obtain ⟨h0, h1, h⟩ := h
      refine z_iast dX12_laysRow_70 kt_128 (Nat.le_of_ble_eq_true rfl) h0 h1 ?_
      refine z_mm (fun μ_5 eμ_5 => ?_)
      replace h := h μ_5 eμ_5
      replace hs : StatR μ_5.2.2 := by rw [eμ_5]; exact hs
      refine z_iinc (j := 2) (lv' := [(2, vi (v2 + 1)), (0, vr Γ 113), (1, vi a1)]) dX12_laysRow_71 rfl (Nat.le_of_ble_eq_true rfl) rfl ?_
      refine z_goto (tgt := 12) dX12_laysRow_74 (by decide) ?_
      refine z_sub (lv' := [(0, vr Γ 113), (1, vi a1), (2, vi (v2 + 1))]) [1, 2, 0] rfl ?_
      exact hR_12 (v2 + 1) μ_5 hs h
    · refine z_sub (lv' := []) [] rfl ?_
      exact hX_12_77 μ_2 hs h
theorem i_M_laysRow {l : Launch} {Γ : Gam} {g : Nat} {a1 : Int} {μ : Mem} {k : Mem → Prop} (hs : StatR μ.2.2) (h : f_M_laysRow a1 μ k) : CT l Γ yX12_laysRow cX12_laysRow 3 none 0 0 0 0 [vr Γ 113, vi a1] g 175 μ (pV k) := by
  refine SW.ct (by decide) (Nat.le_of_ble_eq_true rfl) ?_
  refine z_sub (lv' := [(0, vr Γ 113), (1, vi a1)]) [0, 1] rfl ?_
  show SW l Γ yX12_laysRow.cls cX12_laysRow Y_M_laysRow (pV k) g 175 0 0 μ 0 [(0, vr Γ 113), (1, vi a1)] []
  unfold f_M_laysRow at h
  refine z_rload_n dX12_laysRow_0 rfl 0 rfl ?_
  refine z_getR (q := 15484) ff_12_20 dX12_laysRow_1 kt_113 (Nat.le_of_ble_eq_true rfl) fl_X12_53 rfl (hs.1 _ _ sr_15484) ?_
  refine z_iload_n dX12_laysRow_4 rfl 1 rfl ?_
  refine z_rload_n dX12_laysRow_5 rfl 0 rfl ?_
  refine z_getI (q := 15533) ff_12_69 dX12_laysRow_6 kt_113 (Nat.le_of_ble_eq_true rfl) fl_X12_483 rfl ?_
  obtain ⟨h0, h1, h⟩ := h
  refine z_iast dX12_laysRow_9 kt_125 (Nat.le_of_ble_eq_true rfl) h0 h1 ?_
  refine z_mm (fun μ_1 eμ_1 => ?_)
  replace h := h μ_1 eμ_1
  replace hs : StatR μ_1.2.2 := by rw [eμ_1]; exact hs
  refine z_iconst dX12_laysRow_10 ?_
  refine z_istore_n (lv' := [(2, vi 0), (0, vr Γ 113), (1, vi a1)]) dX12_laysRow_11 rfl (Nat.le_of_ble_eq_true rfl) rfl ?_
  obtain ⟨m12, h⟩ := h
  refine z_sub (lv' := [(0, vr Γ 113), (1, vi a1), (2, vi 0)]) [1, 2, 0] rfl ?_
  refine L_M_laysRow_12 (fun μ_6 hs h => ?_) m12 0 μ_1 hs h
  exact z_vret rfl dX12_laysRow_77 rfl rfl rfl ⟨rfl, hs, h⟩
abbrev Y_M_inRow : Yt := (3, (some .int), yX12_inRow.name, { frames := 0, cells := 0, slots := 0, locals := 0 }, 175, 0, 0)
def l_M_inRow_2 (a1 : Int) (μ : Mem) (X_2_31 : Int → Prop) (k : Int → Mem → Prop) : Nat → Int → Prop
  | 0, _ => False
  | fu2 + 1, v2 => if w v2 < w (rI μ 15533 0) then (0 ≤ w v2 ∧ w v2 < ((12 : Nat) : Int) ∧ if w (rI μ 155 (w v2)) = w a1 then (X_2_31 v2) else (0 ≤ w v2 ∧ w v2 < ((12 : Nat) : Int) ∧ if w (rI μ 155 (w v2)) = w (-a1) then (X_2_31 v2) else ((l_M_inRow_2 a1 μ X_2_31 k fu2) (v2 + 1)))) else (k (-1) μ)
def f_M_inRow (a1 : Int) (μ : Mem) (k : Int → Mem → Prop) : Prop := ∃ m2 : Nat, l_M_inRow_2 a1 μ (fun (v2_1 : Int) => k v2_1 μ) k m2 0
theorem L_M_inRow_2 {l : Launch} {Γ : Gam} {g : Nat} {a1 : Int} {μ : Mem} {X_2_31 : Int → Prop} {k : Int → Mem → Prop} (hs : StatR μ.2.2) (hX_2_31 : ∀ (u2 : Int), X_2_31 u2 → SW l Γ yX12_inRow.cls cX12_inRow Y_M_inRow (pI k) g 175 0 0 μ 31 [(2, vi u2)] []) (n9 : Nat) : ∀ (v2 : Int), l_M_inRow_2 a1 μ X_2_31 k n9 v2 → SW l Γ yX12_inRow.cls cX12_inRow Y_M_inRow (pI k) g 175 0 0 μ 2 [(0, vr Γ 113), (1, vi a1), (2, vi v2)] [] := by
  induction n9 with
  | zero =>
    intro v2 h
    exact h.elim
  | succ n9 hR_2 =>
    intro v2 h
    rw [l_M_inRow_2] at h
    refine z_iload_n dX12_inRow_2 rfl 2 rfl ?_
    refine z_rload_n dX12_inRow_3 rfl 0 rfl ?_
    refine z_getI (q := 15533) ff_12_69 dX12_inRow_4 kt_113 (Nat.le_of_ble_eq_true rfl) fl_X12_483 rfl ?_
    refine z_icmp_ge (tgt := 39) dX12_inRow_7 (by decide) h (fun h => ?_) (fun h => ?_)
    · refine z_rload_n dX12_inRow_10 rfl 0 rfl ?_
      refine z_getR (q := 15530) ff_12_66 dX12_inRow_11 kt_113 (Nat.le_of_ble_eq_true rfl) fl_X12_152 rfl (hs.1 _ _ sr_15530) ?_
      refine z_iload_n dX12_inRow_14 rfl 2 rfl ?_
      obtain ⟨h0, h1, h⟩ := h
      refine z_iald dX12_inRow_15 kt_155 (Nat.le_of_ble_eq_true rfl) h0 h1 ?_
      refine z_iload_n dX12_inRow_16 rfl 1 rfl ?_
      refine z_icmp_eq (tgt := 31) dX12_inRow_17 (by decide) h (fun h => ?_) (fun h => ?_)
      · refine z_sub (lv' := [(2, vi v2)]) [2] rfl ?_
        exact hX_2_31 v2 h
      · refine z_rload_n dX12_inRow_20 rfl 0 rfl ?_
        refine z_getR (q := 15530) ff_12_66 dX12_inRow_21 kt_113 (Nat.le_of_ble_eq_true rfl) fl_X12_152 rfl (hs.1 _ _ sr_15530) ?_
        refine z_iload_n dX12_inRow_24 rfl 2 rfl ?_
        obtain ⟨h0, h1, h⟩ := h
        refine z_iald dX12_inRow_25 kt_155 (Nat.le_of_ble_eq_true rfl) h0 h1 ?_
        refine z_iload_n dX12_inRow_26 rfl 1 rfl ?_
        refine z_ineg dX12_inRow_27 ?_
        refine z_icmp_ne (tgt := 33) dX12_inRow_28 (by decide) h (fun h => ?_) (fun h => ?_)
        · refine z_sub (lv' := [(2, vi v2)]) [2] rfl ?_
          exact hX_2_31 v2 h
        · refine z_iinc (j := 2) (lv' := [(2, vi (v2 + 1)), (0, vr Γ 113), (1, vi a1)]) dX12_inRow_33 rfl (Nat.le_of_ble_eq_true rfl) rfl ?_
          refine z_goto (tgt := 2) dX12_inRow_36 (by decide) ?_
          refine z_sub (lv' := [(0, vr Γ 113), (1, vi a1), (2, vi (v2 + 1))]) [1, 2, 0] rfl ?_
          exact hR_2 (v2 + 1) h
    · refine z_iconst dX12_inRow_39 ?_
      exact z_iret rfl dX12_inRow_40 rfl rfl rfl ⟨_, rfl, hs, h⟩
theorem i_M_inRow {l : Launch} {Γ : Gam} {g : Nat} {a1 : Int} {μ : Mem} {k : Int → Mem → Prop} (hs : StatR μ.2.2) (h : f_M_inRow a1 μ k) : CT l Γ yX12_inRow cX12_inRow 3 (some .int) 0 0 0 0 [vr Γ 113, vi a1] g 175 μ (pI k) := by
  refine SW.ct (by decide) (Nat.le_of_ble_eq_true rfl) ?_
  refine z_sub (lv' := [(0, vr Γ 113), (1, vi a1)]) [0, 1] rfl ?_
  show SW l Γ yX12_inRow.cls cX12_inRow Y_M_inRow (pI k) g 175 0 0 μ 0 [(0, vr Γ 113), (1, vi a1)] []
  unfold f_M_inRow at h
  refine z_iconst dX12_inRow_0 ?_
  refine z_istore_n (lv' := [(2, vi 0), (0, vr Γ 113), (1, vi a1)]) dX12_inRow_1 rfl (Nat.le_of_ble_eq_true rfl) rfl ?_
  obtain ⟨m2, h⟩ := h
  refine z_sub (lv' := [(0, vr Γ 113), (1, vi a1), (2, vi 0)]) [1, 2, 0] rfl ?_
  refine L_M_inRow_2 hs (fun v2_1 h => ?_) m2 0 h
  refine z_iload_n dX12_inRow_31 rfl 0 rfl ?_
  exact z_iret rfl dX12_inRow_32 rfl rfl rfl ⟨_, rfl, hs, h⟩
