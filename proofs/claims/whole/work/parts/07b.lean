abbrev Y_M_mandateOf : Yt := (7, (some .int), yX12_mandateOf.name, { frames := 1, cells := 0, slots := 0, locals := 26 }, 175, 0, 0)
def l_M_mandateOf_6 (a1 : Int) (a2 : Int) (a3 : Int) (X_6_85 : Int → Mem → Prop) : Nat → Int → Int → Mem → Prop
  | 0, _, _, _ => False
  | fu6 + 1, v4, v5, μ_1 => if w v5 < w (rI μ_1 15468 0) then (0 ≤ w v5 ∧ w v5 < ((48 : Nat) : Int) ∧ if w (rI μ_1 115 (w v5)) = w a1 then (f_M_toldBy 2 v5 a2 a3 2 μ_1 (fun r36 μ_2 => if w r36 = w 1 then (0 ≤ w v5 ∧ w v5 < ((48 : Nat) : Int) ∧ ∀ v4_1 : Int, v4_1 = v4 + (rI μ_2 116 (w v5)) → (l_M_mandateOf_6 a1 a2 a3 X_6_85 fu6) v4_1 (v5 + 1) μ_2) else (if w r36 = 0 then (0 ≤ w v5 ∧ w v5 < ((48 : Nat) : Int) ∧ ∀ v4_2 : Int, v4_2 = v4 + (-(rI μ_2 116 (w v5))) → (l_M_mandateOf_6 a1 a2 a3 X_6_85 fu6) v4_2 (v5 + 1) μ_2) else ((l_M_mandateOf_6 a1 a2 a3 X_6_85 fu6) (v4 + 0) (v5 + 1) μ_2)))) else ((l_M_mandateOf_6 a1 a2 a3 X_6_85 fu6) v4 (v5 + 1) μ_1)) else (X_6_85 v4 μ_1)
def f_M_mandateOf (a1 : Int) (a2 : Int) (a3 : Int) (μ : Mem) (k : Int → Mem → Prop) : Prop := ∃ m6 : Nat, l_M_mandateOf_6 a1 a2 a3 (fun (v4_3 : Int) (μ_3 : Mem) => ∀ x104 : Int, x104 = (if 0 < w v4_3 then 1 else (if w v4_3 < 0 then 0 else 2)) → k x104 μ_3) m6 0 0 μ
theorem L_M_mandateOf_6 {l : Launch} {Γ : Gam} {g : Nat} {a1 : Int} {a2 : Int} {a3 : Int} {X_6_85 : Int → Mem → Prop} {k : Int → Mem → Prop} (hX_6_85 : ∀ (u4 : Int) (ν : Mem), StatR ν.2.2 → X_6_85 u4 ν → SW l Γ yX12_mandateOf.cls cX12_mandateOf Y_M_mandateOf (pI k) g 175 0 0 ν 85 [(4, vi u4)] []) (n9 : Nat) : ∀ (v4 : Int) (v5 : Int) (μ_1 : Mem), StatR μ_1.2.2 → l_M_mandateOf_6 a1 a2 a3 X_6_85 n9 v4 v5 μ_1 → SW l Γ yX12_mandateOf.cls cX12_mandateOf Y_M_mandateOf (pI k) g 175 0 0 μ_1 6 [(0, vr Γ 113), (1, vi a1), (2, vi a2), (3, vi a3), (4, vi v4), (5, vi v5)] [] := by
  induction n9 with
  | zero =>
    intro v4 v5 μ_1 hs h
    exact h.elim
  | succ n9 hR_6 =>
    intro v4 v5 μ_1 hs h
    rw [l_M_mandateOf_6] at h
    refine z_iload dX12_mandateOf_6 5 rfl ?_
    refine z_rload_n dX12_mandateOf_8 rfl 0 rfl ?_
    refine z_getI (q := 15468) ff_12_4 dX12_mandateOf_9 kt_113 (Nat.le_of_ble_eq_true rfl) fl_X12_223 rfl ?_
    refine z_icmp_ge (tgt := 85) dX12_mandateOf_12 (by decide) h (fun h => ?_) (fun h => ?_)
    · refine z_rload_n dX12_mandateOf_15 rfl 0 rfl ?_
      refine z_getR (q := 15469) ff_12_5 dX12_mandateOf_16 kt_113 (Nat.le_of_ble_eq_true rfl) fl_X12_17 rfl (hs.1 _ _ sr_15469) ?_
      refine z_iload dX12_mandateOf_19 5 rfl ?_
      obtain ⟨h0, h1, h⟩ := h
      refine z_iald dX12_mandateOf_21 kt_115 (Nat.le_of_ble_eq_true rfl) h0 h1 ?_
      refine z_iload_n dX12_mandateOf_22 rfl 1 rfl ?_
      refine z_icmp_eq (tgt := 29) dX12_mandateOf_23 (by decide) h (fun h => ?_) (fun h => ?_)
      · refine z_rload_n dX12_mandateOf_29 rfl 0 rfl ?_
        refine z_iconst dX12_mandateOf_30 ?_
        refine z_iload dX12_mandateOf_31 5 rfl ?_
        refine z_iload_n dX12_mandateOf_33 rfl 2 rfl ?_
        refine z_iload_n dX12_mandateOf_34 rfl 3 rfl ?_
        refine z_iconst dX12_mandateOf_35 ?_
        refine z_VI (i_M_toldBy  hs h) vk_X12_toldBy kt_113 (Nat.le_of_ble_eq_true rfl) rfl ml_X12_258 ⟨Nat.le_of_ble_eq_true rfl, Nat.le_of_ble_eq_true rfl⟩ ⟨Nat.zero_le _, Nat.zero_le _⟩ rfl rfl (Nat.le_of_ble_eq_true rfl) dX12_mandateOf_36 (fun r36 μ_2 hs h => ?_)
        refine z_istore (lv' := [(6, vi r36), (0, vr Γ 113), (1, vi a1), (2, vi a2), (3, vi a3), (4, vi v4), (5, vi v5)]) dX12_mandateOf_39 (Nat.le_of_ble_eq_true rfl) rfl ?_
        refine z_iload dX12_mandateOf_41 5 rfl ?_
        refine z_iload dX12_mandateOf_43 0 rfl ?_
        refine z_iconst dX12_mandateOf_45 ?_
        refine z_icmp_ne (tgt := 59) dX12_mandateOf_46 (by decide) h (fun h => ?_) (fun h => ?_)
        · refine z_rload_n dX12_mandateOf_49 rfl 1 rfl ?_
          refine z_getR (q := 15470) ff_12_6 dX12_mandateOf_50 kt_113 (Nat.le_of_ble_eq_true rfl) fl_X12_20 rfl (hs.1 _ _ sr_15470) ?_
          refine z_iload dX12_mandateOf_53 6 rfl ?_
          obtain ⟨h0, h1, h⟩ := h
          refine z_iald dX12_mandateOf_55 kt_116 (Nat.le_of_ble_eq_true rfl) h0 h1 ?_
          refine z_goto (tgt := 76) dX12_mandateOf_56 (by decide) ?_
          refine z_iadd dX12_mandateOf_76 ?_
          refine z_nm (fun v4_1 ev4_1 => ?_)
          replace h := h v4_1 ev4_1
          refine z_istore (lv' := [(4, vi v4_1), (6, vi r36), (0, vr Γ 113), (1, vi a1), (2, vi a2), (3, vi a3), (5, vi v5)]) dX12_mandateOf_77 (Nat.le_of_ble_eq_true rfl) rfl ?_
          refine z_iinc (j := 6) (lv' := [(5, vi (v5 + 1)), (4, vi v4_1), (6, vi r36), (0, vr Γ 113), (1, vi a1), (2, vi a2), (3, vi a3)]) dX12_mandateOf_79 rfl (Nat.le_of_ble_eq_true rfl) rfl ?_
          refine z_goto (tgt := 6) dX12_mandateOf_82 (by decide) ?_
          refine z_sub (lv' := [(0, vr Γ 113), (1, vi a1), (2, vi a2), (3, vi a3), (4, vi v4_1), (5, vi (v5 + 1))]) [3, 4, 5, 6, 1, 0] rfl ?_
          exact hR_6 v4_1 (v5 + 1) μ_2 hs h
        · refine z_iload dX12_mandateOf_59 0 rfl ?_
          refine z_if_ne (tgt := 75) dX12_mandateOf_61 (by decide) h (fun h => ?_) (fun h => ?_)
          · refine z_rload_n dX12_mandateOf_64 rfl 1 rfl ?_
            refine z_getR (q := 15470) ff_12_6 dX12_mandateOf_65 kt_113 (Nat.le_of_ble_eq_true rfl) fl_X12_20 rfl (hs.1 _ _ sr_15470) ?_
            refine z_iload dX12_mandateOf_68 6 rfl ?_
            obtain ⟨h0, h1, h⟩ := h
            refine z_iald dX12_mandateOf_70 kt_116 (Nat.le_of_ble_eq_true rfl) h0 h1 ?_
            refine z_ineg dX12_mandateOf_71 ?_
            refine z_goto (tgt := 76) dX12_mandateOf_72 (by decide) ?_
            refine z_iadd dX12_mandateOf_76 ?_
            refine z_nm (fun v4_2 ev4_2 => ?_)
            replace h := h v4_2 ev4_2
            refine z_istore (lv' := [(4, vi v4_2), (6, vi r36), (0, vr Γ 113), (1, vi a1), (2, vi a2), (3, vi a3), (5, vi v5)]) dX12_mandateOf_77 (Nat.le_of_ble_eq_true rfl) rfl ?_
            refine z_iinc (j := 6) (lv' := [(5, vi (v5 + 1)), (4, vi v4_2), (6, vi r36), (0, vr Γ 113), (1, vi a1), (2, vi a2), (3, vi a3)]) dX12_mandateOf_79 rfl (Nat.le_of_ble_eq_true rfl) rfl ?_
            refine z_goto (tgt := 6) dX12_mandateOf_82 (by decide) ?_
            refine z_sub (lv' := [(0, vr Γ 113), (1, vi a1), (2, vi a2), (3, vi a3), (4, vi v4_2), (5, vi (v5 + 1))]) [3, 4, 5, 6, 1, 0] rfl ?_
            exact hR_6 v4_2 (v5 + 1) μ_2 hs h
          · refine z_iconst dX12_mandateOf_75 ?_
            refine z_iadd dX12_mandateOf_76 ?_
            refine z_istore (lv' := [(4, vi (v4 + 0)), (6, vi r36), (0, vr Γ 113), (1, vi a1), (2, vi a2), (3, vi a3), (5, vi v5)]) dX12_mandateOf_77 (Nat.le_of_ble_eq_true rfl) rfl ?_
            refine z_iinc (j := 6) (lv' := [(5, vi (v5 + 1)), (4, vi (v4 + 0)), (6, vi r36), (0, vr Γ 113), (1, vi a1), (2, vi a2), (3, vi a3)]) dX12_mandateOf_79 rfl (Nat.le_of_ble_eq_true rfl) rfl ?_
            refine z_goto (tgt := 6) dX12_mandateOf_82 (by decide) ?_
            refine z_sub (lv' := [(0, vr Γ 113), (1, vi a1), (2, vi a2), (3, vi a3), (4, vi (v4 + 0)), (5, vi (v5 + 1))]) [3, 4, 5, 6, 1, 0] rfl ?_
            exact hR_6 (v4 + 0) (v5 + 1) μ_2 hs h
      · refine z_goto (tgt := 79) dX12_mandateOf_26 (by decide) ?_
        refine z_iinc (j := 5) (lv' := [(5, vi (v5 + 1)), (0, vr Γ 113), (1, vi a1), (2, vi a2), (3, vi a3), (4, vi v4)]) dX12_mandateOf_79 rfl (Nat.le_of_ble_eq_true rfl) rfl ?_
        refine z_goto (tgt := 6) dX12_mandateOf_82 (by decide) ?_
        refine z_sub (lv' := [(0, vr Γ 113), (1, vi a1), (2, vi a2), (3, vi a3), (4, vi v4), (5, vi (v5 + 1))]) [1, 2, 3, 4, 5, 0] rfl ?_
        exact hR_6 v4 (v5 + 1) μ_1 hs h
    · refine z_sub (lv' := [(4, vi v4)]) [4] rfl ?_
      exact hX_6_85 v4 μ_1 hs h
theorem i_M_mandateOf {l : Launch} {Γ : Gam} {g : Nat} {a1 : Int} {a2 : Int} {a3 : Int} {μ : Mem} {k : Int → Mem → Prop} (hs : StatR μ.2.2) (h : f_M_mandateOf a1 a2 a3 μ k) : CT l Γ yX12_mandateOf cX12_mandateOf 7 (some .int) 1 26 0 0 [vr Γ 113, vi a1, vi a2, vi a3] g 175 μ (pI k) := by
  refine SW.ct (by decide) (Nat.le_of_ble_eq_true rfl) ?_
  refine z_sub (lv' := [(0, vr Γ 113), (1, vi a1), (2, vi a2), (3, vi a3)]) [0, 1, 2, 3] rfl ?_
  show SW l Γ yX12_mandateOf.cls cX12_mandateOf Y_M_mandateOf (pI k) g 175 0 0 μ 0 [(0, vr Γ 113), (1, vi a1), (2, vi a2), (3, vi a3)] []
  unfold f_M_mandateOf at h
  refine z_iconst dX12_mandateOf_0 ?_
  refine z_istore (lv' := [(4, vi 0), (0, vr Γ 113), (1, vi a1), (2, vi a2), (3, vi a3)]) dX12_mandateOf_1 (Nat.le_of_ble_eq_true rfl) rfl ?_
  refine z_iconst dX12_mandateOf_3 ?_
  refine z_istore (lv' := [(5, vi 0), (4, vi 0), (0, vr Γ 113), (1, vi a1), (2, vi a2), (3, vi a3)]) dX12_mandateOf_4 (Nat.le_of_ble_eq_true rfl) rfl ?_
  obtain ⟨m6, h⟩ := h
  refine z_sub (lv' := [(0, vr Γ 113), (1, vi a1), (2, vi a2), (3, vi a3), (4, vi 0), (5, vi 0)]) [2, 3, 4, 5, 1, 0] rfl ?_
  refine L_M_mandateOf_6 (fun v4_3 μ_3 hs h => ?_) m6 0 0 μ hs h
  refine z_iload dX12_mandateOf_85 0 rfl ?_
  refine z_phi 104 [] (fun V9 hv J9 => ?_) h (fun x104 h => ?_)
  · refine z_if_le (tgt := 94) dX12_mandateOf_87 (by decide) (eq_ite hv) (fun hv => ?_) (fun hv => ?_)
    · refine z_iconst dX12_mandateOf_90 ?_
      refine z_goto (tgt := 104) dX12_mandateOf_91 (by decide) ?_
      exact J9 _ hv.symm
    · refine z_iload dX12_mandateOf_94 0 rfl ?_
      refine z_if_ge (tgt := 103) dX12_mandateOf_96 (by decide) (eq_ite hv) (fun hv => ?_) (fun hv => ?_)
      · refine z_iconst dX12_mandateOf_99 ?_
        refine z_goto (tgt := 104) dX12_mandateOf_100 (by decide) ?_
        exact J9 _ hv.symm
      · refine z_iconst dX12_mandateOf_103 ?_
        exact J9 _ hv.symm
  · exact z_iret rfl dX12_mandateOf_104 rfl rfl rfl ⟨_, rfl, hs, h⟩
abbrev Y_M_voiceOf : Yt := (5, (some .int), yX12_voiceOf.name, { frames := 2, cells := 0, slots := 0, locals := 52 }, 175, 0, 0)
def f_M_voiceOf (a1 : Int) (a2 : Int) (a3 : Int) (μ : Mem) (k : Int → Mem → Prop) : Prop := f_M_toldBy 3 a1 a2 a3 3 μ (fun r6 μ_1 => if w r6 = w 3 then (f_M_mandateOf a1 a2 a3 μ_1 (fun r21 μ_2 => k r21 μ_2)) else (k r6 μ_1))
theorem i_M_voiceOf {l : Launch} {Γ : Gam} {g : Nat} {a1 : Int} {a2 : Int} {a3 : Int} {μ : Mem} {k : Int → Mem → Prop} (hs : StatR μ.2.2) (h : f_M_voiceOf a1 a2 a3 μ k) : CT l Γ yX12_voiceOf cX12_voiceOf 5 (some .int) 2 52 0 0 [vr Γ 113, vi a1, vi a2, vi a3] g 175 μ (pI k) := by
  refine SW.ct (by decide) (Nat.le_of_ble_eq_true rfl) ?_
  refine z_sub (lv' := [(0, vr Γ 113), (1, vi a1), (2, vi a2), (3, vi a3)]) [0, 1, 2, 3] rfl ?_
  show SW l Γ yX12_voiceOf.cls cX12_voiceOf Y_M_voiceOf (pI k) g 175 0 0 μ 0 [(0, vr Γ 113), (1, vi a1), (2, vi a2), (3, vi a3)] []
  unfold f_M_voiceOf at h
  refine z_rload_n dX12_voiceOf_0 rfl 0 rfl ?_
  refine z_iconst dX12_voiceOf_1 ?_
  refine z_iload_n dX12_voiceOf_2 rfl 1 rfl ?_
  refine z_iload_n dX12_voiceOf_3 rfl 2 rfl ?_
  refine z_iload_n dX12_voiceOf_4 rfl 3 rfl ?_
  refine z_iconst dX12_voiceOf_5 ?_
  refine z_VI (i_M_toldBy  hs h) vk_X12_toldBy kt_113 (Nat.le_of_ble_eq_true rfl) rfl ml_X12_258 ⟨Nat.le_of_ble_eq_true rfl, Nat.le_of_ble_eq_true rfl⟩ ⟨Nat.zero_le _, Nat.zero_le _⟩ rfl rfl (Nat.le_of_ble_eq_true rfl) dX12_voiceOf_6 (fun r6 μ_1 hs h => ?_)
  refine z_istore (lv' := [(4, vi r6), (0, vr Γ 113), (1, vi a1), (2, vi a2), (3, vi a3)]) dX12_voiceOf_9 (Nat.le_of_ble_eq_true rfl) rfl ?_
  refine z_iload dX12_voiceOf_11 0 rfl ?_
  refine z_iconst dX12_voiceOf_13 ?_
  refine z_icmp_ne (tgt := 27) dX12_voiceOf_14 (by decide) h (fun h => ?_) (fun h => ?_)
  · refine z_rload_n dX12_voiceOf_17 rfl 1 rfl ?_
    refine z_iload_n dX12_voiceOf_18 rfl 2 rfl ?_
    refine z_iload_n dX12_voiceOf_19 rfl 3 rfl ?_
    refine z_iload_n dX12_voiceOf_20 rfl 4 rfl ?_
    refine z_VI (i_M_mandateOf  hs h) vk_X12_mandateOf kt_113 (Nat.le_of_ble_eq_true rfl) rfl ml_X12_262 ⟨Nat.le_of_ble_eq_true rfl, Nat.le_of_ble_eq_true rfl⟩ ⟨Nat.zero_le _, Nat.zero_le _⟩ rfl rfl (Nat.le_of_ble_eq_true rfl) dX12_voiceOf_21 (fun r21 μ_2 hs h => ?_)
    refine z_goto (tgt := 29) dX12_voiceOf_24 (by decide) ?_
    exact z_iret rfl dX12_voiceOf_29 rfl rfl rfl ⟨_, rfl, hs, h⟩
  · refine z_iload dX12_voiceOf_27 0 rfl ?_
    exact z_iret rfl dX12_voiceOf_29 rfl rfl rfl ⟨_, rfl, hs, h⟩
abbrev Y_M_clause : Yt := (4, (some .int), yX12_clause.name, { frames := 0, cells := 0, slots := 0, locals := 0 }, 175, 0, 0)
def l_M_clause_4 (a1 : Int) (μ : Mem) (X_4_59 : Int → Prop) : Nat → Int → Int → Prop
  | 0, _, _ => False
  | fu4 + 1, v2, v3 => if w (rI μ 15480 0) = w (-1) then (X_4_59 v2) else (0 ≤ w (rI μ 15480 0) ∧ w (rI μ 15480 0) < ((11 : Nat) : Int) ∧ if w v3 < w (rI μ 145 (w (rI μ 15480 0))) then (0 ≤ w ((15 * (rI μ 15480 0)) + v3) ∧ w ((15 * (rI μ 15480 0)) + v3) < ((165 : Nat) : Int) ∧ if w (rI μ 146 (w ((15 * (rI μ 15480 0)) + v3))) = w a1 then (∀ v2_1 : Int, v2_1 = (15 * (rI μ 15480 0)) + v3 → (l_M_clause_4 a1 μ X_4_59 fu4) v2_1 (v3 + 1)) else ((l_M_clause_4 a1 μ X_4_59 fu4) v2 (v3 + 1))) else (X_4_59 v2))
def f_M_clause (a1 : Int) (μ : Mem) (k : Int → Mem → Prop) : Prop := ∃ m4 : Nat, l_M_clause_4 a1 μ (fun (v2_2 : Int) => k v2_2 μ) m4 (-1) 0
theorem L_M_clause_4 {l : Launch} {Γ : Gam} {g : Nat} {a1 : Int} {μ : Mem} {X_4_59 : Int → Prop} {k : Int → Mem → Prop} (hs : StatR μ.2.2) (hX_4_59 : ∀ (u2 : Int), X_4_59 u2 → SW l Γ yX12_clause.cls cX12_clause Y_M_clause (pI k) g 175 0 0 μ 59 [(2, vi u2)] []) (n9 : Nat) : ∀ (v2 : Int) (v3 : Int), l_M_clause_4 a1 μ X_4_59 n9 v2 v3 → SW l Γ yX12_clause.cls cX12_clause Y_M_clause (pI k) g 175 0 0 μ 4 [(0, vr Γ 113), (1, vi a1), (2, vi v2), (3, vi v3)] [] := by
  induction n9 with
  | zero =>
    intro v2 v3 h
    exact h.elim
  | succ n9 hR_4 =>
    intro v2 v3 h
    rw [l_M_clause_4] at h
    refine z_rload_n dX12_clause_4 rfl 0 rfl ?_
    refine z_getI (q := 15480) ff_12_16 dX12_clause_5 kt_113 (Nat.le_of_ble_eq_true rfl) fl_X12_41 rfl ?_
    refine z_iconst dX12_clause_8 ?_
    refine z_icmp_eq (tgt := 59) dX12_clause_9 (by decide) h (fun h => ?_) (fun h => ?_)
    · refine z_sub (lv' := [(2, vi v2)]) [2] rfl ?_
      exact hX_4_59 v2 h
    · refine z_iload_n dX12_clause_12 rfl 3 rfl ?_
      refine z_rload_n dX12_clause_13 rfl 0 rfl ?_
      refine z_getR (q := 15506) ff_12_42 dX12_clause_14 kt_113 (Nat.le_of_ble_eq_true rfl) fl_X12_117 rfl (hs.1 _ _ sr_15506) ?_
      refine z_rload_n dX12_clause_17 rfl 0 rfl ?_
      refine z_getI (q := 15480) ff_12_16 dX12_clause_18 kt_113 (Nat.le_of_ble_eq_true rfl) fl_X12_41 rfl ?_
      obtain ⟨h0, h1, h⟩ := h
      refine z_iald dX12_clause_21 kt_145 (Nat.le_of_ble_eq_true rfl) h0 h1 ?_
      refine z_icmp_ge (tgt := 59) dX12_clause_22 (by decide) h (fun h => ?_) (fun h => ?_)
      · refine z_rload_n dX12_clause_25 rfl 0 rfl ?_
        refine z_getR (q := 15507) ff_12_43 dX12_clause_26 kt_113 (Nat.le_of_ble_eq_true rfl) fl_X12_120 rfl (hs.1 _ _ sr_15507) ?_
        refine z_bipush dX12_clause_29 (by decide) ?_
        refine z_rload_n dX12_clause_31 rfl 0 rfl ?_
        refine z_getI (q := 15480) ff_12_16 dX12_clause_32 kt_113 (Nat.le_of_ble_eq_true rfl) fl_X12_41 rfl ?_
        refine z_imul dX12_clause_35 ?_
        refine z_iload_n dX12_clause_36 rfl 3 rfl ?_
        refine z_iadd dX12_clause_37 ?_
        obtain ⟨h0, h1, h⟩ := h
        refine z_iald dX12_clause_38 kt_146 (Nat.le_of_ble_eq_true rfl) h0 h1 ?_
        refine z_iload_n dX12_clause_39 rfl 1 rfl ?_
        refine z_icmp_ne (tgt := 53) dX12_clause_40 (by decide) h (fun h => ?_) (fun h => ?_)
        · refine z_bipush dX12_clause_43 (by decide) ?_
          refine z_rload_n dX12_clause_45 rfl 0 rfl ?_
          refine z_getI (q := 15480) ff_12_16 dX12_clause_46 kt_113 (Nat.le_of_ble_eq_true rfl) fl_X12_41 rfl ?_
          refine z_imul dX12_clause_49 ?_
          refine z_iload_n dX12_clause_50 rfl 3 rfl ?_
          refine z_iadd dX12_clause_51 ?_
          refine z_nm (fun v2_1 ev2_1 => ?_)
          replace h := h v2_1 ev2_1
          refine z_istore_n (lv' := [(2, vi v2_1), (0, vr Γ 113), (1, vi a1), (3, vi v3)]) dX12_clause_52 rfl (Nat.le_of_ble_eq_true rfl) rfl ?_
          refine z_iinc (j := 3) (lv' := [(3, vi (v3 + 1)), (2, vi v2_1), (0, vr Γ 113), (1, vi a1)]) dX12_clause_53 rfl (Nat.le_of_ble_eq_true rfl) rfl ?_
          refine z_goto (tgt := 4) dX12_clause_56 (by decide) ?_
          refine z_sub (lv' := [(0, vr Γ 113), (1, vi a1), (2, vi v2_1), (3, vi (v3 + 1))]) [2, 3, 1, 0] rfl ?_
          exact hR_4 v2_1 (v3 + 1) h
        · refine z_iinc (j := 3) (lv' := [(3, vi (v3 + 1)), (0, vr Γ 113), (1, vi a1), (2, vi v2)]) dX12_clause_53 rfl (Nat.le_of_ble_eq_true rfl) rfl ?_
          refine z_goto (tgt := 4) dX12_clause_56 (by decide) ?_
          refine z_sub (lv' := [(0, vr Γ 113), (1, vi a1), (2, vi v2), (3, vi (v3 + 1))]) [1, 2, 3, 0] rfl ?_
          exact hR_4 v2 (v3 + 1) h
      · refine z_sub (lv' := [(2, vi v2)]) [2] rfl ?_
        exact hX_4_59 v2 h
theorem i_M_clause {l : Launch} {Γ : Gam} {g : Nat} {a1 : Int} {μ : Mem} {k : Int → Mem → Prop} (hs : StatR μ.2.2) (h : f_M_clause a1 μ k) : CT l Γ yX12_clause cX12_clause 4 (some .int) 0 0 0 0 [vr Γ 113, vi a1] g 175 μ (pI k) := by
  refine SW.ct (by decide) (Nat.le_of_ble_eq_true rfl) ?_
  refine z_sub (lv' := [(0, vr Γ 113), (1, vi a1)]) [0, 1] rfl ?_
  show SW l Γ yX12_clause.cls cX12_clause Y_M_clause (pI k) g 175 0 0 μ 0 [(0, vr Γ 113), (1, vi a1)] []
  unfold f_M_clause at h
  refine z_iconst dX12_clause_0 ?_
  refine z_istore_n (lv' := [(2, vi (-1)), (0, vr Γ 113), (1, vi a1)]) dX12_clause_1 rfl (Nat.le_of_ble_eq_true rfl) rfl ?_
  refine z_iconst dX12_clause_2 ?_
  refine z_istore_n (lv' := [(3, vi 0), (2, vi (-1)), (0, vr Γ 113), (1, vi a1)]) dX12_clause_3 rfl (Nat.le_of_ble_eq_true rfl) rfl ?_
  obtain ⟨m4, h⟩ := h
  refine z_sub (lv' := [(0, vr Γ 113), (1, vi a1), (2, vi (-1)), (3, vi 0)]) [2, 3, 1, 0] rfl ?_
  refine L_M_clause_4 hs (fun v2_2 h => ?_) m4 (-1) 0 h
  refine z_iload_n dX12_clause_59 rfl 0 rfl ?_
  exact z_iret rfl dX12_clause_60 rfl rfl rfl ⟨_, rfl, hs, h⟩
abbrev Y_M_hasBind : Yt := (1, (some .boolean), yX12_hasBind.name, { frames := 1, cells := 0, slots := 0, locals := 23 }, 175, 0, 0)
def f_M_hasBind  (μ : Mem) (k : Bool → Mem → Prop) : Prop := f_M_clause 6 μ (fun r3 μ_1 => ∀ x15 : Bool, x15 = (if w r3 = w (-1) then false else true) → k x15 μ_1)
theorem i_M_hasBind {l : Launch} {Γ : Gam} {g : Nat} {μ : Mem} {k : Bool → Mem → Prop} (hs : StatR μ.2.2) (h : f_M_hasBind  μ k) : CT l Γ yX12_hasBind cX12_hasBind 1 (some .boolean) 1 23 0 0 [vr Γ 113] g 175 μ (pB k) := by
  refine SW.ct (by decide) (Nat.le_of_ble_eq_true rfl) ?_
  refine z_sub (lv' := [(0, vr Γ 113)]) [0] rfl ?_
  show SW l Γ yX12_hasBind.cls cX12_hasBind Y_M_hasBind (pB k) g 175 0 0 μ 0 [(0, vr Γ 113)] []
  unfold f_M_hasBind at h
  refine z_rload_n dX12_hasBind_0 rfl 0 rfl ?_
  refine z_bipush dX12_hasBind_1 (by decide) ?_
  refine z_VI (i_M_clause  hs h) vk_X12_clause kt_113 (Nat.le_of_ble_eq_true rfl) rfl ml_X12_437 ⟨Nat.le_of_ble_eq_true rfl, Nat.le_of_ble_eq_true rfl⟩ ⟨Nat.zero_le _, Nat.zero_le _⟩ rfl rfl (Nat.le_of_ble_eq_true rfl) dX12_hasBind_3 (fun r3 μ_1 hs h => ?_)
  refine z_iconst dX12_hasBind_6 ?_
  refine z_phiB 15 [] (fun V9 hv J9 => ?_) h (fun x15 h => ?_)
  · refine z_icmp_eq (tgt := 14) dX12_hasBind_7 (by decide) (eq_ite hv) (fun hv => ?_) (fun hv => ?_)
    · refine z_iconst dX12_hasBind_14 ?_
      exact J9 false hv.symm
    · refine z_iconst dX12_hasBind_10 ?_
      refine z_goto (tgt := 15) dX12_hasBind_11 (by decide) ?_
      exact J9 true hv.symm
  · exact z_zret (b := x15) rfl dX12_hasBind_15 rfl rfl rfl ⟨_, rfl, hs, h⟩
abbrev Y_M_casts : Yt := (5, (some .boolean), yX12_casts.name, { frames := 2, cells := 0, slots := 0, locals := 52 }, 175, 0, 0)
def f_M_casts (a1 : Int) (a2 : Int) (a3 : Int) (μ : Mem) (k : Bool → Mem → Prop) : Prop := ∀ μ_1 : Mem, μ_1 = sI μ 15464 0 0 → if (v_M_isAffiliate a1 μ_1) = true then (if (v_M_isMatter a2 μ_1) = true then (if (v_M_within a3 0 3) = true then (f_M_howOf a2 μ_1 (fun r32 μ_2 => if w r32 = 0 then (f_M_mandateOf a1 a2 (rI μ_2 15465 0) μ_2 (fun r47 μ_3 => if w a3 = w 3 then (f_M_tells 3 a1 a2 a3 μ_3 (fun r83 μ_4 => k r83 μ_4)) else (f_M_hasBind  μ_3 (fun r58 μ_5 => if r58 = true then (if w r47 = w 2 then (f_M_tells 3 a1 a2 a3 μ_5 (fun r83_1 μ_6 => k r83_1 μ_6)) else (if w r47 = w a3 then (f_M_tells 3 a1 a2 a3 μ_5 (fun r83_2 μ_7 => k r83_2 μ_7)) else (k false μ_5))) else (f_M_tells 3 a1 a2 a3 μ_5 (fun r83_3 μ_8 => k r83_3 μ_8)))))) else (k false μ_2))) else (k false μ_1)) else (k false μ_1)) else (k false μ_1)
theorem i_M_casts {l : Launch} {Γ : Gam} {g : Nat} {a1 : Int} {a2 : Int} {a3 : Int} {μ : Mem} {k : Bool → Mem → Prop} (hs : StatR μ.2.2) (h : f_M_casts a1 a2 a3 μ k) : CT l Γ yX12_casts cX12_casts 5 (some .boolean) 2 52 0 0 [vr Γ 113, vi a1, vi a2, vi a3] g 175 μ (pB k) := by
  refine SW.ct (by decide) (Nat.le_of_ble_eq_true rfl) ?_
  refine z_sub (lv' := [(0, vr Γ 113), (1, vi a1), (2, vi a2), (3, vi a3)]) [0, 1, 2, 3] rfl ?_
  show SW l Γ yX12_casts.cls cX12_casts Y_M_casts (pB k) g 175 0 0 μ 0 [(0, vr Γ 113), (1, vi a1), (2, vi a2), (3, vi a3)] []
  unfold f_M_casts at h
  refine z_rload_n dX12_casts_0 rfl 0 rfl ?_
  refine z_iconst dX12_casts_1 ?_
  refine z_putI (q := 15464) ff_12_0 (Or.inl rfl) rfl dX12_casts_2 kt_113 (Nat.le_of_ble_eq_true rfl) fl_X12_1 rfl ?_
  refine z_mm (fun μ_1 eμ_1 => ?_)
  replace h := h μ_1 eμ_1
  replace hs : StatR μ_1.2.2 := by rw [eμ_1]; exact hs
  refine z_rload_n dX12_casts_5 rfl 0 rfl ?_
  refine z_iload_n dX12_casts_6 rfl 1 rfl ?_
  refine z_VE (i_M_isAffiliate ) vk_X12_isAffiliate kt_113 (Nat.le_of_ble_eq_true rfl) rfl ml_X12_219 ⟨Nat.le_of_ble_eq_true rfl, Nat.le_of_ble_eq_true rfl⟩ ⟨Nat.zero_le _, Nat.zero_le _⟩ rfl rfl (Nat.le_of_ble_eq_true rfl) dX12_casts_7 ?_
  refine z_ifeq_b (tgt := 38) dX12_casts_10 (by decide) h (fun h => ?_) (fun h => ?_)
  · refine z_rload_n dX12_casts_13 rfl 0 rfl ?_
    refine z_iload_n dX12_casts_14 rfl 2 rfl ?_
    refine z_VE (i_M_isMatter ) vk_X12_isMatter kt_113 (Nat.le_of_ble_eq_true rfl) rfl ml_X12_243 ⟨Nat.le_of_ble_eq_true rfl, Nat.le_of_ble_eq_true rfl⟩ ⟨Nat.zero_le _, Nat.zero_le _⟩ rfl rfl (Nat.le_of_ble_eq_true rfl) dX12_casts_15 ?_
    refine z_ifeq_b (tgt := 38) dX12_casts_18 (by decide) h (fun h => ?_) (fun h => ?_)
    · refine z_iload_n dX12_casts_21 rfl 3 rfl ?_
      refine z_iconst dX12_casts_22 ?_
      refine z_iconst dX12_casts_23 ?_
      refine z_SE (i_M_within ) sk_X12_within ml_X12_215 ⟨Nat.le_of_ble_eq_true rfl, Nat.le_of_ble_eq_true rfl⟩ ⟨Nat.zero_le _, Nat.zero_le _⟩ rfl rfl (Nat.le_of_ble_eq_true rfl) dX12_casts_24 ?_
      refine z_ifeq_b (tgt := 38) dX12_casts_27 (by decide) h (fun h => ?_) (fun h => ?_)
      · refine z_rload_n dX12_casts_30 rfl 0 rfl ?_
        refine z_iload_n dX12_casts_31 rfl 2 rfl ?_
        refine z_VI (i_M_howOf  hs h) vk_X12_howOf kt_113 (Nat.le_of_ble_eq_true rfl) rfl ml_X12_246 ⟨Nat.le_of_ble_eq_true rfl, Nat.le_of_ble_eq_true rfl⟩ ⟨Nat.zero_le _, Nat.zero_le _⟩ rfl rfl (Nat.le_of_ble_eq_true rfl) dX12_casts_32 (fun r32 μ_2 hs h => ?_)
        refine z_if_eq (tgt := 40) dX12_casts_35 (by decide) h (fun h => ?_) (fun h => ?_)
        · refine z_rload_n dX12_casts_40 rfl 0 rfl ?_
          refine z_iload_n dX12_casts_41 rfl 1 rfl ?_
          refine z_iload_n dX12_casts_42 rfl 2 rfl ?_
          refine z_rload_n dX12_casts_43 rfl 0 rfl ?_
          refine z_getI (q := 15465) ff_12_1 dX12_casts_44 kt_113 (Nat.le_of_ble_eq_true rfl) fl_X12_212 rfl ?_
          refine z_VI (i_M_mandateOf  hs h) vk_X12_mandateOf kt_113 (Nat.le_of_ble_eq_true rfl) rfl ml_X12_262 ⟨Nat.le_of_ble_eq_true rfl, Nat.le_of_ble_eq_true rfl⟩ ⟨Nat.zero_le _, Nat.zero_le _⟩ rfl rfl (Nat.le_of_ble_eq_true rfl) dX12_casts_47 (fun r47 μ_3 hs h => ?_)
          refine z_istore (lv' := [(4, vi r47), (0, vr Γ 113), (1, vi a1), (2, vi a2), (3, vi a3)]) dX12_casts_50 (Nat.le_of_ble_eq_true rfl) rfl ?_
          refine z_iload_n dX12_casts_52 rfl 4 rfl ?_
          refine z_iconst dX12_casts_53 ?_
          refine z_icmp_eq (tgt := 78) dX12_casts_54 (by decide) h (fun h => ?_) (fun h => ?_)
          · refine z_rload_n dX12_casts_78 rfl 1 rfl ?_
            refine z_iconst dX12_casts_79 ?_
            refine z_iload_n dX12_casts_80 rfl 2 rfl ?_
            refine z_iload_n dX12_casts_81 rfl 3 rfl ?_
            refine z_iload_n dX12_casts_82 rfl 4 rfl ?_
            refine z_VB (i_M_tells  hs h) vk_X12_tells kt_113 (Nat.le_of_ble_eq_true rfl) rfl ml_X12_253 ⟨Nat.le_of_ble_eq_true rfl, Nat.le_of_ble_eq_true rfl⟩ ⟨Nat.zero_le _, Nat.zero_le _⟩ rfl rfl (Nat.le_of_ble_eq_true rfl) dX12_casts_83 (fun r83 μ_4 hs h => ?_)
            exact z_zret (b := r83) rfl dX12_casts_86 rfl rfl rfl ⟨_, rfl, hs, h⟩
          · refine z_rload_n dX12_casts_57 rfl 1 rfl ?_
            refine z_VB (i_M_hasBind  hs h) vk_X12_hasBind kt_113 (Nat.le_of_ble_eq_true rfl) rfl ml_X12_266 ⟨Nat.le_of_ble_eq_true rfl, Nat.le_of_ble_eq_true rfl⟩ ⟨Nat.zero_le _, Nat.zero_le _⟩ rfl rfl (Nat.le_of_ble_eq_true rfl) dX12_casts_58 (fun r58 μ_5 hs h => ?_)
            refine z_ifeq_b (tgt := 78) dX12_casts_61 (by decide) h (fun h => ?_) (fun h => ?_)
            · refine z_iload dX12_casts_64 0 rfl ?_
              refine z_iconst dX12_casts_66 ?_
              refine z_icmp_eq (tgt := 78) dX12_casts_67 (by decide) h (fun h => ?_) (fun h => ?_)
              · refine z_rload_n dX12_casts_78 rfl 1 rfl ?_
                refine z_iconst dX12_casts_79 ?_
                refine z_iload_n dX12_casts_80 rfl 2 rfl ?_
                refine z_iload_n dX12_casts_81 rfl 3 rfl ?_
                refine z_iload_n dX12_casts_82 rfl 4 rfl ?_
                refine z_VB (i_M_tells  hs h) vk_X12_tells kt_113 (Nat.le_of_ble_eq_true rfl) rfl ml_X12_253 ⟨Nat.le_of_ble_eq_true rfl, Nat.le_of_ble_eq_true rfl⟩ ⟨Nat.zero_le _, Nat.zero_le _⟩ rfl rfl (Nat.le_of_ble_eq_true rfl) dX12_casts_83 (fun r83_1 μ_6 hs h => ?_)
                exact z_zret (b := r83_1) rfl dX12_casts_86 rfl rfl rfl ⟨_, rfl, hs, h⟩
              · refine z_iload dX12_casts_70 0 rfl ?_
                refine z_iload_n dX12_casts_72 rfl 4 rfl ?_
                refine z_icmp_eq (tgt := 78) dX12_casts_73 (by decide) h (fun h => ?_) (fun h => ?_)
                · refine z_rload_n dX12_casts_78 rfl 1 rfl ?_
                  refine z_iconst dX12_casts_79 ?_
                  refine z_iload_n dX12_casts_80 rfl 2 rfl ?_
                  refine z_iload_n dX12_casts_81 rfl 3 rfl ?_
                  refine z_iload_n dX12_casts_82 rfl 4 rfl ?_
                  refine z_VB (i_M_tells  hs h) vk_X12_tells kt_113 (Nat.le_of_ble_eq_true rfl) rfl ml_X12_253 ⟨Nat.le_of_ble_eq_true rfl, Nat.le_of_ble_eq_true rfl⟩ ⟨Nat.zero_le _, Nat.zero_le _⟩ rfl rfl (Nat.le_of_ble_eq_true rfl) dX12_casts_83 (fun r83_2 μ_7 hs h => ?_)
                  exact z_zret (b := r83_2) rfl dX12_casts_86 rfl rfl rfl ⟨_, rfl, hs, h⟩
                · refine z_iconst dX12_casts_76 ?_
                  exact z_zret (b := false) rfl dX12_casts_77 rfl rfl rfl ⟨_, rfl, hs, h⟩
            · refine z_rload_n dX12_casts_78 rfl 1 rfl ?_
              refine z_iconst dX12_casts_79 ?_
              refine z_iload_n dX12_casts_80 rfl 2 rfl ?_
              refine z_iload_n dX12_casts_81 rfl 3 rfl ?_
              refine z_iload_n dX12_casts_82 rfl 4 rfl ?_
              refine z_VB (i_M_tells  hs h) vk_X12_tells kt_113 (Nat.le_of_ble_eq_true rfl) rfl ml_X12_253 ⟨Nat.le_of_ble_eq_true rfl, Nat.le_of_ble_eq_true rfl⟩ ⟨Nat.zero_le _, Nat.zero_le _⟩ rfl rfl (Nat.le_of_ble_eq_true rfl) dX12_casts_83 (fun r83_3 μ_8 hs h => ?_)
              exact z_zret (b := r83_3) rfl dX12_casts_86 rfl rfl rfl ⟨_, rfl, hs, h⟩
        · refine z_iconst dX12_casts_38 ?_
          exact z_zret (b := false) rfl dX12_casts_39 rfl rfl rfl ⟨_, rfl, hs, h⟩
      · refine z_iconst dX12_casts_38 ?_
        exact z_zret (b := false) rfl dX12_casts_39 rfl rfl rfl ⟨_, rfl, hs, h⟩
    · refine z_iconst dX12_casts_38 ?_
      exact z_zret (b := false) rfl dX12_casts_39 rfl rfl rfl ⟨_, rfl, hs, h⟩
  · refine z_iconst dX12_casts_38 ?_
    exact z_zret (b := false) rfl dX12_casts_39 rfl rfl rfl ⟨_, rfl, hs, h⟩
abbrev Y_M_voice : Yt := (5, (some .int), yX12_voice.name, { frames := 3, cells := 0, slots := 0, locals := 76 }, 175, 0, 0)
def f_M_voice (a1 : Int) (a2 : Int) (a3 : Int) (a4 : Int) (μ : Mem) (k : Int → Mem → Prop) : Prop := ∀ μ_1 : Mem, μ_1 = sI μ 15464 0 0 → if (v_M_isAffiliate a1 μ_1) = true then (if (v_M_isMatter a2 μ_1) = true then (if (v_M_isKnown a3 μ_1) = true then (if (v_M_within a4 0 1) = true then (if w a4 = 0 then (f_M_voiceOf a1 a2 a3 μ_1 (fun r50 μ_2 => k r50 μ_2)) else (f_M_mandateOf a1 a2 a3 μ_1 (fun r60 μ_3 => k r60 μ_3))) else (k (-1) μ_1)) else (k (-1) μ_1)) else (k (-1) μ_1)) else (k (-1) μ_1)
theorem i_M_voice {l : Launch} {Γ : Gam} {g : Nat} {a1 : Int} {a2 : Int} {a3 : Int} {a4 : Int} {μ : Mem} {k : Int → Mem → Prop} (hs : StatR μ.2.2) (h : f_M_voice a1 a2 a3 a4 μ k) : CT l Γ yX12_voice cX12_voice 5 (some .int) 3 76 0 0 [vr Γ 113, vi a1, vi a2, vi a3, vi a4] g 175 μ (pI k) := by
  refine SW.ct (by decide) (Nat.le_of_ble_eq_true rfl) ?_
  refine z_sub (lv' := [(0, vr Γ 113), (1, vi a1), (2, vi a2), (3, vi a3), (4, vi a4)]) [0, 1, 2, 3, 4] rfl ?_
  show SW l Γ yX12_voice.cls cX12_voice Y_M_voice (pI k) g 175 0 0 μ 0 [(0, vr Γ 113), (1, vi a1), (2, vi a2), (3, vi a3), (4, vi a4)] []
  unfold f_M_voice at h
  refine z_rload_n dX12_voice_0 rfl 0 rfl ?_
  refine z_iconst dX12_voice_1 ?_
  refine z_putI (q := 15464) ff_12_0 (Or.inl rfl) rfl dX12_voice_2 kt_113 (Nat.le_of_ble_eq_true rfl) fl_X12_1 rfl ?_
  refine z_mm (fun μ_1 eμ_1 => ?_)
  replace h := h μ_1 eμ_1
  replace hs : StatR μ_1.2.2 := by rw [eμ_1]; exact hs
  refine z_rload_n dX12_voice_5 rfl 0 rfl ?_
  refine z_iload_n dX12_voice_6 rfl 1 rfl ?_
  refine z_VE (i_M_isAffiliate ) vk_X12_isAffiliate kt_113 (Nat.le_of_ble_eq_true rfl) rfl ml_X12_219 ⟨Nat.le_of_ble_eq_true rfl, Nat.le_of_ble_eq_true rfl⟩ ⟨Nat.zero_le _, Nat.zero_le _⟩ rfl rfl (Nat.le_of_ble_eq_true rfl) dX12_voice_7 ?_
  refine z_ifeq_b (tgt := 39) dX12_voice_10 (by decide) h (fun h => ?_) (fun h => ?_)
  · refine z_rload_n dX12_voice_13 rfl 0 rfl ?_
    refine z_iload_n dX12_voice_14 rfl 2 rfl ?_
    refine z_VE (i_M_isMatter ) vk_X12_isMatter kt_113 (Nat.le_of_ble_eq_true rfl) rfl ml_X12_243 ⟨Nat.le_of_ble_eq_true rfl, Nat.le_of_ble_eq_true rfl⟩ ⟨Nat.zero_le _, Nat.zero_le _⟩ rfl rfl (Nat.le_of_ble_eq_true rfl) dX12_voice_15 ?_
    refine z_ifeq_b (tgt := 39) dX12_voice_18 (by decide) h (fun h => ?_) (fun h => ?_)
    · refine z_rload_n dX12_voice_21 rfl 0 rfl ?_
      refine z_iload_n dX12_voice_22 rfl 3 rfl ?_
      refine z_VE (i_M_isKnown ) vk_X12_isKnown kt_113 (Nat.le_of_ble_eq_true rfl) rfl ml_X12_270 ⟨Nat.le_of_ble_eq_true rfl, Nat.le_of_ble_eq_true rfl⟩ ⟨Nat.zero_le _, Nat.zero_le _⟩ rfl rfl (Nat.le_of_ble_eq_true rfl) dX12_voice_23 ?_
      refine z_ifeq_b (tgt := 39) dX12_voice_26 (by decide) h (fun h => ?_) (fun h => ?_)
      · refine z_iload dX12_voice_29 4 rfl ?_
        refine z_iconst dX12_voice_31 ?_
        refine z_iconst dX12_voice_32 ?_
        refine z_SE (i_M_within ) sk_X12_within ml_X12_215 ⟨Nat.le_of_ble_eq_true rfl, Nat.le_of_ble_eq_true rfl⟩ ⟨Nat.zero_le _, Nat.zero_le _⟩ rfl rfl (Nat.le_of_ble_eq_true rfl) dX12_voice_33 ?_
        refine z_ifne_b (tgt := 41) dX12_voice_36 (by decide) h (fun h => ?_) (fun h => ?_)
        · refine z_iload dX12_voice_41 4 rfl ?_
          refine z_if_ne (tgt := 56) dX12_voice_43 (by decide) h (fun h => ?_) (fun h => ?_)
          · refine z_rload_n dX12_voice_46 rfl 0 rfl ?_
            refine z_iload_n dX12_voice_47 rfl 1 rfl ?_
            refine z_iload_n dX12_voice_48 rfl 2 rfl ?_
            refine z_iload_n dX12_voice_49 rfl 3 rfl ?_
            refine z_VI (i_M_voiceOf  hs h) vk_X12_voiceOf kt_113 (Nat.le_of_ble_eq_true rfl) rfl ml_X12_273 ⟨Nat.le_of_ble_eq_true rfl, Nat.le_of_ble_eq_true rfl⟩ ⟨Nat.zero_le _, Nat.zero_le _⟩ rfl rfl (Nat.le_of_ble_eq_true rfl) dX12_voice_50 (fun r50 μ_2 hs h => ?_)
            refine z_goto (tgt := 63) dX12_voice_53 (by decide) ?_
            exact z_iret rfl dX12_voice_63 rfl rfl rfl ⟨_, rfl, hs, h⟩
          · refine z_rload_n dX12_voice_56 rfl 0 rfl ?_
            refine z_iload_n dX12_voice_57 rfl 1 rfl ?_
            refine z_iload_n dX12_voice_58 rfl 2 rfl ?_
            refine z_iload_n dX12_voice_59 rfl 3 rfl ?_
            refine z_VI (i_M_mandateOf  hs h) vk_X12_mandateOf kt_113 (Nat.le_of_ble_eq_true rfl) rfl ml_X12_262 ⟨Nat.le_of_ble_eq_true rfl, Nat.le_of_ble_eq_true rfl⟩ ⟨Nat.zero_le _, Nat.zero_le _⟩ rfl rfl (Nat.le_of_ble_eq_true rfl) dX12_voice_60 (fun r60 μ_3 hs h => ?_)
            exact z_iret rfl dX12_voice_63 rfl rfl rfl ⟨_, rfl, hs, h⟩
        · refine z_iconst dX12_voice_39 ?_
          exact z_iret rfl dX12_voice_40 rfl rfl rfl ⟨_, rfl, hs, h⟩
      · refine z_iconst dX12_voice_39 ?_
        exact z_iret rfl dX12_voice_40 rfl rfl rfl ⟨_, rfl, hs, h⟩
    · refine z_iconst dX12_voice_39 ?_
      exact z_iret rfl dX12_voice_40 rfl rfl rfl ⟨_, rfl, hs, h⟩
  · refine z_iconst dX12_voice_39 ?_
    exact z_iret rfl dX12_voice_40 rfl rfl rfl ⟨_, rfl, hs, h⟩
abbrev Y_M_broken : Yt := (7, (some .int), yX12_broken.name, { frames := 2, cells := 0, slots := 0, locals := 52 }, 175, 0, 0)
def l_M_broken_28 (a1 : Int) (a2 : Int) (X_28_87 : Int → Mem → Prop) : Nat → Int → Int → Mem → Prop
  | 0, _, _, _ => False
  | fu28 + 1, v3, v4, μ_2 => if w v4 < w (rI μ_2 15466 0) then (f_M_toldBy 3 v4 a1 a2 3 μ_2 (fun r44 μ_3 => f_M_mandateOf v4 a1 a2 μ_3 (fun r54 μ_4 => if w r44 = w 3 then ((l_M_broken_28 a1 a2 X_28_87 fu28) v3 (v4 + 1) μ_4) else (if w r54 = w 2 then ((l_M_broken_28 a1 a2 X_28_87 fu28) v3 (v4 + 1) μ_4) else (if w r44 = w r54 then ((l_M_broken_28 a1 a2 X_28_87 fu28) v3 (v4 + 1) μ_4) else ((l_M_broken_28 a1 a2 X_28_87 fu28) (v3 + 1) (v4 + 1) μ_4)))))) else (X_28_87 v3 μ_2)
def f_M_broken (a1 : Int) (a2 : Int) (μ : Mem) (k : Int → Mem → Prop) : Prop := ∀ μ_1 : Mem, μ_1 = sI μ 15464 0 0 → if (v_M_isMatter a1 μ_1) = true then (if (v_M_isKnown a2 μ_1) = true then (∃ m28 : Nat, l_M_broken_28 a1 a2 (fun (v3_1 : Int) (μ_5 : Mem) => k v3_1 μ_5) m28 0 0 μ_1) else (k (-1) μ_1)) else (k (-1) μ_1)
theorem L_M_broken_28 {l : Launch} {Γ : Gam} {g : Nat} {a1 : Int} {a2 : Int} {X_28_87 : Int → Mem → Prop} {k : Int → Mem → Prop} (hX_28_87 : ∀ (u3 : Int) (ν : Mem), StatR ν.2.2 → X_28_87 u3 ν → SW l Γ yX12_broken.cls cX12_broken Y_M_broken (pI k) g 175 0 0 ν 87 [(3, vi u3)] []) (n9 : Nat) : ∀ (v3 : Int) (v4 : Int) (μ_2 : Mem), StatR μ_2.2.2 → l_M_broken_28 a1 a2 X_28_87 n9 v3 v4 μ_2 → SW l Γ yX12_broken.cls cX12_broken Y_M_broken (pI k) g 175 0 0 μ_2 28 [(0, vr Γ 113), (1, vi a1), (2, vi a2), (3, vi v3), (4, vi v4)] [] := by
  induction n9 with
  | zero =>
    intro v3 v4 μ_2 hs h
    exact h.elim
  | succ n9 hR_28 =>
    intro v3 v4 μ_2 hs h
    rw [l_M_broken_28] at h
    refine z_iload dX12_broken_28 4 rfl ?_
    refine z_rload_n dX12_broken_30 rfl 0 rfl ?_
    refine z_getI (q := 15466) ff_12_2 dX12_broken_31 kt_113 (Nat.le_of_ble_eq_true rfl) fl_X12_209 rfl ?_
    refine z_icmp_ge (tgt := 87) dX12_broken_34 (by decide) h (fun h => ?_) (fun h => ?_)
    · refine z_rload_n dX12_broken_37 rfl 0 rfl ?_
      refine z_iconst dX12_broken_38 ?_
      refine z_iload dX12_broken_39 4 rfl ?_
      refine z_iload_n dX12_broken_41 rfl 1 rfl ?_
      refine z_iload_n dX12_broken_42 rfl 2 rfl ?_
      refine z_iconst dX12_broken_43 ?_
      refine z_VI (i_M_toldBy  hs h) vk_X12_toldBy kt_113 (Nat.le_of_ble_eq_true rfl) rfl ml_X12_258 ⟨Nat.le_of_ble_eq_true rfl, Nat.le_of_ble_eq_true rfl⟩ ⟨Nat.zero_le _, Nat.zero_le _⟩ rfl rfl (Nat.le_of_ble_eq_true rfl) dX12_broken_44 (fun r44 μ_3 hs h => ?_)
      refine z_istore (lv' := [(5, vi r44), (0, vr Γ 113), (1, vi a1), (2, vi a2), (3, vi v3), (4, vi v4)]) dX12_broken_47 (Nat.le_of_ble_eq_true rfl) rfl ?_
      refine z_rload_n dX12_broken_49 rfl 1 rfl ?_
      refine z_iload dX12_broken_50 5 rfl ?_
      refine z_iload_n dX12_broken_52 rfl 2 rfl ?_
      refine z_iload_n dX12_broken_53 rfl 3 rfl ?_
      refine z_VI (i_M_mandateOf  hs h) vk_X12_mandateOf kt_113 (Nat.le_of_ble_eq_true rfl) rfl ml_X12_262 ⟨Nat.le_of_ble_eq_true rfl, Nat.le_of_ble_eq_true rfl⟩ ⟨Nat.zero_le _, Nat.zero_le _⟩ rfl rfl (Nat.le_of_ble_eq_true rfl) dX12_broken_54 (fun r54 μ_4 hs h => ?_)
      refine z_istore (lv' := [(6, vi r54), (5, vi r44), (0, vr Γ 113), (1, vi a1), (2, vi a2), (3, vi v3), (4, vi v4)]) dX12_broken_57 (Nat.le_of_ble_eq_true rfl) rfl ?_
      refine z_iload dX12_broken_59 1 rfl ?_
      refine z_iconst dX12_broken_61 ?_
      refine z_icmp_eq (tgt := 81) dX12_broken_62 (by decide) h (fun h => ?_) (fun h => ?_)
      · refine z_iinc (j := 6) (lv' := [(4, vi (v4 + 1)), (6, vi r54), (5, vi r44), (0, vr Γ 113), (1, vi a1), (2, vi a2), (3, vi v3)]) dX12_broken_81 rfl (Nat.le_of_ble_eq_true rfl) rfl ?_
        refine z_goto (tgt := 28) dX12_broken_84 (by decide) ?_
        refine z_sub (lv' := [(0, vr Γ 113), (1, vi a1), (2, vi a2), (3, vi v3), (4, vi (v4 + 1))]) [3, 4, 5, 6, 0] rfl ?_
        exact hR_28 v3 (v4 + 1) μ_4 hs h
      · refine z_iload dX12_broken_65 0 rfl ?_
        refine z_iconst dX12_broken_67 ?_
        refine z_icmp_eq (tgt := 81) dX12_broken_68 (by decide) h (fun h => ?_) (fun h => ?_)
        · refine z_iinc (j := 6) (lv' := [(4, vi (v4 + 1)), (6, vi r54), (5, vi r44), (0, vr Γ 113), (1, vi a1), (2, vi a2), (3, vi v3)]) dX12_broken_81 rfl (Nat.le_of_ble_eq_true rfl) rfl ?_
          refine z_goto (tgt := 28) dX12_broken_84 (by decide) ?_
          refine z_sub (lv' := [(0, vr Γ 113), (1, vi a1), (2, vi a2), (3, vi v3), (4, vi (v4 + 1))]) [3, 4, 5, 6, 0] rfl ?_
          exact hR_28 v3 (v4 + 1) μ_4 hs h
        · refine z_iload dX12_broken_71 1 rfl ?_
          refine z_iload dX12_broken_73 0 rfl ?_
          refine z_icmp_eq (tgt := 81) dX12_broken_75 (by decide) h (fun h => ?_) (fun h => ?_)
          · refine z_iinc (j := 6) (lv' := [(4, vi (v4 + 1)), (6, vi r54), (5, vi r44), (0, vr Γ 113), (1, vi a1), (2, vi a2), (3, vi v3)]) dX12_broken_81 rfl (Nat.le_of_ble_eq_true rfl) rfl ?_
            refine z_goto (tgt := 28) dX12_broken_84 (by decide) ?_
            refine z_sub (lv' := [(0, vr Γ 113), (1, vi a1), (2, vi a2), (3, vi v3), (4, vi (v4 + 1))]) [3, 4, 5, 6, 0] rfl ?_
            exact hR_28 v3 (v4 + 1) μ_4 hs h
          · refine z_iinc (j := 5) (lv' := [(3, vi (v3 + 1)), (6, vi r54), (5, vi r44), (0, vr Γ 113), (1, vi a1), (2, vi a2), (4, vi v4)]) dX12_broken_78 rfl (Nat.le_of_ble_eq_true rfl) rfl ?_
            refine z_iinc (j := 6) (lv' := [(4, vi (v4 + 1)), (3, vi (v3 + 1)), (6, vi r54), (5, vi r44), (0, vr Γ 113), (1, vi a1), (2, vi a2)]) dX12_broken_81 rfl (Nat.le_of_ble_eq_true rfl) rfl ?_
            refine z_goto (tgt := 28) dX12_broken_84 (by decide) ?_
            refine z_sub (lv' := [(0, vr Γ 113), (1, vi a1), (2, vi a2), (3, vi (v3 + 1)), (4, vi (v4 + 1))]) [4, 5, 6, 1, 0] rfl ?_
            exact hR_28 (v3 + 1) (v4 + 1) μ_4 hs h
    · refine z_sub (lv' := [(3, vi v3)]) [3] rfl ?_
      exact hX_28_87 v3 μ_2 hs h
theorem i_M_broken {l : Launch} {Γ : Gam} {g : Nat} {a1 : Int} {a2 : Int} {μ : Mem} {k : Int → Mem → Prop} (hs : StatR μ.2.2) (h : f_M_broken a1 a2 μ k) : CT l Γ yX12_broken cX12_broken 7 (some .int) 2 52 0 0 [vr Γ 113, vi a1, vi a2] g 175 μ (pI k) := by
  refine SW.ct (by decide) (Nat.le_of_ble_eq_true rfl) ?_
  refine z_sub (lv' := [(0, vr Γ 113), (1, vi a1), (2, vi a2)]) [0, 1, 2] rfl ?_
  show SW l Γ yX12_broken.cls cX12_broken Y_M_broken (pI k) g 175 0 0 μ 0 [(0, vr Γ 113), (1, vi a1), (2, vi a2)] []
  unfold f_M_broken at h
  refine z_rload_n dX12_broken_0 rfl 0 rfl ?_
  refine z_iconst dX12_broken_1 ?_
  refine z_putI (q := 15464) ff_12_0 (Or.inl rfl) rfl dX12_broken_2 kt_113 (Nat.le_of_ble_eq_true rfl) fl_X12_1 rfl ?_
  refine z_mm (fun μ_1 eμ_1 => ?_)
  replace h := h μ_1 eμ_1
  replace hs : StatR μ_1.2.2 := by rw [eμ_1]; exact hs
  refine z_rload_n dX12_broken_5 rfl 0 rfl ?_
  refine z_iload_n dX12_broken_6 rfl 1 rfl ?_
  refine z_VE (i_M_isMatter ) vk_X12_isMatter kt_113 (Nat.le_of_ble_eq_true rfl) rfl ml_X12_243 ⟨Nat.le_of_ble_eq_true rfl, Nat.le_of_ble_eq_true rfl⟩ ⟨Nat.zero_le _, Nat.zero_le _⟩ rfl rfl (Nat.le_of_ble_eq_true rfl) dX12_broken_7 ?_
  refine z_ifeq_b (tgt := 21) dX12_broken_10 (by decide) h (fun h => ?_) (fun h => ?_)
  · refine z_rload_n dX12_broken_13 rfl 0 rfl ?_
    refine z_iload_n dX12_broken_14 rfl 2 rfl ?_
    refine z_VE (i_M_isKnown ) vk_X12_isKnown kt_113 (Nat.le_of_ble_eq_true rfl) rfl ml_X12_270 ⟨Nat.le_of_ble_eq_true rfl, Nat.le_of_ble_eq_true rfl⟩ ⟨Nat.zero_le _, Nat.zero_le _⟩ rfl rfl (Nat.le_of_ble_eq_true rfl) dX12_broken_15 ?_
    refine z_ifne_b (tgt := 23) dX12_broken_18 (by decide) h (fun h => ?_) (fun h => ?_)
    · refine z_iconst dX12_broken_23 ?_
      refine z_istore_n (lv' := [(3, vi 0), (0, vr Γ 113), (1, vi a1), (2, vi a2)]) dX12_broken_24 rfl (Nat.le_of_ble_eq_true rfl) rfl ?_
      refine z_iconst dX12_broken_25 ?_
      refine z_istore (lv' := [(4, vi 0), (3, vi 0), (0, vr Γ 113), (1, vi a1), (2, vi a2)]) dX12_broken_26 (Nat.le_of_ble_eq_true rfl) rfl ?_
      obtain ⟨m28, h⟩ := h
      refine z_sub (lv' := [(0, vr Γ 113), (1, vi a1), (2, vi a2), (3, vi 0), (4, vi 0)]) [2, 3, 4, 1, 0] rfl ?_
      refine L_M_broken_28 (fun v3_1 μ_5 hs h => ?_) m28 0 0 μ_1 hs h
      refine z_iload_n dX12_broken_87 rfl 0 rfl ?_
      exact z_iret rfl dX12_broken_88 rfl rfl rfl ⟨_, rfl, hs, h⟩
    · refine z_iconst dX12_broken_21 ?_
      exact z_iret rfl dX12_broken_22 rfl rfl rfl ⟨_, rfl, hs, h⟩
  · refine z_iconst dX12_broken_21 ?_
    exact z_iret rfl dX12_broken_22 rfl rfl rfl ⟨_, rfl, hs, h⟩
abbrev Y_M_feed : Yt := (8, (some .int), yX12_feed.name, { frames := 0, cells := 0, slots := 0, locals := 0 }, 175, 0, 0)
def l_M_feed_23 (a1 : Int) (a2 : Int) (a3 : Int) (a4 : Int) (a5 : Int) (X_23_117 : Mem → Prop) : Nat → Int → Mem → Prop
  | 0, _, _ => False
  | fu23 + 1, v6, μ_2 => if w v6 < w 20 then (∀ x76 : Int, x76 = (if w v6 < w 4 then a1 else (if w v6 < w 8 then a2 else (if w v6 < w 12 then a3 else (if w v6 < w 16 then a4 else a5)))) → 0 ≤ w (rI μ_2 15512 0) ∧ w (rI μ_2 15512 0) < ((300 : Nat) : Int) ∧ ∀ μ_3 : Mem, μ_3 = sI μ_2 150 (w (rI μ_2 15512 0)) (w_i2b (w_i2b (w_ishr x76 (24 - (8 * (w_irem v6 4)))))) → ∀ μ_4 : Mem, μ_4 = sI μ_3 15512 0 ((rI μ_3 15512 0) + 1) → (l_M_feed_23 a1 a2 a3 a4 a5 X_23_117 fu23) (v6 + 1) μ_4) else (X_23_117 μ_2)
def f_M_feed (a1 : Int) (a2 : Int) (a3 : Int) (a4 : Int) (a5 : Int) (μ : Mem) (k : Int → Mem → Prop) : Prop := ∀ μ_1 : Mem, μ_1 = sI μ 15464 0 0 → if w 300 < w ((rI μ_1 15512 0) + 20) then (k (-1) μ_1) else (∃ m23 : Nat, l_M_feed_23 a1 a2 a3 a4 a5 (fun (μ_5 : Mem) => k (rI μ_5 15512 0) μ_5) m23 0 μ_1)
theorem L_M_feed_23 {l : Launch} {Γ : Gam} {g : Nat} {a1 : Int} {a2 : Int} {a3 : Int} {a4 : Int} {a5 : Int} {X_23_117 : Mem → Prop} {k : Int → Mem → Prop} (hX_23_117 : ∀ (ν : Mem), StatR ν.2.2 → X_23_117 ν → SW l Γ yX12_feed.cls cX12_feed Y_M_feed (pI k) g 175 0 0 ν 117 [(0, vr Γ 113)] []) (n9 : Nat) : ∀ (v6 : Int) (μ_2 : Mem), StatR μ_2.2.2 → l_M_feed_23 a1 a2 a3 a4 a5 X_23_117 n9 v6 μ_2 → SW l Γ yX12_feed.cls cX12_feed Y_M_feed (pI k) g 175 0 0 μ_2 23 [(0, vr Γ 113), (1, vi a1), (2, vi a2), (3, vi a3), (4, vi a4), (5, vi a5), (6, vi v6)] [] := by
  induction n9 with
  | zero =>
    intro v6 μ_2 hs h
    exact h.elim
  | succ n9 hR_23 =>
    intro v6 μ_2 hs h
    rw [l_M_feed_23] at h
    refine z_iload dX12_feed_23 6 rfl ?_
    refine z_bipush dX12_feed_25 (by decide) ?_
    refine z_icmp_ge (tgt := 117) dX12_feed_27 (by decide) h (fun h => ?_) (fun h => ?_)
    · refine z_iload dX12_feed_30 6 rfl ?_
      refine z_iconst dX12_feed_32 ?_
      refine z_phi 76 [] (fun V9 hv J9 => ?_) h (fun x76 h => ?_)
      · refine z_icmp_ge (tgt := 40) dX12_feed_33 (by decide) (eq_ite hv) (fun hv => ?_) (fun hv => ?_)
        · refine z_iload_n dX12_feed_36 rfl 1 rfl ?_
          refine z_goto (tgt := 76) dX12_feed_37 (by decide) ?_
          exact J9 _ hv.symm
        · refine z_iload dX12_feed_40 6 rfl ?_
          refine z_bipush dX12_feed_42 (by decide) ?_
          refine z_icmp_ge (tgt := 51) dX12_feed_44 (by decide) (eq_ite hv) (fun hv => ?_) (fun hv => ?_)
          · refine z_iload_n dX12_feed_47 rfl 2 rfl ?_
            refine z_goto (tgt := 76) dX12_feed_48 (by decide) ?_
            exact J9 _ hv.symm
          · refine z_iload dX12_feed_51 6 rfl ?_
            refine z_bipush dX12_feed_53 (by decide) ?_
            refine z_icmp_ge (tgt := 62) dX12_feed_55 (by decide) (eq_ite hv) (fun hv => ?_) (fun hv => ?_)
            · refine z_iload_n dX12_feed_58 rfl 3 rfl ?_
              refine z_goto (tgt := 76) dX12_feed_59 (by decide) ?_
              exact J9 _ hv.symm
            · refine z_iload dX12_feed_62 6 rfl ?_
              refine z_bipush dX12_feed_64 (by decide) ?_
              refine z_icmp_ge (tgt := 74) dX12_feed_66 (by decide) (eq_ite hv) (fun hv => ?_) (fun hv => ?_)
              · refine z_iload dX12_feed_69 4 rfl ?_
                refine z_goto (tgt := 76) dX12_feed_71 (by decide) ?_
                exact J9 _ hv.symm
              · refine z_iload dX12_feed_74 5 rfl ?_
                exact J9 _ hv.symm
      · refine z_istore (lv' := [(7, vi x76), (0, vr Γ 113), (1, vi a1), (2, vi a2), (3, vi a3), (4, vi a4), (5, vi a5), (6, vi v6)]) dX12_feed_76 (Nat.le_of_ble_eq_true rfl) rfl ?_
        refine z_rload_n dX12_feed_78 rfl 1 rfl ?_
        refine z_getR (q := 15511) ff_12_47 dX12_feed_79 kt_113 (Nat.le_of_ble_eq_true rfl) fl_X12_132 rfl (hs.1 _ _ sr_15511) ?_
        refine z_rload_n dX12_feed_82 rfl 1 rfl ?_
        refine z_getI (q := 15512) ff_12_48 dX12_feed_83 kt_113 (Nat.le_of_ble_eq_true rfl) fl_X12_276 rfl ?_
        refine z_iload dX12_feed_86 0 rfl ?_
        refine z_bipush dX12_feed_88 (by decide) ?_
        refine z_bipush dX12_feed_90 (by decide) ?_
        refine z_iload dX12_feed_92 7 rfl ?_
        refine z_iconst dX12_feed_94 ?_
        refine z_irem dX12_feed_95 (by decide) ?_
        refine z_imul dX12_feed_96 ?_
        refine z_isub dX12_feed_97 ?_
        refine z_ishr dX12_feed_98 ?_
        refine z_i2b dX12_feed_99 ?_
        obtain ⟨h0, h1, h⟩ := h
        refine z_bast dX12_feed_100 kt_150 (Nat.le_of_ble_eq_true rfl) h0 h1 ?_
        refine z_mm (fun μ_3 eμ_3 => ?_)
        replace h := h μ_3 eμ_3
        replace hs : StatR μ_3.2.2 := by rw [eμ_3]; exact hs
        refine z_rload_n dX12_feed_101 rfl 1 rfl ?_
        refine z_dup dX12_feed_102 rfl ?_
        refine z_getI (q := 15512) ff_12_48 dX12_feed_103 kt_113 (Nat.le_of_ble_eq_true rfl) fl_X12_276 rfl ?_
        refine z_iconst dX12_feed_106 ?_
        refine z_iadd dX12_feed_107 ?_
        refine z_putI (q := 15512) ff_12_48 (Or.inl rfl) rfl dX12_feed_108 kt_113 (Nat.le_of_ble_eq_true rfl) fl_X12_276 rfl ?_
        refine z_mm (fun μ_4 eμ_4 => ?_)
        replace h := h μ_4 eμ_4
        replace hs : StatR μ_4.2.2 := by rw [eμ_4]; exact hs
        refine z_iinc (j := 7) (lv' := [(6, vi (v6 + 1)), (7, vi x76), (0, vr Γ 113), (1, vi a1), (2, vi a2), (3, vi a3), (4, vi a4), (5, vi a5)]) dX12_feed_111 rfl (Nat.le_of_ble_eq_true rfl) rfl ?_
        refine z_goto (tgt := 23) dX12_feed_114 (by decide) ?_
        refine z_sub (lv' := [(0, vr Γ 113), (1, vi a1), (2, vi a2), (3, vi a3), (4, vi a4), (5, vi a5), (6, vi (v6 + 1))]) [2, 3, 4, 5, 6, 7, 0] rfl ?_
        exact hR_23 (v6 + 1) μ_4 hs h
    · refine z_sub (lv' := [(0, vr Γ 113)]) [0] rfl ?_
      exact hX_23_117 μ_2 hs h
theorem i_M_feed {l : Launch} {Γ : Gam} {g : Nat} {a1 : Int} {a2 : Int} {a3 : Int} {a4 : Int} {a5 : Int} {μ : Mem} {k : Int → Mem → Prop} (hs : StatR μ.2.2) (h : f_M_feed a1 a2 a3 a4 a5 μ k) : CT l Γ yX12_feed cX12_feed 8 (some .int) 0 0 0 0 [vr Γ 113, vi a1, vi a2, vi a3, vi a4, vi a5] g 175 μ (pI k) := by
  refine SW.ct (by decide) (Nat.le_of_ble_eq_true rfl) ?_
  refine z_sub (lv' := [(0, vr Γ 113), (1, vi a1), (2, vi a2), (3, vi a3), (4, vi a4), (5, vi a5)]) [0, 1, 2, 3, 4, 5] rfl ?_
  show SW l Γ yX12_feed.cls cX12_feed Y_M_feed (pI k) g 175 0 0 μ 0 [(0, vr Γ 113), (1, vi a1), (2, vi a2), (3, vi a3), (4, vi a4), (5, vi a5)] []
  unfold f_M_feed at h
  refine z_rload_n dX12_feed_0 rfl 0 rfl ?_
  refine z_iconst dX12_feed_1 ?_
  refine z_putI (q := 15464) ff_12_0 (Or.inl rfl) rfl dX12_feed_2 kt_113 (Nat.le_of_ble_eq_true rfl) fl_X12_1 rfl ?_
  refine z_mm (fun μ_1 eμ_1 => ?_)
  replace h := h μ_1 eμ_1
  replace hs : StatR μ_1.2.2 := by rw [eμ_1]; exact hs
  refine z_rload_n dX12_feed_5 rfl 0 rfl ?_
  refine z_getI (q := 15512) ff_12_48 dX12_feed_6 kt_113 (Nat.le_of_ble_eq_true rfl) fl_X12_276 rfl ?_
  refine z_bipush dX12_feed_9 (by decide) ?_
  refine z_iadd dX12_feed_11 ?_
  refine z_sipush dX12_feed_12 (by decide) ?_
  refine z_icmp_le (tgt := 20) dX12_feed_15 (by decide) h (fun h => ?_) (fun h => ?_)
  · refine z_iconst dX12_feed_18 ?_
    exact z_iret rfl dX12_feed_19 rfl rfl rfl ⟨_, rfl, hs, h⟩
  · refine z_iconst dX12_feed_20 ?_
    refine z_istore (lv' := [(6, vi 0), (0, vr Γ 113), (1, vi a1), (2, vi a2), (3, vi a3), (4, vi a4), (5, vi a5)]) dX12_feed_21 (Nat.le_of_ble_eq_true rfl) rfl ?_
    obtain ⟨m23, h⟩ := h
    refine z_sub (lv' := [(0, vr Γ 113), (1, vi a1), (2, vi a2), (3, vi a3), (4, vi a4), (5, vi a5), (6, vi 0)]) [1, 2, 3, 4, 5, 6, 0] rfl ?_
    refine L_M_feed_23 (fun μ_5 hs h => ?_) m23 0 μ_1 hs h
    refine z_rload_n dX12_feed_117 rfl 0 rfl ?_
    refine z_getI (q := 15512) ff_12_48 dX12_feed_118 kt_113 (Nat.le_of_ble_eq_true rfl) fl_X12_276 rfl ?_
    exact z_iret rfl dX12_feed_121 rfl rfl rfl ⟨_, rfl, hs, h⟩
abbrev Y_M_end : Yt := (2, (some .int), yX12_end.name, { frames := 0, cells := 0, slots := 0, locals := 0 }, 175, 0, 0)
def f_M_end (a1 : Int) (μ : Mem) (k : Int → Mem → Prop) : Prop := ∀ μ_1 : Mem, μ_1 = sI μ 15464 0 0 → if w a1 < 0 then (k (-1) μ_1) else (if w (rI μ_1 15512 0) < w a1 then (k (-1) μ_1) else (∀ μ_2 : Mem, μ_2 = sI μ_1 15512 0 a1 → k a1 μ_2))
theorem i_M_end {l : Launch} {Γ : Gam} {g : Nat} {a1 : Int} {μ : Mem} {k : Int → Mem → Prop} (hs : StatR μ.2.2) (h : f_M_end a1 μ k) : CT l Γ yX12_end cX12_end 2 (some .int) 0 0 0 0 [vr Γ 113, vi a1] g 175 μ (pI k) := by
  refine SW.ct (by decide) (Nat.le_of_ble_eq_true rfl) ?_
  refine z_sub (lv' := [(0, vr Γ 113), (1, vi a1)]) [0, 1] rfl ?_
  show SW l Γ yX12_end.cls cX12_end Y_M_end (pI k) g 175 0 0 μ 0 [(0, vr Γ 113), (1, vi a1)] []
  unfold f_M_end at h
  refine z_rload_n dX12_end_0 rfl 0 rfl ?_
  refine z_iconst dX12_end_1 ?_
  refine z_putI (q := 15464) ff_12_0 (Or.inl rfl) rfl dX12_end_2 kt_113 (Nat.le_of_ble_eq_true rfl) fl_X12_1 rfl ?_
  refine z_mm (fun μ_1 eμ_1 => ?_)
  replace h := h μ_1 eμ_1
  replace hs : StatR μ_1.2.2 := by rw [eμ_1]; exact hs
  refine z_iload_n dX12_end_5 rfl 1 rfl ?_
  refine z_if_lt (tgt := 17) dX12_end_6 (by decide) h (fun h => ?_) (fun h => ?_)
  · refine z_iconst dX12_end_17 ?_
    exact z_iret rfl dX12_end_18 rfl rfl rfl ⟨_, rfl, hs, h⟩
  · refine z_iload_n dX12_end_9 rfl 1 rfl ?_
    refine z_rload_n dX12_end_10 rfl 0 rfl ?_
    refine z_getI (q := 15512) ff_12_48 dX12_end_11 kt_113 (Nat.le_of_ble_eq_true rfl) fl_X12_276 rfl ?_
    refine z_icmp_le (tgt := 19) dX12_end_14 (by decide) h (fun h => ?_) (fun h => ?_)
    · refine z_iconst dX12_end_17 ?_
      exact z_iret rfl dX12_end_18 rfl rfl rfl ⟨_, rfl, hs, h⟩
    · refine z_rload_n dX12_end_19 rfl 0 rfl ?_
      refine z_iload_n dX12_end_20 rfl 1 rfl ?_
      refine z_putI (q := 15512) ff_12_48 (Or.inl rfl) rfl dX12_end_21 kt_113 (Nat.le_of_ble_eq_true rfl) fl_X12_276 rfl ?_
      refine z_mm (fun μ_2 eμ_2 => ?_)
      replace h := h μ_2 eμ_2
      replace hs : StatR μ_2.2.2 := by rw [eμ_2]; exact hs
      refine z_iload_n dX12_end_24 rfl 1 rfl ?_
      exact z_iret rfl dX12_end_25 rfl rfl rfl ⟨_, rfl, hs, h⟩
abbrev Y_M_see : Yt := (2, (some .int), yX12_see.name, { frames := 0, cells := 0, slots := 0, locals := 0 }, 175, 0, 0)
def f_M_see (a1 : Int) (μ : Mem) (k : Int → Mem → Prop) : Prop := if w a1 < w (rI μ 15512 0) then (0 ≤ w a1 ∧ w a1 < ((300 : Nat) : Int) ∧ k (rI μ 150 (w a1)) μ) else (k 0 μ)
theorem i_M_see {l : Launch} {Γ : Gam} {g : Nat} {a1 : Int} {μ : Mem} {k : Int → Mem → Prop} (hs : StatR μ.2.2) (h : f_M_see a1 μ k) : CT l Γ yX12_see cX12_see 2 (some .int) 0 0 0 0 [vr Γ 113, vi a1] g 175 μ (pI k) := by
  refine SW.ct (by decide) (Nat.le_of_ble_eq_true rfl) ?_
  refine z_sub (lv' := [(0, vr Γ 113), (1, vi a1)]) [0, 1] rfl ?_
  show SW l Γ yX12_see.cls cX12_see Y_M_see (pI k) g 175 0 0 μ 0 [(0, vr Γ 113), (1, vi a1)] []
  unfold f_M_see at h
  refine z_iload_n dX12_see_0 rfl 1 rfl ?_
  refine z_rload_n dX12_see_1 rfl 0 rfl ?_
  refine z_getI (q := 15512) ff_12_48 dX12_see_2 kt_113 (Nat.le_of_ble_eq_true rfl) fl_X12_276 rfl ?_
  refine z_icmp_ge (tgt := 17) dX12_see_5 (by decide) h (fun h => ?_) (fun h => ?_)
  · refine z_rload_n dX12_see_8 rfl 0 rfl ?_
    refine z_getR (q := 15511) ff_12_47 dX12_see_9 kt_113 (Nat.le_of_ble_eq_true rfl) fl_X12_132 rfl (hs.1 _ _ sr_15511) ?_
    refine z_iload_n dX12_see_12 rfl 1 rfl ?_
    obtain ⟨h0, h1, h⟩ := h
    refine z_bald dX12_see_13 kt_150 (Nat.le_of_ble_eq_true rfl) h0 h1 ?_
    refine z_goto (tgt := 18) dX12_see_14 (by decide) ?_
    exact z_iret rfl dX12_see_18 rfl rfl rfl ⟨_, rfl, hs, h⟩
  · refine z_iconst dX12_see_17 ?_
    exact z_iret rfl dX12_see_18 rfl rfl rfl ⟨_, rfl, hs, h⟩
def v_M_isSmall (a1 : Int) : Bool := if w a1 < w 97 then false else (if w 122 < w a1 then false else true)
theorem i_M_isSmall {l : Launch} {Γ : Gam} {g : Nat} {μ : Mem} {a1 : Int} : CT l Γ yX12_isSmall cX12_isSmall 1 (some .boolean) 0 0 0 0 [vi a1] g 175 μ (pE (vi (b2i (v_M_isSmall a1))) μ) := by
  refine SW.ct (by decide) (Nat.le_of_ble_eq_true rfl) ?_
  refine z_sub (lv' := [(0, vi a1)]) [0] rfl ?_
  have hv : v_M_isSmall a1 = v_M_isSmall a1 := rfl
  refine z_iload_n dX12_isSmall_0 rfl 0 rfl ?_
  refine z_bipush dX12_isSmall_1 (by decide) ?_
  refine z_icmp_lt (tgt := 16) dX12_isSmall_3 (by decide) (eq_ite hv) (fun hv => ?_) (fun hv => ?_)
  · refine z_iconst dX12_isSmall_16 ?_
    exact z_zret (b := false) rfl dX12_isSmall_17 rfl rfl rfl ⟨by first | (rw [hv]; done) | rfl, rfl⟩
  · refine z_iload_n dX12_isSmall_6 rfl 0 rfl ?_
    refine z_bipush dX12_isSmall_7 (by decide) ?_
    refine z_icmp_gt (tgt := 16) dX12_isSmall_9 (by decide) (eq_ite hv) (fun hv => ?_) (fun hv => ?_)
    · refine z_iconst dX12_isSmall_16 ?_
      exact z_zret (b := false) rfl dX12_isSmall_17 rfl rfl rfl ⟨by first | (rw [hv]; done) | rfl, rfl⟩
    · refine z_iconst dX12_isSmall_12 ?_
      refine z_goto (tgt := 17) dX12_isSmall_13 (by decide) ?_
      exact z_zret (b := true) rfl dX12_isSmall_17 rfl rfl rfl ⟨by first | (rw [hv]; done) | rfl, rfl⟩
def v_M_isDigit (a1 : Int) : Bool := if w a1 < w 48 then false else (if w 57 < w a1 then false else true)
theorem i_M_isDigit {l : Launch} {Γ : Gam} {g : Nat} {μ : Mem} {a1 : Int} : CT l Γ yX12_isDigit cX12_isDigit 1 (some .boolean) 0 0 0 0 [vi a1] g 175 μ (pE (vi (b2i (v_M_isDigit a1))) μ) := by
  refine SW.ct (by decide) (Nat.le_of_ble_eq_true rfl) ?_
  refine z_sub (lv' := [(0, vi a1)]) [0] rfl ?_
  have hv : v_M_isDigit a1 = v_M_isDigit a1 := rfl
  refine z_iload_n dX12_isDigit_0 rfl 0 rfl ?_
  refine z_bipush dX12_isDigit_1 (by decide) ?_
  refine z_icmp_lt (tgt := 16) dX12_isDigit_3 (by decide) (eq_ite hv) (fun hv => ?_) (fun hv => ?_)
  · refine z_iconst dX12_isDigit_16 ?_
    exact z_zret (b := false) rfl dX12_isDigit_17 rfl rfl rfl ⟨by first | (rw [hv]; done) | rfl, rfl⟩
  · refine z_iload_n dX12_isDigit_6 rfl 0 rfl ?_
    refine z_bipush dX12_isDigit_7 (by decide) ?_
    refine z_icmp_gt (tgt := 16) dX12_isDigit_9 (by decide) (eq_ite hv) (fun hv => ?_) (fun hv => ?_)
    · refine z_iconst dX12_isDigit_16 ?_
      exact z_zret (b := false) rfl dX12_isDigit_17 rfl rfl rfl ⟨by first | (rw [hv]; done) | rfl, rfl⟩
    · refine z_iconst dX12_isDigit_12 ?_
      refine z_goto (tgt := 17) dX12_isDigit_13 (by decide) ?_
      exact z_zret (b := true) rfl dX12_isDigit_17 rfl rfl rfl ⟨by first | (rw [hv]; done) | rfl, rfl⟩
abbrev Y_M_next : Yt := (2, none, yX12_next.name, { frames := 1, cells := 0, slots := 0, locals := 21 }, 175, 0, 0)
def l_M_next_0 (X_0_52 : Mem → Prop) : Nat → Mem → Prop
  | 0, _ => False
  | fu0 + 1, μ_1 => if w (rI μ_1 15513 0) < w (rI μ_1 15512 0) then (0 ≤ w (rI μ_1 15513 0) ∧ w (rI μ_1 15513 0) < ((300 : Nat) : Int) ∧ if w (rI μ_1 150 (w (rI μ_1 15513 0))) = w 32 then (∀ μ_2 : Mem, μ_2 = sI μ_1 15513 0 ((rI μ_1 15513 0) + 1) → (l_M_next_0 X_0_52 fu0) μ_2) else (0 ≤ w (rI μ_1 15513 0) ∧ w (rI μ_1 15513 0) < ((300 : Nat) : Int) ∧ if w (rI μ_1 150 (w (rI μ_1 15513 0))) = w 10 then (∀ μ_3 : Mem, μ_3 = sI μ_1 15513 0 ((rI μ_1 15513 0) + 1) → (l_M_next_0 X_0_52 fu0) μ_3) else (X_0_52 μ_1))) else (X_0_52 μ_1)
def l_M_next_109 (X_109_136 : Mem → Prop) : Nat → Mem → Prop
  | 0, _ => False
  | fu109 + 1, μ_8 => f_M_see (rI μ_8 15513 0) μ_8 (fun r114 μ_9 => if (v_M_isSmall r114) = true then (∀ μ_10 : Mem, μ_10 = sI μ_9 15513 0 ((rI μ_9 15513 0) + 1) → (l_M_next_109 X_109_136 fu109) μ_10) else (X_109_136 μ_9))
def l_M_next_159 (X_159_222 : Mem → Prop) : Nat → Mem → Prop
  | 0, _ => False
  | fu159 + 1, μ_14 => f_M_see (rI μ_14 15513 0) μ_14 (fun r164 μ_15 => if (v_M_isDigit r164) = true then (if w ((rI μ_15 15513 0) - (rI μ_15 15514 0)) < w 4 then (f_M_see (rI μ_15 15513 0) μ_15 (fun r199 μ_16 => ∀ μ_17 : Mem, μ_17 = sI μ_16 15516 0 (((10 * (rI μ_15 15516 0)) + r199) - 48) → ∀ μ_18 : Mem, μ_18 = sI μ_17 15513 0 ((rI μ_17 15513 0) + 1) → (l_M_next_159 X_159_222 fu159) μ_18)) else (∀ μ_19 : Mem, μ_19 = sI μ_15 15513 0 ((rI μ_15 15513 0) + 1) → (l_M_next_159 X_159_222 fu159) μ_19)) else (X_159_222 μ_15))
def f_M_next  (μ : Mem) (k : Mem → Prop) : Prop := ∃ m0 : Nat, l_M_next_0 (fun (μ_4 : Mem) => ∀ μ_5 : Mem, μ_5 = sI μ_4 15514 0 (rI μ_4 15513 0) → if w (rI μ_5 15513 0) < w (rI μ_5 15512 0) then (0 ≤ w (rI μ_5 15513 0) ∧ w (rI μ_5 15513 0) < ((300 : Nat) : Int) ∧ ∀ v1 : Int, v1 = rI μ_5 150 (w (rI μ_5 15513 0)) → ∀ μ_6 : Mem, μ_6 = sI μ_5 15513 0 ((rI μ_5 15513 0) + 1) → ∀ μ_7 : Mem, μ_7 = sI μ_6 15516 0 v1 → if (v_M_isSmall v1) = true then (∃ m109 : Nat, l_M_next_109 (fun (μ_11 : Mem) => ∀ μ_12 : Mem, μ_12 = sI μ_11 15515 0 3 → k μ_12) m109 μ_7) else (if (v_M_isDigit v1) = true then (∀ μ_13 : Mem, μ_13 = sI μ_7 15516 0 (v1 - 48) → ∃ m159 : Nat, l_M_next_159 (fun (μ_20 : Mem) => ∀ x241 : Int, x241 = (if w 4 < w ((rI μ_20 15513 0) - (rI μ_20 15514 0)) then 1 else 2) → ∀ μ_21 : Mem, μ_21 = sI μ_20 15515 0 x241 → k μ_21) m159 μ_13) else (∀ μ_22 : Mem, μ_22 = sI μ_7 15515 0 4 → k μ_22))) else (∀ μ_23 : Mem, μ_23 = sI μ_5 15515 0 0 → k μ_23)) m0 μ
theorem L_M_next_0 {l : Launch} {Γ : Gam} {g : Nat} {X_0_52 : Mem → Prop} {k : Mem → Prop} (hX_0_52 : ∀ (ν : Mem), StatR ν.2.2 → X_0_52 ν → SW l Γ yX12_next.cls cX12_next Y_M_next (pV k) g 175 0 0 ν 52 [(0, vr Γ 113)] []) (n9 : Nat) : ∀ (μ_1 : Mem), StatR μ_1.2.2 → l_M_next_0 X_0_52 n9 μ_1 → SW l Γ yX12_next.cls cX12_next Y_M_next (pV k) g 175 0 0 μ_1 0 [(0, vr Γ 113)] [] := by
  induction n9 with
  | zero =>
    intro μ_1 hs h
    exact h.elim
  | succ n9 hR_0 =>
    intro μ_1 hs h
    rw [l_M_next_0] at h
    refine z_rload_n dX12_next_0 rfl 0 rfl ?_
    refine z_getI (q := 15513) ff_12_49 dX12_next_1 kt_113 (Nat.le_of_ble_eq_true rfl) fl_X12_279 rfl ?_
    refine z_rload_n dX12_next_4 rfl 0 rfl ?_
    refine z_getI (q := 15512) ff_12_48 dX12_next_5 kt_113 (Nat.le_of_ble_eq_true rfl) fl_X12_276 rfl ?_
    refine z_icmp_ge (tgt := 52) dX12_next_8 (by decide) h (fun h => ?_) (fun h => ?_)
    · refine z_rload_n dX12_next_11 rfl 0 rfl ?_
      refine z_getR (q := 15511) ff_12_47 dX12_next_12 kt_113 (Nat.le_of_ble_eq_true rfl) fl_X12_132 rfl (hs.1 _ _ sr_15511) ?_
      refine z_rload_n dX12_next_15 rfl 0 rfl ?_
      refine z_getI (q := 15513) ff_12_49 dX12_next_16 kt_113 (Nat.le_of_ble_eq_true rfl) fl_X12_279 rfl ?_
      obtain ⟨h0, h1, h⟩ := h
      refine z_bald dX12_next_19 kt_150 (Nat.le_of_ble_eq_true rfl) h0 h1 ?_
      refine z_bipush dX12_next_20 (by decide) ?_
      refine z_icmp_eq (tgt := 39) dX12_next_22 (by decide) h (fun h => ?_) (fun h => ?_)
      · refine z_rload_n dX12_next_39 rfl 0 rfl ?_
        refine z_dup dX12_next_40 rfl ?_
        refine z_getI (q := 15513) ff_12_49 dX12_next_41 kt_113 (Nat.le_of_ble_eq_true rfl) fl_X12_279 rfl ?_
        refine z_iconst dX12_next_44 ?_
        refine z_iadd dX12_next_45 ?_
        refine z_putI (q := 15513) ff_12_49 (Or.inl rfl) rfl dX12_next_46 kt_113 (Nat.le_of_ble_eq_true rfl) fl_X12_279 rfl ?_
        refine z_mm (fun μ_2 eμ_2 => ?_)
        replace h := h μ_2 eμ_2
        replace hs : StatR μ_2.2.2 := by rw [eμ_2]; exact hs
        refine z_goto (tgt := 0) dX12_next_49 (by decide) ?_
        refine z_sub (lv' := [(0, vr Γ 113)]) [0] rfl ?_
        exact hR_0 μ_2 hs h
      · refine z_rload_n dX12_next_25 rfl 0 rfl ?_
        refine z_getR (q := 15511) ff_12_47 dX12_next_26 kt_113 (Nat.le_of_ble_eq_true rfl) fl_X12_132 rfl (hs.1 _ _ sr_15511) ?_
        refine z_rload_n dX12_next_29 rfl 0 rfl ?_
        refine z_getI (q := 15513) ff_12_49 dX12_next_30 kt_113 (Nat.le_of_ble_eq_true rfl) fl_X12_279 rfl ?_
        obtain ⟨h0, h1, h⟩ := h
        refine z_bald dX12_next_33 kt_150 (Nat.le_of_ble_eq_true rfl) h0 h1 ?_
        refine z_bipush dX12_next_34 (by decide) ?_
        refine z_icmp_ne (tgt := 52) dX12_next_36 (by decide) h (fun h => ?_) (fun h => ?_)
        · refine z_rload_n dX12_next_39 rfl 0 rfl ?_
          refine z_dup dX12_next_40 rfl ?_
          refine z_getI (q := 15513) ff_12_49 dX12_next_41 kt_113 (Nat.le_of_ble_eq_true rfl) fl_X12_279 rfl ?_
          refine z_iconst dX12_next_44 ?_
          refine z_iadd dX12_next_45 ?_
          refine z_putI (q := 15513) ff_12_49 (Or.inl rfl) rfl dX12_next_46 kt_113 (Nat.le_of_ble_eq_true rfl) fl_X12_279 rfl ?_
          refine z_mm (fun μ_3 eμ_3 => ?_)
          replace h := h μ_3 eμ_3
          replace hs : StatR μ_3.2.2 := by rw [eμ_3]; exact hs
          refine z_goto (tgt := 0) dX12_next_49 (by decide) ?_
          refine z_sub (lv' := [(0, vr Γ 113)]) [0] rfl ?_
          exact hR_0 μ_3 hs h
        · refine z_sub (lv' := [(0, vr Γ 113)]) [0] rfl ?_
          exact hX_0_52 μ_1 hs h
    · refine z_sub (lv' := [(0, vr Γ 113)]) [0] rfl ?_
      exact hX_0_52 μ_1 hs h
theorem L_M_next_109 {l : Launch} {Γ : Gam} {g : Nat} {X_109_136 : Mem → Prop} {k : Mem → Prop} (hX_109_136 : ∀ (ν : Mem), StatR ν.2.2 → X_109_136 ν → SW l Γ yX12_next.cls cX12_next Y_M_next (pV k) g 175 0 0 ν 136 [(0, vr Γ 113)] []) (n9 : Nat) : ∀ (μ_8 : Mem), StatR μ_8.2.2 → l_M_next_109 X_109_136 n9 μ_8 → SW l Γ yX12_next.cls cX12_next Y_M_next (pV k) g 175 0 0 μ_8 109 [(0, vr Γ 113)] [] := by
  induction n9 with
  | zero =>
    intro μ_8 hs h
    exact h.elim
  | succ n9 hR_109 =>
    intro μ_8 hs h
    rw [l_M_next_109] at h
    refine z_rload_n dX12_next_109 rfl 0 rfl ?_
    refine z_rload_n dX12_next_110 rfl 0 rfl ?_
    refine z_getI (q := 15513) ff_12_49 dX12_next_111 kt_113 (Nat.le_of_ble_eq_true rfl) fl_X12_279 rfl ?_
    refine z_VI (i_M_see  hs h) vk_X12_see kt_113 (Nat.le_of_ble_eq_true rfl) rfl ml_X12_294 ⟨Nat.le_of_ble_eq_true rfl, Nat.le_of_ble_eq_true rfl⟩ ⟨Nat.zero_le _, Nat.zero_le _⟩ rfl rfl (Nat.le_of_ble_eq_true rfl) dX12_next_114 (fun r114 μ_9 hs h => ?_)
    refine z_SE (i_M_isSmall ) sk_X12_isSmall ml_X12_291 ⟨Nat.le_of_ble_eq_true rfl, Nat.le_of_ble_eq_true rfl⟩ ⟨Nat.zero_le _, Nat.zero_le _⟩ rfl rfl (Nat.le_of_ble_eq_true rfl) dX12_next_117 ?_
    refine z_ifeq_b (tgt := 136) dX12_next_120 (by decide) h (fun h => ?_) (fun h => ?_)
    · refine z_rload_n dX12_next_123 rfl 0 rfl ?_
      refine z_dup dX12_next_124 rfl ?_
      refine z_getI (q := 15513) ff_12_49 dX12_next_125 kt_113 (Nat.le_of_ble_eq_true rfl) fl_X12_279 rfl ?_
      refine z_iconst dX12_next_128 ?_
      refine z_iadd dX12_next_129 ?_
      refine z_putI (q := 15513) ff_12_49 (Or.inl rfl) rfl dX12_next_130 kt_113 (Nat.le_of_ble_eq_true rfl) fl_X12_279 rfl ?_
      refine z_mm (fun μ_10 eμ_10 => ?_)
      replace h := h μ_10 eμ_10
      replace hs : StatR μ_10.2.2 := by rw [eμ_10]; exact hs
      refine z_goto (tgt := 109) dX12_next_133 (by decide) ?_
      refine z_sub (lv' := [(0, vr Γ 113)]) [0] rfl ?_
      exact hR_109 μ_10 hs h
    · refine z_sub (lv' := [(0, vr Γ 113)]) [0] rfl ?_
      exact hX_109_136 μ_9 hs h
theorem L_M_next_159 {l : Launch} {Γ : Gam} {g : Nat} {X_159_222 : Mem → Prop} {k : Mem → Prop} (hX_159_222 : ∀ (ν : Mem), StatR ν.2.2 → X_159_222 ν → SW l Γ yX12_next.cls cX12_next Y_M_next (pV k) g 175 0 0 ν 222 [(0, vr Γ 113)] []) (n9 : Nat) : ∀ (μ_14 : Mem), StatR μ_14.2.2 → l_M_next_159 X_159_222 n9 μ_14 → SW l Γ yX12_next.cls cX12_next Y_M_next (pV k) g 175 0 0 μ_14 159 [(0, vr Γ 113)] [] := by
  induction n9 with
  | zero =>
    intro μ_14 hs h
    exact h.elim
  | succ n9 hR_159 =>
    intro μ_14 hs h
    rw [l_M_next_159] at h
    refine z_rload_n dX12_next_159 rfl 0 rfl ?_
    refine z_rload_n dX12_next_160 rfl 0 rfl ?_
    refine z_getI (q := 15513) ff_12_49 dX12_next_161 kt_113 (Nat.le_of_ble_eq_true rfl) fl_X12_279 rfl ?_
    refine z_VI (i_M_see  hs h) vk_X12_see kt_113 (Nat.le_of_ble_eq_true rfl) rfl ml_X12_294 ⟨Nat.le_of_ble_eq_true rfl, Nat.le_of_ble_eq_true rfl⟩ ⟨Nat.zero_le _, Nat.zero_le _⟩ rfl rfl (Nat.le_of_ble_eq_true rfl) dX12_next_164 (fun r164 μ_15 hs h => ?_)
    refine z_SE (i_M_isDigit ) sk_X12_isDigit ml_X12_297 ⟨Nat.le_of_ble_eq_true rfl, Nat.le_of_ble_eq_true rfl⟩ ⟨Nat.zero_le _, Nat.zero_le _⟩ rfl rfl (Nat.le_of_ble_eq_true rfl) dX12_next_167 ?_
    refine z_ifeq_b (tgt := 222) dX12_next_170 (by decide) h (fun h => ?_) (fun h => ?_)
    · refine z_rload_n dX12_next_173 rfl 0 rfl ?_
      refine z_getI (q := 15513) ff_12_49 dX12_next_174 kt_113 (Nat.le_of_ble_eq_true rfl) fl_X12_279 rfl ?_
      refine z_rload_n dX12_next_177 rfl 0 rfl ?_
      refine z_getI (q := 15514) ff_12_50 dX12_next_178 kt_113 (Nat.le_of_ble_eq_true rfl) fl_X12_282 rfl ?_
      refine z_isub dX12_next_181 ?_
      refine z_iconst dX12_next_182 ?_
      refine z_icmp_ge (tgt := 209) dX12_next_183 (by decide) h (fun h => ?_) (fun h => ?_)
      · refine z_rload_n dX12_next_186 rfl 0 rfl ?_
        refine z_bipush dX12_next_187 (by decide) ?_
        refine z_rload_n dX12_next_189 rfl 0 rfl ?_
        refine z_getI (q := 15516) ff_12_52 dX12_next_190 kt_113 (Nat.le_of_ble_eq_true rfl) fl_X12_288 rfl ?_
        refine z_imul dX12_next_193 ?_
        refine z_rload_n dX12_next_194 rfl 0 rfl ?_
        refine z_rload_n dX12_next_195 rfl 0 rfl ?_
        refine z_getI (q := 15513) ff_12_49 dX12_next_196 kt_113 (Nat.le_of_ble_eq_true rfl) fl_X12_279 rfl ?_
        refine z_VI (i_M_see  hs h) vk_X12_see kt_113 (Nat.le_of_ble_eq_true rfl) rfl ml_X12_294 ⟨Nat.le_of_ble_eq_true rfl, Nat.le_of_ble_eq_true rfl⟩ ⟨Nat.zero_le _, Nat.zero_le _⟩ rfl rfl (Nat.le_of_ble_eq_true rfl) dX12_next_199 (fun r199 μ_16 hs h => ?_)
        refine z_iadd dX12_next_202 ?_
        refine z_bipush dX12_next_203 (by decide) ?_
        refine z_isub dX12_next_205 ?_
        refine z_putI (q := 15516) ff_12_52 (Or.inl rfl) rfl dX12_next_206 kt_113 (Nat.le_of_ble_eq_true rfl) fl_X12_288 rfl ?_
        refine z_mm (fun μ_17 eμ_17 => ?_)
        replace h := h μ_17 eμ_17
        replace hs : StatR μ_17.2.2 := by rw [eμ_17]; exact hs
        refine z_rload_n dX12_next_209 rfl 0 rfl ?_
        refine z_dup dX12_next_210 rfl ?_
        refine z_getI (q := 15513) ff_12_49 dX12_next_211 kt_113 (Nat.le_of_ble_eq_true rfl) fl_X12_279 rfl ?_
        refine z_iconst dX12_next_214 ?_
        refine z_iadd dX12_next_215 ?_
        refine z_putI (q := 15513) ff_12_49 (Or.inl rfl) rfl dX12_next_216 kt_113 (Nat.le_of_ble_eq_true rfl) fl_X12_279 rfl ?_
        refine z_mm (fun μ_18 eμ_18 => ?_)
        replace h := h μ_18 eμ_18
        replace hs : StatR μ_18.2.2 := by rw [eμ_18]; exact hs
        refine z_goto (tgt := 159) dX12_next_219 (by decide) ?_
        refine z_sub (lv' := [(0, vr Γ 113)]) [0] rfl ?_
        exact hR_159 μ_18 hs h
      · refine z_rload_n dX12_next_209 rfl 0 rfl ?_
        refine z_dup dX12_next_210 rfl ?_
        refine z_getI (q := 15513) ff_12_49 dX12_next_211 kt_113 (Nat.le_of_ble_eq_true rfl) fl_X12_279 rfl ?_
        refine z_iconst dX12_next_214 ?_
        refine z_iadd dX12_next_215 ?_
        refine z_putI (q := 15513) ff_12_49 (Or.inl rfl) rfl dX12_next_216 kt_113 (Nat.le_of_ble_eq_true rfl) fl_X12_279 rfl ?_
        refine z_mm (fun μ_19 eμ_19 => ?_)
        replace h := h μ_19 eμ_19
        replace hs : StatR μ_19.2.2 := by rw [eμ_19]; exact hs
        refine z_goto (tgt := 159) dX12_next_219 (by decide) ?_
        refine z_sub (lv' := [(0, vr Γ 113)]) [0] rfl ?_
        exact hR_159 μ_19 hs h
    · refine z_sub (lv' := [(0, vr Γ 113)]) [0] rfl ?_
      exact hX_159_222 μ_15 hs h
theorem i_M_next {l : Launch} {Γ : Gam} {g : Nat} {μ : Mem} {k : Mem → Prop} (hs : StatR μ.2.2) (h : f_M_next  μ k) : CT l Γ yX12_next cX12_next 2 none 1 21 0 0 [vr Γ 113] g 175 μ (pV k) := by
  refine SW.ct (by decide) (Nat.le_of_ble_eq_true rfl) ?_
  refine z_sub (lv' := [(0, vr Γ 113)]) [0] rfl ?_
  show SW l Γ yX12_next.cls cX12_next Y_M_next (pV k) g 175 0 0 μ 0 [(0, vr Γ 113)] []
  unfold f_M_next at h
  obtain ⟨m0, h⟩ := h
  refine z_sub (lv' := [(0, vr Γ 113)]) [0] rfl ?_
  refine L_M_next_0 (fun μ_4 hs h => ?_) m0 μ hs h
  refine z_rload_n dX12_next_52 rfl 0 rfl ?_
  refine z_rload_n dX12_next_53 rfl 0 rfl ?_
  refine z_getI (q := 15513) ff_12_49 dX12_next_54 kt_113 (Nat.le_of_ble_eq_true rfl) fl_X12_279 rfl ?_
  refine z_putI (q := 15514) ff_12_50 (Or.inl rfl) rfl dX12_next_57 kt_113 (Nat.le_of_ble_eq_true rfl) fl_X12_282 rfl ?_
  refine z_mm (fun μ_5 eμ_5 => ?_)
  replace h := h μ_5 eμ_5
  replace hs : StatR μ_5.2.2 := by rw [eμ_5]; exact hs
  refine z_rload_n dX12_next_60 rfl 0 rfl ?_
  refine z_getI (q := 15513) ff_12_49 dX12_next_61 kt_113 (Nat.le_of_ble_eq_true rfl) fl_X12_279 rfl ?_
  refine z_rload_n dX12_next_64 rfl 0 rfl ?_
  refine z_getI (q := 15512) ff_12_48 dX12_next_65 kt_113 (Nat.le_of_ble_eq_true rfl) fl_X12_276 rfl ?_
  refine z_icmp_lt (tgt := 77) dX12_next_68 (by decide) h (fun h => ?_) (fun h => ?_)
  · refine z_rload_n dX12_next_77 rfl 0 rfl ?_
    refine z_getR (q := 15511) ff_12_47 dX12_next_78 kt_113 (Nat.le_of_ble_eq_true rfl) fl_X12_132 rfl (hs.1 _ _ sr_15511) ?_
    refine z_rload_n dX12_next_81 rfl 0 rfl ?_
    refine z_getI (q := 15513) ff_12_49 dX12_next_82 kt_113 (Nat.le_of_ble_eq_true rfl) fl_X12_279 rfl ?_
    obtain ⟨h0, h1, h⟩ := h
    refine z_bald dX12_next_85 kt_150 (Nat.le_of_ble_eq_true rfl) h0 h1 ?_
    refine z_nm (fun v1 ev1 => ?_)
    replace h := h v1 ev1
    refine z_istore_n (lv' := [(1, vi v1), (0, vr Γ 113)]) dX12_next_86 rfl (Nat.le_of_ble_eq_true rfl) rfl ?_
    refine z_rload_n dX12_next_87 rfl 1 rfl ?_
    refine z_dup dX12_next_88 rfl ?_
    refine z_getI (q := 15513) ff_12_49 dX12_next_89 kt_113 (Nat.le_of_ble_eq_true rfl) fl_X12_279 rfl ?_
    refine z_iconst dX12_next_92 ?_
    refine z_iadd dX12_next_93 ?_
    refine z_putI (q := 15513) ff_12_49 (Or.inl rfl) rfl dX12_next_94 kt_113 (Nat.le_of_ble_eq_true rfl) fl_X12_279 rfl ?_
    refine z_mm (fun μ_6 eμ_6 => ?_)
    replace h := h μ_6 eμ_6
    replace hs : StatR μ_6.2.2 := by rw [eμ_6]; exact hs
    refine z_rload_n dX12_next_97 rfl 1 rfl ?_
    refine z_iload_n dX12_next_98 rfl 0 rfl ?_
    refine z_putI (q := 15516) ff_12_52 (Or.inl rfl) rfl dX12_next_99 kt_113 (Nat.le_of_ble_eq_true rfl) fl_X12_288 rfl ?_
    refine z_mm (fun μ_7 eμ_7 => ?_)
    replace h := h μ_7 eμ_7
    replace hs : StatR μ_7.2.2 := by rw [eμ_7]; exact hs
    refine z_iload_n dX12_next_102 rfl 0 rfl ?_
    refine z_SE (i_M_isSmall ) sk_X12_isSmall ml_X12_291 ⟨Nat.le_of_ble_eq_true rfl, Nat.le_of_ble_eq_true rfl⟩ ⟨Nat.zero_le _, Nat.zero_le _⟩ rfl rfl (Nat.le_of_ble_eq_true rfl) dX12_next_103 ?_
    refine z_ifeq_b (tgt := 144) dX12_next_106 (by decide) h (fun h => ?_) (fun h => ?_)
    · obtain ⟨m109, h⟩ := h
      refine z_sub (lv' := [(0, vr Γ 113)]) [1] rfl ?_
      refine L_M_next_109 (fun μ_11 hs h => ?_) m109 μ_7 hs h
      refine z_rload_n dX12_next_136 rfl 0 rfl ?_
      refine z_iconst dX12_next_137 ?_
      refine z_putI (q := 15515) ff_12_51 (Or.inl rfl) rfl dX12_next_138 kt_113 (Nat.le_of_ble_eq_true rfl) fl_X12_285 rfl ?_
      refine z_mm (fun μ_12 eμ_12 => ?_)
      replace h := h μ_12 eμ_12
      replace hs : StatR μ_12.2.2 := by rw [eμ_12]; exact hs
      refine z_goto (tgt := 252) dX12_next_141 (by decide) ?_
      exact z_vret rfl dX12_next_252 rfl rfl rfl ⟨rfl, hs, h⟩
    · refine z_iload_n dX12_next_144 rfl 0 rfl ?_
      refine z_SE (i_M_isDigit ) sk_X12_isDigit ml_X12_297 ⟨Nat.le_of_ble_eq_true rfl, Nat.le_of_ble_eq_true rfl⟩ ⟨Nat.zero_le _, Nat.zero_le _⟩ rfl rfl (Nat.le_of_ble_eq_true rfl) dX12_next_145 ?_
      refine z_ifeq_b (tgt := 247) dX12_next_148 (by decide) h (fun h => ?_) (fun h => ?_)
      · refine z_rload_n dX12_next_151 rfl 1 rfl ?_
        refine z_iload_n dX12_next_152 rfl 0 rfl ?_
        refine z_bipush dX12_next_153 (by decide) ?_
        refine z_isub dX12_next_155 ?_
        refine z_putI (q := 15516) ff_12_52 (Or.inl rfl) rfl dX12_next_156 kt_113 (Nat.le_of_ble_eq_true rfl) fl_X12_288 rfl ?_
        refine z_mm (fun μ_13 eμ_13 => ?_)
        replace h := h μ_13 eμ_13
        replace hs : StatR μ_13.2.2 := by rw [eμ_13]; exact hs
        obtain ⟨m159, h⟩ := h
        refine z_sub (lv' := [(0, vr Γ 113)]) [1] rfl ?_
        refine L_M_next_159 (fun μ_20 hs h => ?_) m159 μ_13 hs h
        refine z_rload_n dX12_next_222 rfl 0 rfl ?_
        refine z_rload_n dX12_next_223 rfl 0 rfl ?_
        refine z_getI (q := 15513) ff_12_49 dX12_next_224 kt_113 (Nat.le_of_ble_eq_true rfl) fl_X12_279 rfl ?_
        refine z_rload_n dX12_next_227 rfl 0 rfl ?_
        refine z_getI (q := 15514) ff_12_50 dX12_next_228 kt_113 (Nat.le_of_ble_eq_true rfl) fl_X12_282 rfl ?_
        refine z_isub dX12_next_231 ?_
        refine z_iconst dX12_next_232 ?_
        refine z_phi 241 [vr Γ 113] (fun V9 hv J9 => ?_) h (fun x241 h => ?_)
        · refine z_icmp_le (tgt := 240) dX12_next_233 (by decide) (eq_ite hv) (fun hv => ?_) (fun hv => ?_)
          · refine z_iconst dX12_next_236 ?_
            refine z_goto (tgt := 241) dX12_next_237 (by decide) ?_
            exact J9 _ hv.symm
          · refine z_iconst dX12_next_240 ?_
            exact J9 _ hv.symm
        · refine z_putI (q := 15515) ff_12_51 (Or.inl rfl) rfl dX12_next_241 kt_113 (Nat.le_of_ble_eq_true rfl) fl_X12_285 rfl ?_
          refine z_mm (fun μ_21 eμ_21 => ?_)
          replace h := h μ_21 eμ_21
          replace hs : StatR μ_21.2.2 := by rw [eμ_21]; exact hs
          refine z_goto (tgt := 252) dX12_next_244 (by decide) ?_
          exact z_vret rfl dX12_next_252 rfl rfl rfl ⟨rfl, hs, h⟩
      · refine z_rload_n dX12_next_247 rfl 1 rfl ?_
        refine z_iconst dX12_next_248 ?_
        refine z_putI (q := 15515) ff_12_51 (Or.inl rfl) rfl dX12_next_249 kt_113 (Nat.le_of_ble_eq_true rfl) fl_X12_285 rfl ?_
        refine z_mm (fun μ_22 eμ_22 => ?_)
        replace h := h μ_22 eμ_22
        replace hs : StatR μ_22.2.2 := by rw [eμ_22]; exact hs
        exact z_vret rfl dX12_next_252 rfl rfl rfl ⟨rfl, hs, h⟩
  · refine z_rload_n dX12_next_71 rfl 0 rfl ?_
    refine z_iconst dX12_next_72 ?_
    refine z_putI (q := 15515) ff_12_51 (Or.inl rfl) rfl dX12_next_73 kt_113 (Nat.le_of_ble_eq_true rfl) fl_X12_285 rfl ?_
    refine z_mm (fun μ_23 eμ_23 => ?_)
    replace h := h μ_23 eμ_23
    replace hs : StatR μ_23.2.2 := by rw [eμ_23]; exact hs
    exact z_vret rfl dX12_next_76 rfl rfl rfl ⟨rfl, hs, h⟩
abbrev Y_M_isWord : Yt := (3, (some .boolean), yX12_isWord.name, { frames := 5, cells := 0, slots := 0, locals := 121 }, 175, 0, 0)
def l_M_isWord_28 (a1 : Nat) (μ : Mem) (k : Bool → Mem → Prop) : Nat → Int → Prop
  | 0, _ => False
  | fu28 + 1, v2 => if w v2 < w ((sLen a1 : Nat) : Int) then (0 ≤ w ((rI μ 15514 0) + v2) ∧ w ((rI μ 15514 0) + v2) < ((300 : Nat) : Int) ∧ 0 ≤ w v2 ∧ w v2 < ((sLen a1 : Nat) : Int) ∧ if w (rI μ 150 (w ((rI μ 15514 0) + v2))) = w (sChr a1 (w v2)) then ((l_M_isWord_28 a1 μ k fu28) (v2 + 1)) else (k false μ)) else (k true μ)
def f_M_isWord (a1 : Nat) (μ : Mem) (k : Bool → Mem → Prop) : Prop := if w (rI μ 15515 0) = w 3 then (if w ((rI μ 15513 0) - (rI μ 15514 0)) = w ((sLen a1 : Nat) : Int) then (∃ m28 : Nat, l_M_isWord_28 a1 μ k m28 0) else (k false μ)) else (k false μ)
theorem L_M_isWord_28 {l : Launch} {Γ : Gam} {g : Nat} {a1 : Nat} {μ : Mem} {k : Bool → Mem → Prop} (hq_a1 : a1 < 30) (hs : StatR μ.2.2) (n9 : Nat) : ∀ (v2 : Int), l_M_isWord_28 a1 μ k n9 v2 → SW l Γ yX12_isWord.cls cX12_isWord Y_M_isWord (pB k) g 175 0 0 μ 28 [(0, vr Γ 113), (1, .ref (Γ.2.2.2.2.1 a1)), (2, vi v2)] [] := by
  induction n9 with
  | zero =>
    intro v2 h
    exact h.elim
  | succ n9 hR_28 =>
    intro v2 h
    rw [l_M_isWord_28] at h
    refine z_iload_n dX12_isWord_28 rfl 2 rfl ?_
    refine z_aload_n dX12_isWord_29 rfl 1 rfl ?_
    refine z_strLen dX12_isWord_30 hq_a1 vk_J0_length_8abf5 ml_X12_300 ⟨Nat.le_of_ble_eq_true rfl, Nat.le_of_ble_eq_true rfl⟩ ⟨Nat.zero_le _, Nat.zero_le _⟩ (Nat.le_of_ble_eq_true rfl) ?_
    refine z_icmp_ge (tgt := 63) dX12_isWord_33 (by decide) h (fun h => ?_) (fun h => ?_)
    · refine z_rload_n dX12_isWord_36 rfl 0 rfl ?_
      refine z_getR (q := 15511) ff_12_47 dX12_isWord_37 kt_113 (Nat.le_of_ble_eq_true rfl) fl_X12_132 rfl (hs.1 _ _ sr_15511) ?_
      refine z_rload_n dX12_isWord_40 rfl 0 rfl ?_
      refine z_getI (q := 15514) ff_12_50 dX12_isWord_41 kt_113 (Nat.le_of_ble_eq_true rfl) fl_X12_282 rfl ?_
      refine z_iload_n dX12_isWord_44 rfl 2 rfl ?_
      refine z_iadd dX12_isWord_45 ?_
      obtain ⟨h0, h1, h⟩ := h
      refine z_bald dX12_isWord_46 kt_150 (Nat.le_of_ble_eq_true rfl) h0 h1 ?_
      refine z_aload_n dX12_isWord_47 rfl 1 rfl ?_
      refine z_iload_n dX12_isWord_48 rfl 2 rfl ?_
      obtain ⟨h0, h1, h⟩ := h
      refine z_strChr dX12_isWord_49 hq_a1 h0 h1 vk_J0_charAt_5068e ml_X12_306 ⟨Nat.le_of_ble_eq_true rfl, Nat.le_of_ble_eq_true rfl⟩ ⟨Nat.zero_le _, Nat.zero_le _⟩ (Nat.le_of_ble_eq_true rfl) ?_
      refine z_icmp_eq (tgt := 57) dX12_isWord_52 (by decide) h (fun h => ?_) (fun h => ?_)
      · refine z_iinc (j := 2) (lv' := [(2, vi (v2 + 1)), (0, vr Γ 113), (1, .ref (Γ.2.2.2.2.1 a1))]) dX12_isWord_57 rfl (Nat.le_of_ble_eq_true rfl) rfl ?_
        refine z_goto (tgt := 28) dX12_isWord_60 (by decide) ?_
        refine z_sub (lv' := [(0, vr Γ 113), (1, .ref (Γ.2.2.2.2.1 a1)), (2, vi (v2 + 1))]) [1, 2, 0] rfl ?_
        exact hR_28 (v2 + 1) h
      · refine z_iconst dX12_isWord_55 ?_
        exact z_zret (b := false) rfl dX12_isWord_56 rfl rfl rfl ⟨_, rfl, hs, h⟩
    · refine z_iconst dX12_isWord_63 ?_
      exact z_zret (b := true) rfl dX12_isWord_64 rfl rfl rfl ⟨_, rfl, hs, h⟩
theorem i_M_isWord {l : Launch} {Γ : Gam} {g : Nat} {a1 : Nat} {μ : Mem} {k : Bool → Mem → Prop} (hq_a1 : a1 < 30) (hs : StatR μ.2.2) (h : f_M_isWord a1 μ k) : CT l Γ yX12_isWord cX12_isWord 3 (some .boolean) 5 121 0 0 [vr Γ 113, .ref (Γ.2.2.2.2.1 a1)] g 175 μ (pB k) := by
  refine SW.ct (by decide) (Nat.le_of_ble_eq_true rfl) ?_
  refine z_sub (lv' := [(0, vr Γ 113), (1, .ref (Γ.2.2.2.2.1 a1))]) [0, 1] rfl ?_
  show SW l Γ yX12_isWord.cls cX12_isWord Y_M_isWord (pB k) g 175 0 0 μ 0 [(0, vr Γ 113), (1, .ref (Γ.2.2.2.2.1 a1))] []
  unfold f_M_isWord at h
  refine z_rload_n dX12_isWord_0 rfl 0 rfl ?_
  refine z_getI (q := 15515) ff_12_51 dX12_isWord_1 kt_113 (Nat.le_of_ble_eq_true rfl) fl_X12_285 rfl ?_
  refine z_iconst dX12_isWord_4 ?_
  refine z_icmp_ne (tgt := 24) dX12_isWord_5 (by decide) h (fun h => ?_) (fun h => ?_)
  · refine z_rload_n dX12_isWord_8 rfl 0 rfl ?_
    refine z_getI (q := 15513) ff_12_49 dX12_isWord_9 kt_113 (Nat.le_of_ble_eq_true rfl) fl_X12_279 rfl ?_
    refine z_rload_n dX12_isWord_12 rfl 0 rfl ?_
    refine z_getI (q := 15514) ff_12_50 dX12_isWord_13 kt_113 (Nat.le_of_ble_eq_true rfl) fl_X12_282 rfl ?_
    refine z_isub dX12_isWord_16 ?_
    refine z_aload_n dX12_isWord_17 rfl 1 rfl ?_
    refine z_strLen dX12_isWord_18 hq_a1 vk_J0_length_8abf5 ml_X12_300 ⟨Nat.le_of_ble_eq_true rfl, Nat.le_of_ble_eq_true rfl⟩ ⟨Nat.zero_le _, Nat.zero_le _⟩ (Nat.le_of_ble_eq_true rfl) ?_
    refine z_icmp_eq (tgt := 26) dX12_isWord_21 (by decide) h (fun h => ?_) (fun h => ?_)
    · refine z_iconst dX12_isWord_26 ?_
      refine z_istore_n (lv' := [(2, vi 0), (0, vr Γ 113), (1, .ref (Γ.2.2.2.2.1 a1))]) dX12_isWord_27 rfl (Nat.le_of_ble_eq_true rfl) rfl ?_
      obtain ⟨m28, h⟩ := h
      refine z_sub (lv' := [(0, vr Γ 113), (1, .ref (Γ.2.2.2.2.1 a1)), (2, vi 0)]) [1, 2, 0] rfl ?_
      refine L_M_isWord_28 hq_a1 hs  m28 0 h
    · refine z_iconst dX12_isWord_24 ?_
      exact z_zret (b := false) rfl dX12_isWord_25 rfl rfl rfl ⟨_, rfl, hs, h⟩
  · refine z_iconst dX12_isWord_24 ?_
    exact z_zret (b := false) rfl dX12_isWord_25 rfl rfl rfl ⟨_, rfl, hs, h⟩
def v_M_isSign (a1 : Int) (μ : Mem) : Bool := if w (rI μ 15515 0) = w 4 then (if w (rI μ 15516 0) = w a1 then true else false) else false
theorem i_M_isSign {l : Launch} {Γ : Gam} {g : Nat} {μ : Mem} {a1 : Int} : CT l Γ yX12_isSign cX12_isSign 2 (some .boolean) 0 0 0 0 [vr Γ 113, vi a1] g 175 μ (pE (vi (b2i (v_M_isSign a1 μ))) μ) := by
  refine SW.ct (by decide) (Nat.le_of_ble_eq_true rfl) ?_
  refine z_sub (lv' := [(0, vr Γ 113), (1, vi a1)]) [0, 1] rfl ?_
  have hv : v_M_isSign a1 μ = v_M_isSign a1 μ := rfl
  refine z_rload_n dX12_isSign_0 rfl 0 rfl ?_
  refine z_getI (q := 15515) ff_12_51 dX12_isSign_1 kt_113 (Nat.le_of_ble_eq_true rfl) fl_X12_285 rfl ?_
  refine z_iconst dX12_isSign_4 ?_
  refine z_icmp_ne (tgt := 20) dX12_isSign_5 (by decide) (eq_ite hv) (fun hv => ?_) (fun hv => ?_)
  · refine z_rload_n dX12_isSign_8 rfl 0 rfl ?_
    refine z_getI (q := 15516) ff_12_52 dX12_isSign_9 kt_113 (Nat.le_of_ble_eq_true rfl) fl_X12_288 rfl ?_
    refine z_iload_n dX12_isSign_12 rfl 1 rfl ?_
    refine z_icmp_ne (tgt := 20) dX12_isSign_13 (by decide) (eq_ite hv) (fun hv => ?_) (fun hv => ?_)
    · refine z_iconst dX12_isSign_16 ?_
      refine z_goto (tgt := 21) dX12_isSign_17 (by decide) ?_
      exact z_zret (b := true) rfl dX12_isSign_21 rfl rfl rfl ⟨by first | (rw [hv]; done) | rfl, rfl⟩
    · refine z_iconst dX12_isSign_20 ?_
      exact z_zret (b := false) rfl dX12_isSign_21 rfl rfl rfl ⟨by first | (rw [hv]; done) | rfl, rfl⟩
  · refine z_iconst dX12_isSign_20 ?_
    exact z_zret (b := false) rfl dX12_isSign_21 rfl rfl rfl ⟨by first | (rw [hv]; done) | rfl, rfl⟩
abbrev Y_M_fails : Yt := (2, none, yX12_fails.name, { frames := 0, cells := 0, slots := 0, locals := 0 }, 175, 0, 0)
def f_M_fails (a1 : Int) (μ : Mem) (k : Mem → Prop) : Prop := if w (rI μ 15517 0) = 0 then (∀ μ_1 : Mem, μ_1 = sI μ 15517 0 a1 → ∀ μ_2 : Mem, μ_2 = sI μ_1 15518 0 (rI μ_1 15514 0) → k μ_2) else (k μ)
theorem i_M_fails {l : Launch} {Γ : Gam} {g : Nat} {a1 : Int} {μ : Mem} {k : Mem → Prop} (hs : StatR μ.2.2) (h : f_M_fails a1 μ k) : CT l Γ yX12_fails cX12_fails 2 none 0 0 0 0 [vr Γ 113, vi a1] g 175 μ (pV k) := by
  refine SW.ct (by decide) (Nat.le_of_ble_eq_true rfl) ?_
  refine z_sub (lv' := [(0, vr Γ 113), (1, vi a1)]) [0, 1] rfl ?_
  show SW l Γ yX12_fails.cls cX12_fails Y_M_fails (pV k) g 175 0 0 μ 0 [(0, vr Γ 113), (1, vi a1)] []
  unfold f_M_fails at h
  refine z_rload_n dX12_fails_0 rfl 0 rfl ?_
  refine z_getI (q := 15517) ff_12_53 dX12_fails_1 kt_113 (Nat.le_of_ble_eq_true rfl) fl_X12_310 rfl ?_
  refine z_if_eq (tgt := 8) dX12_fails_4 (by decide) h (fun h => ?_) (fun h => ?_)
  · refine z_rload_n dX12_fails_8 rfl 0 rfl ?_
    refine z_iload_n dX12_fails_9 rfl 1 rfl ?_
    refine z_putI (q := 15517) ff_12_53 (Or.inl rfl) rfl dX12_fails_10 kt_113 (Nat.le_of_ble_eq_true rfl) fl_X12_310 rfl ?_
    refine z_mm (fun μ_1 eμ_1 => ?_)
    replace h := h μ_1 eμ_1
    replace hs : StatR μ_1.2.2 := by rw [eμ_1]; exact hs
    refine z_rload_n dX12_fails_13 rfl 0 rfl ?_
    refine z_rload_n dX12_fails_14 rfl 0 rfl ?_
    refine z_getI (q := 15514) ff_12_50 dX12_fails_15 kt_113 (Nat.le_of_ble_eq_true rfl) fl_X12_282 rfl ?_
    refine z_putI (q := 15518) ff_12_54 (Or.inl rfl) rfl dX12_fails_18 kt_113 (Nat.le_of_ble_eq_true rfl) fl_X12_313 rfl ?_
    refine z_mm (fun μ_2 eμ_2 => ?_)
    replace h := h μ_2 eμ_2
    replace hs : StatR μ_2.2.2 := by rw [eμ_2]; exact hs
    exact z_vret rfl dX12_fails_21 rfl rfl rfl ⟨rfl, hs, h⟩
  · exact z_vret rfl dX12_fails_7 rfl rfl rfl ⟨rfl, hs, h⟩
def v_M_isWell  (μ : Mem) : Bool := if w (rI μ 15517 0) = 0 then true else false
theorem i_M_isWell {l : Launch} {Γ : Gam} {g : Nat} {μ : Mem} : CT l Γ yX12_isWell cX12_isWell 1 (some .boolean) 0 0 0 0 [vr Γ 113] g 175 μ (pE (vi (b2i (v_M_isWell μ))) μ) := by
  refine SW.ct (by decide) (Nat.le_of_ble_eq_true rfl) ?_
  refine z_sub (lv' := [(0, vr Γ 113)]) [0] rfl ?_
  have hv : v_M_isWell μ = v_M_isWell μ := rfl
  refine z_rload_n dX12_isWell_0 rfl 0 rfl ?_
  refine z_getI (q := 15517) ff_12_53 dX12_isWell_1 kt_113 (Nat.le_of_ble_eq_true rfl) fl_X12_310 rfl ?_
  refine z_if_ne (tgt := 11) dX12_isWell_4 (by decide) (eq_ite hv) (fun hv => ?_) (fun hv => ?_)
  · refine z_iconst dX12_isWell_7 ?_
    refine z_goto (tgt := 12) dX12_isWell_8 (by decide) ?_
    exact z_zret (b := true) rfl dX12_isWell_12 rfl rfl rfl ⟨by first | (rw [hv]; done) | rfl, rfl⟩
  · refine z_iconst dX12_isWell_11 ?_
    exact z_zret (b := false) rfl dX12_isWell_12 rfl rfl rfl ⟨by first | (rw [hv]; done) | rfl, rfl⟩
abbrev Y_M_wantSign : Yt := (2, none, yX12_wantSign.name, { frames := 2, cells := 0, slots := 0, locals := 42 }, 175, 0, 0)
def f_M_wantSign (a1 : Int) (μ : Mem) (k : Mem → Prop) : Prop := if (v_M_isWell μ) = true then (if (v_M_isSign a1 μ) = true then (f_M_next  μ (fun μ_1 => k μ_1)) else (f_M_fails 1 μ (fun μ_2 => k μ_2))) else (k μ)
theorem i_M_wantSign {l : Launch} {Γ : Gam} {g : Nat} {a1 : Int} {μ : Mem} {k : Mem → Prop} (hs : StatR μ.2.2) (h : f_M_wantSign a1 μ k) : CT l Γ yX12_wantSign cX12_wantSign 2 none 2 42 0 0 [vr Γ 113, vi a1] g 175 μ (pV k) := by
  refine SW.ct (by decide) (Nat.le_of_ble_eq_true rfl) ?_
  refine z_sub (lv' := [(0, vr Γ 113), (1, vi a1)]) [0, 1] rfl ?_
  show SW l Γ yX12_wantSign.cls cX12_wantSign Y_M_wantSign (pV k) g 175 0 0 μ 0 [(0, vr Γ 113), (1, vi a1)] []
  unfold f_M_wantSign at h
  refine z_rload_n dX12_wantSign_0 rfl 0 rfl ?_
  refine z_VE (i_M_isWell ) vk_X12_isWell kt_113 (Nat.le_of_ble_eq_true rfl) rfl ml_X12_316 ⟨Nat.le_of_ble_eq_true rfl, Nat.le_of_ble_eq_true rfl⟩ ⟨Nat.zero_le _, Nat.zero_le _⟩ rfl rfl (Nat.le_of_ble_eq_true rfl) dX12_wantSign_1 ?_
  refine z_ifne_b (tgt := 8) dX12_wantSign_4 (by decide) h (fun h => ?_) (fun h => ?_)
  · refine z_rload_n dX12_wantSign_8 rfl 0 rfl ?_
    refine z_iload_n dX12_wantSign_9 rfl 1 rfl ?_
    refine z_VE (i_M_isSign ) vk_X12_isSign kt_113 (Nat.le_of_ble_eq_true rfl) rfl ml_X12_319 ⟨Nat.le_of_ble_eq_true rfl, Nat.le_of_ble_eq_true rfl⟩ ⟨Nat.zero_le _, Nat.zero_le _⟩ rfl rfl (Nat.le_of_ble_eq_true rfl) dX12_wantSign_10 ?_
    refine z_ifeq_b (tgt := 23) dX12_wantSign_13 (by decide) h (fun h => ?_) (fun h => ?_)
    · refine z_rload_n dX12_wantSign_16 rfl 0 rfl ?_
      refine z_VU (i_M_next  hs h) vk_X12_next kt_113 (Nat.le_of_ble_eq_true rfl) rfl ml_X12_322 ⟨Nat.le_of_ble_eq_true rfl, Nat.le_of_ble_eq_true rfl⟩ ⟨Nat.zero_le _, Nat.zero_le _⟩ rfl rfl (Nat.le_of_ble_eq_true rfl) dX12_wantSign_17 (fun μ_1 hs h => ?_)
      refine z_goto (tgt := 28) dX12_wantSign_20 (by decide) ?_
      exact z_vret rfl dX12_wantSign_28 rfl rfl rfl ⟨rfl, hs, h⟩
    · refine z_rload_n dX12_wantSign_23 rfl 0 rfl ?_
      refine z_iconst dX12_wantSign_24 ?_
      refine z_VU (i_M_fails  hs h) vk_X12_fails kt_113 (Nat.le_of_ble_eq_true rfl) rfl ml_X12_325 ⟨Nat.le_of_ble_eq_true rfl, Nat.le_of_ble_eq_true rfl⟩ ⟨Nat.zero_le _, Nat.zero_le _⟩ rfl rfl (Nat.le_of_ble_eq_true rfl) dX12_wantSign_25 (fun μ_2 hs h => ?_)
      exact z_vret rfl dX12_wantSign_28 rfl rfl rfl ⟨rfl, hs, h⟩
  · exact z_vret rfl dX12_wantSign_7 rfl rfl rfl ⟨rfl, hs, h⟩
abbrev Y_M_wantWord : Yt := (2, none, yX12_wantWord.name, { frames := 6, cells := 0, slots := 0, locals := 143 }, 175, 0, 0)
def f_M_wantWord (a1 : Nat) (μ : Mem) (k : Mem → Prop) : Prop := if (v_M_isWell μ) = true then (f_M_isWord a1 μ (fun r10 μ_1 => if r10 = true then (f_M_next  μ_1 (fun μ_2 => k μ_2)) else (f_M_fails 1 μ_1 (fun μ_3 => k μ_3)))) else (k μ)
theorem i_M_wantWord {l : Launch} {Γ : Gam} {g : Nat} {a1 : Nat} {μ : Mem} {k : Mem → Prop} (hq_a1 : a1 < 30) (hs : StatR μ.2.2) (h : f_M_wantWord a1 μ k) : CT l Γ yX12_wantWord cX12_wantWord 2 none 6 143 0 0 [vr Γ 113, .ref (Γ.2.2.2.2.1 a1)] g 175 μ (pV k) := by
  refine SW.ct (by decide) (Nat.le_of_ble_eq_true rfl) ?_
  refine z_sub (lv' := [(0, vr Γ 113), (1, .ref (Γ.2.2.2.2.1 a1))]) [0, 1] rfl ?_
  show SW l Γ yX12_wantWord.cls cX12_wantWord Y_M_wantWord (pV k) g 175 0 0 μ 0 [(0, vr Γ 113), (1, .ref (Γ.2.2.2.2.1 a1))] []
  unfold f_M_wantWord at h
  refine z_rload_n dX12_wantWord_0 rfl 0 rfl ?_
  refine z_VE (i_M_isWell ) vk_X12_isWell kt_113 (Nat.le_of_ble_eq_true rfl) rfl ml_X12_316 ⟨Nat.le_of_ble_eq_true rfl, Nat.le_of_ble_eq_true rfl⟩ ⟨Nat.zero_le _, Nat.zero_le _⟩ rfl rfl (Nat.le_of_ble_eq_true rfl) dX12_wantWord_1 ?_
  refine z_ifne_b (tgt := 8) dX12_wantWord_4 (by decide) h (fun h => ?_) (fun h => ?_)
  · refine z_rload_n dX12_wantWord_8 rfl 0 rfl ?_
    refine z_aload_n dX12_wantWord_9 rfl 1 rfl ?_
    refine z_VB (i_M_isWord hq_a1 hs h) vk_X12_isWord kt_113 (Nat.le_of_ble_eq_true rfl) rfl ml_X12_329 ⟨Nat.le_of_ble_eq_true rfl, Nat.le_of_ble_eq_true rfl⟩ ⟨Nat.zero_le _, Nat.zero_le _⟩ rfl rfl (Nat.le_of_ble_eq_true rfl) dX12_wantWord_10 (fun r10 μ_1 hs h => ?_)
    refine z_ifeq_b (tgt := 23) dX12_wantWord_13 (by decide) h (fun h => ?_) (fun h => ?_)
    · refine z_rload_n dX12_wantWord_16 rfl 0 rfl ?_
      refine z_VU (i_M_next  hs h) vk_X12_next kt_113 (Nat.le_of_ble_eq_true rfl) rfl ml_X12_322 ⟨Nat.le_of_ble_eq_true rfl, Nat.le_of_ble_eq_true rfl⟩ ⟨Nat.zero_le _, Nat.zero_le _⟩ rfl rfl (Nat.le_of_ble_eq_true rfl) dX12_wantWord_17 (fun μ_2 hs h => ?_)
      refine z_goto (tgt := 28) dX12_wantWord_20 (by decide) ?_
      exact z_vret rfl dX12_wantWord_28 rfl rfl rfl ⟨rfl, hs, h⟩
    · refine z_rload_n dX12_wantWord_23 rfl 0 rfl ?_
      refine z_iconst dX12_wantWord_24 ?_
      refine z_VU (i_M_fails  hs h) vk_X12_fails kt_113 (Nat.le_of_ble_eq_true rfl) rfl ml_X12_325 ⟨Nat.le_of_ble_eq_true rfl, Nat.le_of_ble_eq_true rfl⟩ ⟨Nat.zero_le _, Nat.zero_le _⟩ rfl rfl (Nat.le_of_ble_eq_true rfl) dX12_wantWord_25 (fun μ_3 hs h => ?_)
      exact z_vret rfl dX12_wantWord_28 rfl rfl rfl ⟨rfl, hs, h⟩
  · exact z_vret rfl dX12_wantWord_7 rfl rfl rfl ⟨rfl, hs, h⟩
