abbrev Y_M_best : Yt := (7, (some .int), yX12_best.name, { frames := 7, cells := 0, slots := 0, locals := 172 }, 175, 0, 0)
def l_M_best_50 (a2 : Int) (a3 : Int) (X_50_74 : Mem → Prop) : Nat → Int → Mem → Prop
  | 0, _, _ => False
  | fu50 + 1, v4, μ_5 => if w v4 < w (rI μ_5 15545 0) then (0 ≤ w v4 ∧ w v4 < ((6 : Nat) : Int) ∧ ∀ μ_6 : Mem, μ_6 = sI μ_5 167 (w v4) v4 → (l_M_best_50 a2 a3 X_50_74 fu50) (v4 + 1) μ_6) else (X_50_74 μ_5)
def l_M_best_82 (a2 : Int) (a3 : Int) (X_82_126 : Int → Mem → Prop) : Nat → Int → Bool → Mem → Prop
  | 0, _, _, _ => False
  | fu82 + 1, v4_1, v5, μ_8 => if v5 = true then (f_M_worthOf a2 μ_8 (fun r89 μ_9 => if w v4_1 < w r89 then (f_M_copies 167 6 168 6 μ_9 (fun μ_10 => f_M_goesOn  μ_10 (fun r118 μ_11 => (l_M_best_82 a2 a3 X_82_126 fu82) r89 r118 μ_11))) else (f_M_goesOn  μ_9 (fun r118_1 μ_12 => (l_M_best_82 a2 a3 X_82_126 fu82) v4_1 r118_1 μ_12)))) else (X_82_126 v4_1 μ_8)
def f_M_best (a1 : Int) (a2 : Int) (a3 : Int) (μ : Mem) (k : Int → Mem → Prop) : Prop := ∀ μ_1 : Mem, μ_1 = sI μ 15464 0 0 → f_M_areOpen a1 1 6 μ_1 (fun r10 μ_2 => if r10 = true then (if (v_M_isAffiliate a2 μ_2) = true then (f_M_bitsOf a1 μ_2 (fun r27 μ_3 => if (v_M_within a3 (-1) (r27 - 1)) = true then (f_M_listsMotions a1 μ_3 (fun μ_4 => ∃ m50 : Nat, l_M_best_50 a2 a3 (fun (μ_7 : Mem) => ∃ m82 : Nat, l_M_best_82 a2 a3 (fun (v4_2 : Int) (μ_13 : Mem) => if w a3 = w (-1) then (k v4_2 μ_13) else (0 ≤ w a3 ∧ w a3 < ((6 : Nat) : Int) ∧ 0 ≤ w (rI μ_13 168 (w a3)) ∧ w (rI μ_13 168 (w a3)) < ((8 : Nat) : Int) ∧ k (rI μ_13 163 (w (rI μ_13 168 (w a3)))) μ_13)) m82 (-1000) true μ_7) m50 0 μ_4)) else (k (-1000) μ_3))) else (k (-1000) μ_2)) else (k (-1000) μ_2))
theorem L_M_best_50 {l : Launch} {Γ : Gam} {g : Nat} {a2 : Int} {a3 : Int} {X_50_74 : Mem → Prop} {k : Int → Mem → Prop} (hX_50_74 : ∀ (ν : Mem), StatR ν.2.2 → X_50_74 ν → SW l Γ yX12_best.cls cX12_best Y_M_best (pI k) g 175 0 0 ν 74 [(0, vr Γ 113), (2, vi a2), (3, vi a3)] []) (n9 : Nat) : ∀ (v4 : Int) (μ_5 : Mem), StatR μ_5.2.2 → l_M_best_50 a2 a3 X_50_74 n9 v4 μ_5 → SW l Γ yX12_best.cls cX12_best Y_M_best (pI k) g 175 0 0 μ_5 50 [(0, vr Γ 113), (2, vi a2), (3, vi a3), (4, vi v4)] [] := by
  induction n9 with
  | zero =>
    intro v4 μ_5 hs h
    exact h.elim
  | succ n9 hR_50 =>
    intro v4 μ_5 hs h
    rw [l_M_best_50] at h
    refine z_iload dX12_best_50 3 rfl ?_
    refine z_rload_n dX12_best_52 rfl 0 rfl ?_
    refine z_getI (q := 15545) ff_12_81 dX12_best_53 kt_113 (Nat.le_of_ble_eq_true rfl) fl_X12_576 rfl ?_
    refine z_icmp_ge (tgt := 74) dX12_best_56 (by decide) h (fun h => ?_) (fun h => ?_)
    · refine z_rload_n dX12_best_59 rfl 0 rfl ?_
      refine z_getR (q := 15547) ff_12_83 dX12_best_60 kt_113 (Nat.le_of_ble_eq_true rfl) fl_X12_188 rfl (hs.1 _ _ sr_15547) ?_
      refine z_iload dX12_best_63 3 rfl ?_
      refine z_iload dX12_best_65 3 rfl ?_
      obtain ⟨h0, h1, h⟩ := h
      refine z_iast dX12_best_67 kt_167 (Nat.le_of_ble_eq_true rfl) h0 h1 ?_
      refine z_mm (fun μ_6 eμ_6 => ?_)
      replace h := h μ_6 eμ_6
      replace hs : StatR μ_6.2.2 := by rw [eμ_6]; exact hs
      refine z_iinc (j := 3) (lv' := [(4, vi (v4 + 1)), (0, vr Γ 113), (2, vi a2), (3, vi a3)]) dX12_best_68 rfl (Nat.le_of_ble_eq_true rfl) rfl ?_
      refine z_goto (tgt := 50) dX12_best_71 (by decide) ?_
      refine z_sub (lv' := [(0, vr Γ 113), (2, vi a2), (3, vi a3), (4, vi (v4 + 1))]) [1, 2, 3, 0] rfl ?_
      exact hR_50 (v4 + 1) μ_6 hs h
    · refine z_sub (lv' := [(0, vr Γ 113), (2, vi a2), (3, vi a3)]) [0, 1, 2] rfl ?_
      exact hX_50_74 μ_5 hs h
theorem L_M_best_82 {l : Launch} {Γ : Gam} {g : Nat} {a2 : Int} {a3 : Int} {X_82_126 : Int → Mem → Prop} {k : Int → Mem → Prop} (hX_82_126 : ∀ (u4 : Int) (ν : Mem), StatR ν.2.2 → X_82_126 u4 ν → SW l Γ yX12_best.cls cX12_best Y_M_best (pI k) g 175 0 0 ν 126 [(0, vr Γ 113), (3, vi a3), (4, vi u4)] []) (n9 : Nat) : ∀ (v4_1 : Int) (v5 : Bool) (μ_8 : Mem), StatR μ_8.2.2 → l_M_best_82 a2 a3 X_82_126 n9 v4_1 v5 μ_8 → SW l Γ yX12_best.cls cX12_best Y_M_best (pI k) g 175 0 0 μ_8 82 [(0, vr Γ 113), (2, vi a2), (3, vi a3), (4, vi v4_1), (5, vi (b2i v5))] [] := by
  induction n9 with
  | zero =>
    intro v4_1 v5 μ_8 hs h
    exact h.elim
  | succ n9 hR_82 =>
    intro v4_1 v5 μ_8 hs h
    rw [l_M_best_82] at h
    refine z_iload dX12_best_82 4 rfl ?_
    refine z_ifeq_b (tgt := 126) dX12_best_84 (by decide) h (fun h => ?_) (fun h => ?_)
    · refine z_rload_n dX12_best_87 rfl 0 rfl ?_
      refine z_iload_n dX12_best_88 rfl 1 rfl ?_
      refine z_VI (i_M_worthOf  hs h) vk_X12_worthOf kt_113 (Nat.le_of_ble_eq_true rfl) rfl ml_X12_598 ⟨Nat.le_of_ble_eq_true rfl, Nat.le_of_ble_eq_true rfl⟩ ⟨Nat.zero_le _, Nat.zero_le _⟩ rfl rfl (Nat.le_of_ble_eq_true rfl) dX12_best_89 (fun r89 μ_9 hs h => ?_)
      refine z_istore (lv' := [(6, vi r89), (0, vr Γ 113), (2, vi a2), (3, vi a3), (4, vi v4_1), (5, vi (b2i v5))]) dX12_best_92 (Nat.le_of_ble_eq_true rfl) rfl ?_
      refine z_iload dX12_best_94 0 rfl ?_
      refine z_iload dX12_best_96 4 rfl ?_
      refine z_icmp_le (tgt := 117) dX12_best_98 (by decide) h (fun h => ?_) (fun h => ?_)
      · refine z_iload dX12_best_101 0 rfl ?_
        refine z_istore (lv' := [(4, vi r89), (6, vi r89), (0, vr Γ 113), (2, vi a2), (3, vi a3), (5, vi (b2i v5))]) dX12_best_103 (Nat.le_of_ble_eq_true rfl) rfl ?_
        refine z_rload_n dX12_best_105 rfl 2 rfl ?_
        refine z_rload_n dX12_best_106 rfl 2 rfl ?_
        refine z_getR (q := 15547) ff_12_83 dX12_best_107 kt_113 (Nat.le_of_ble_eq_true rfl) fl_X12_188 rfl (hs.1 _ _ sr_15547) ?_
        refine z_rload_n dX12_best_110 rfl 2 rfl ?_
        refine z_getR (q := 15548) ff_12_84 dX12_best_111 kt_113 (Nat.le_of_ble_eq_true rfl) fl_X12_191 rfl (hs.1 _ _ sr_15548) ?_
        refine z_VU (i_M_copies kt_167 (Nat.le_of_ble_eq_true rfl) kt_168 (Nat.le_of_ble_eq_true rfl) hs h) vk_X12_copies kt_113 (Nat.le_of_ble_eq_true rfl) rfl ml_X12_227 ⟨Nat.le_of_ble_eq_true rfl, Nat.le_of_ble_eq_true rfl⟩ ⟨Nat.zero_le _, Nat.zero_le _⟩ rfl rfl (Nat.le_of_ble_eq_true rfl) dX12_best_114 (fun μ_10 hs h => ?_)
        refine z_rload_n dX12_best_117 rfl 2 rfl ?_
        refine z_VB (i_M_goesOn  hs h) vk_X12_goesOn kt_113 (Nat.le_of_ble_eq_true rfl) rfl ml_X12_604 ⟨Nat.le_of_ble_eq_true rfl, Nat.le_of_ble_eq_true rfl⟩ ⟨Nat.zero_le _, Nat.zero_le _⟩ rfl rfl (Nat.le_of_ble_eq_true rfl) dX12_best_118 (fun r118 μ_11 hs h => ?_)
        refine z_istore (lv' := [(5, vi (b2i r118)), (4, vi r89), (6, vi r89), (0, vr Γ 113), (2, vi a2), (3, vi a3)]) dX12_best_121 (Nat.le_of_ble_eq_true rfl) rfl ?_
        refine z_goto (tgt := 82) dX12_best_123 (by decide) ?_
        refine z_sub (lv' := [(0, vr Γ 113), (2, vi a2), (3, vi a3), (4, vi r89), (5, vi (b2i r118))]) [3, 4, 5, 1, 0] rfl ?_
        exact hR_82 r89 r118 μ_11 hs h
      · refine z_rload_n dX12_best_117 rfl 1 rfl ?_
        refine z_VB (i_M_goesOn  hs h) vk_X12_goesOn kt_113 (Nat.le_of_ble_eq_true rfl) rfl ml_X12_604 ⟨Nat.le_of_ble_eq_true rfl, Nat.le_of_ble_eq_true rfl⟩ ⟨Nat.zero_le _, Nat.zero_le _⟩ rfl rfl (Nat.le_of_ble_eq_true rfl) dX12_best_118 (fun r118_1 μ_12 hs h => ?_)
        refine z_istore (lv' := [(5, vi (b2i r118_1)), (6, vi r89), (0, vr Γ 113), (2, vi a2), (3, vi a3), (4, vi v4_1)]) dX12_best_121 (Nat.le_of_ble_eq_true rfl) rfl ?_
        refine z_goto (tgt := 82) dX12_best_123 (by decide) ?_
        refine z_sub (lv' := [(0, vr Γ 113), (2, vi a2), (3, vi a3), (4, vi v4_1), (5, vi (b2i r118_1))]) [2, 3, 4, 5, 0] rfl ?_
        exact hR_82 v4_1 r118_1 μ_12 hs h
    · refine z_sub (lv' := [(0, vr Γ 113), (3, vi a3), (4, vi v4_1)]) [0, 2, 3] rfl ?_
      exact hX_82_126 v4_1 μ_8 hs h
theorem i_M_best {l : Launch} {Γ : Gam} {g : Nat} {a1 : Int} {a2 : Int} {a3 : Int} {μ : Mem} {k : Int → Mem → Prop} (hs : StatR μ.2.2) (h : f_M_best a1 a2 a3 μ k) : CT l Γ yX12_best cX12_best 7 (some .int) 7 172 0 0 [vr Γ 113, vi a1, vi a2, vi a3] g 175 μ (pI k) := by
  refine SW.ct (by decide) (Nat.le_of_ble_eq_true rfl) ?_
  refine z_sub (lv' := [(0, vr Γ 113), (1, vi a1), (2, vi a2), (3, vi a3)]) [0, 1, 2, 3] rfl ?_
  show SW l Γ yX12_best.cls cX12_best Y_M_best (pI k) g 175 0 0 μ 0 [(0, vr Γ 113), (1, vi a1), (2, vi a2), (3, vi a3)] []
  unfold f_M_best at h
  refine z_rload_n dX12_best_0 rfl 0 rfl ?_
  refine z_iconst dX12_best_1 ?_
  refine z_putI (q := 15464) ff_12_0 (Or.inl rfl) rfl dX12_best_2 kt_113 (Nat.le_of_ble_eq_true rfl) fl_X12_1 rfl ?_
  refine z_mm (fun μ_1 eμ_1 => ?_)
  replace h := h μ_1 eμ_1
  replace hs : StatR μ_1.2.2 := by rw [eμ_1]; exact hs
  refine z_rload_n dX12_best_5 rfl 0 rfl ?_
  refine z_iload_n dX12_best_6 rfl 1 rfl ?_
  refine z_iconst dX12_best_7 ?_
  refine z_bipush dX12_best_8 (by decide) ?_
  refine z_VB (i_M_areOpen  hs h) vk_X12_areOpen kt_113 (Nat.le_of_ble_eq_true rfl) rfl ml_X12_570 ⟨Nat.le_of_ble_eq_true rfl, Nat.le_of_ble_eq_true rfl⟩ ⟨Nat.zero_le _, Nat.zero_le _⟩ rfl rfl (Nat.le_of_ble_eq_true rfl) dX12_best_10 (fun r10 μ_2 hs h => ?_)
  refine z_ifeq_b (tgt := 38) dX12_best_13 (by decide) h (fun h => ?_) (fun h => ?_)
  · refine z_rload_n dX12_best_16 rfl 0 rfl ?_
    refine z_iload_n dX12_best_17 rfl 2 rfl ?_
    refine z_VE (i_M_isAffiliate ) vk_X12_isAffiliate kt_113 (Nat.le_of_ble_eq_true rfl) rfl ml_X12_219 ⟨Nat.le_of_ble_eq_true rfl, Nat.le_of_ble_eq_true rfl⟩ ⟨Nat.zero_le _, Nat.zero_le _⟩ rfl rfl (Nat.le_of_ble_eq_true rfl) dX12_best_18 ?_
    refine z_ifeq_b (tgt := 38) dX12_best_21 (by decide) h (fun h => ?_) (fun h => ?_)
    · refine z_iload_n dX12_best_24 rfl 3 rfl ?_
      refine z_iconst dX12_best_25 ?_
      refine z_iload_n dX12_best_26 rfl 1 rfl ?_
      refine z_SI (i_M_bitsOf  hs h) sk_X12_bitsOf ml_X12_563 ⟨Nat.le_of_ble_eq_true rfl, Nat.le_of_ble_eq_true rfl⟩ ⟨Nat.zero_le _, Nat.zero_le _⟩ rfl rfl (Nat.le_of_ble_eq_true rfl) dX12_best_27 (fun r27 μ_3 hs h => ?_)
      refine z_iconst dX12_best_30 ?_
      refine z_isub dX12_best_31 ?_
      refine z_SE (i_M_within ) sk_X12_within ml_X12_215 ⟨Nat.le_of_ble_eq_true rfl, Nat.le_of_ble_eq_true rfl⟩ ⟨Nat.zero_le _, Nat.zero_le _⟩ rfl rfl (Nat.le_of_ble_eq_true rfl) dX12_best_32 ?_
      refine z_ifne_b (tgt := 42) dX12_best_35 (by decide) h (fun h => ?_) (fun h => ?_)
      · refine z_rload_n dX12_best_42 rfl 0 rfl ?_
        refine z_iload_n dX12_best_43 rfl 1 rfl ?_
        refine z_VU (i_M_listsMotions  hs h) vk_X12_listsMotions kt_113 (Nat.le_of_ble_eq_true rfl) rfl ml_X12_595 ⟨Nat.le_of_ble_eq_true rfl, Nat.le_of_ble_eq_true rfl⟩ ⟨Nat.zero_le _, Nat.zero_le _⟩ rfl rfl (Nat.le_of_ble_eq_true rfl) dX12_best_44 (fun μ_4 hs h => ?_)
        refine z_iconst dX12_best_47 ?_
        refine z_istore (lv' := [(4, vi 0), (0, vr Γ 113), (1, vi a1), (2, vi a2), (3, vi a3)]) dX12_best_48 (Nat.le_of_ble_eq_true rfl) rfl ?_
        obtain ⟨m50, h⟩ := h
        refine z_sub (lv' := [(0, vr Γ 113), (2, vi a2), (3, vi a3), (4, vi 0)]) [1, 3, 4, 0] rfl ?_
        refine L_M_best_50 (fun μ_7 hs h => ?_) m50 0 μ_4 hs h
        refine z_sipush dX12_best_74 (by decide) ?_
        refine z_istore (lv' := [(4, vi (-1000)), (0, vr Γ 113), (2, vi a2), (3, vi a3)]) dX12_best_77 (Nat.le_of_ble_eq_true rfl) rfl ?_
        refine z_iconst dX12_best_79 ?_
        refine z_istore (lv' := [(5, vi 1), (4, vi (-1000)), (0, vr Γ 113), (2, vi a2), (3, vi a3)]) dX12_best_80 (Nat.le_of_ble_eq_true rfl) rfl ?_
        obtain ⟨m82, h⟩ := h
        refine z_sub (lv' := [(0, vr Γ 113), (2, vi a2), (3, vi a3), (4, vi (-1000)), (5, vi (b2i true))]) [2, 3, 4, 1, 0] rfl ?_
        refine L_M_best_82 (fun v4_2 μ_13 hs h => ?_) m82 (-1000) true μ_7 hs h
        refine z_iload_n dX12_best_126 rfl 1 rfl ?_
        refine z_iconst dX12_best_127 ?_
        refine z_icmp_ne (tgt := 136) dX12_best_128 (by decide) h (fun h => ?_) (fun h => ?_)
        · refine z_iload dX12_best_131 2 rfl ?_
          refine z_goto (tgt := 147) dX12_best_133 (by decide) ?_
          exact z_iret rfl dX12_best_147 rfl rfl rfl ⟨_, rfl, hs, h⟩
        · refine z_rload_n dX12_best_136 rfl 0 rfl ?_
          refine z_getR (q := 15542) ff_12_78 dX12_best_137 kt_113 (Nat.le_of_ble_eq_true rfl) fl_X12_176 rfl (hs.1 _ _ sr_15542) ?_
          refine z_rload_n dX12_best_140 rfl 0 rfl ?_
          refine z_getR (q := 15548) ff_12_84 dX12_best_141 kt_113 (Nat.le_of_ble_eq_true rfl) fl_X12_191 rfl (hs.1 _ _ sr_15548) ?_
          refine z_iload_n dX12_best_144 rfl 1 rfl ?_
          obtain ⟨h0, h1, h⟩ := h
          refine z_iald dX12_best_145 kt_168 (Nat.le_of_ble_eq_true rfl) h0 h1 ?_
          obtain ⟨h0, h1, h⟩ := h
          refine z_iald dX12_best_146 kt_163 (Nat.le_of_ble_eq_true rfl) h0 h1 ?_
          exact z_iret rfl dX12_best_147 rfl rfl rfl ⟨_, rfl, hs, h⟩
      · refine z_sipush dX12_best_38 (by decide) ?_
        exact z_iret rfl dX12_best_41 rfl rfl rfl ⟨_, rfl, hs, h⟩
    · refine z_sipush dX12_best_38 (by decide) ?_
      exact z_iret rfl dX12_best_41 rfl rfl rfl ⟨_, rfl, hs, h⟩
  · refine z_sipush dX12_best_38 (by decide) ?_
    exact z_iret rfl dX12_best_41 rfl rfl rfl ⟨_, rfl, hs, h⟩
abbrev Y_M_findTurns : Yt := (3, none, yX12_findTurns.name, { frames := 6, cells := 0, slots := 0, locals := 144 }, 175, 0, 0)
def l_M_findTurns_41 (v1 : Int) (X_41_129 : Mem → Prop) : Nat → Int → Mem → Prop
  | 0, _, _ => False
  | fu41 + 1, v2, μ_4 => if w v2 < w (rI μ_4 15466 0) then (f_M_voiceOf v2 v1 (rI μ_4 15465 0) μ_4 (fun r66 μ_5 => ∀ x78 : Bool, x78 = (if w r66 = w 2 then false else true) → 0 ≤ w ((24 * v2) + v1) ∧ w ((24 * v2) + v1) < ((288 : Nat) : Int) ∧ ∀ μ_6 : Mem, μ_6 = sB μ_5 172 (w ((24 * v2) + v1)) x78 → 0 ≤ w ((24 * v2) + v1) ∧ w ((24 * v2) + v1) < ((288 : Nat) : Int) ∧ if (rB μ_6 172 (w ((24 * v2) + v1))) = true then (f_M_wouldPass v1 0 v2 129 61 μ_6 (fun r111 μ_7 => ∀ x122 : Bool, x122 = (if r111 = true then true else false) → 0 ≤ w ((24 * v2) + v1) ∧ w ((24 * v2) + v1) < ((288 : Nat) : Int) ∧ ∀ μ_8 : Mem, μ_8 = sB μ_7 171 (w ((24 * v2) + v1)) x122 → (l_M_findTurns_41 v1 X_41_129 fu41) (v2 + 1) μ_8)) else (0 ≤ w ((24 * v2) + v1) ∧ w ((24 * v2) + v1) < ((288 : Nat) : Int) ∧ ∀ μ_9 : Mem, μ_9 = sB μ_6 171 (w ((24 * v2) + v1)) false → (l_M_findTurns_41 v1 X_41_129 fu41) (v2 + 1) μ_9))) else (X_41_129 μ_4)
def l_M_findTurns_2 (X_2_135 : Mem → Prop) : Nat → Int → Mem → Prop
  | 0, _, _ => False
  | fu2 + 1, v1, μ_1 => if w v1 < w (rI μ_1 15472 0) then (0 ≤ w v1 ∧ w v1 < ((24 : Nat) : Int) ∧ if w (rI μ_1 122 (w v1)) = 0 then (f_M_wouldPass v1 0 (-1) 129 61 μ_1 (fun r35 μ_2 => 0 ≤ w v1 ∧ w v1 < ((24 : Nat) : Int) ∧ ∀ μ_3 : Mem, μ_3 = sB μ_2 170 (w v1) r35 → ∃ m41 : Nat, l_M_findTurns_41 v1 (fun (μ_10 : Mem) => (l_M_findTurns_2 X_2_135 fu2) (v1 + 1) μ_10) m41 0 μ_3)) else ((l_M_findTurns_2 X_2_135 fu2) (v1 + 1) μ_1)) else (X_2_135 μ_1)
def f_M_findTurns  (μ : Mem) (k : Mem → Prop) : Prop := ∃ m2 : Nat, l_M_findTurns_2 (fun (μ_11 : Mem) => k μ_11) m2 0 μ
theorem L_M_findTurns_41 {l : Launch} {Γ : Gam} {g : Nat} {v1 : Int} {X_41_129 : Mem → Prop} {k : Mem → Prop} (hX_41_129 : ∀ (ν : Mem), StatR ν.2.2 → X_41_129 ν → SW l Γ yX12_findTurns.cls cX12_findTurns Y_M_findTurns (pV k) g 175 0 0 ν 129 [(0, vr Γ 113), (1, vi v1)] []) (n9 : Nat) : ∀ (v2 : Int) (μ_4 : Mem), StatR μ_4.2.2 → l_M_findTurns_41 v1 X_41_129 n9 v2 μ_4 → SW l Γ yX12_findTurns.cls cX12_findTurns Y_M_findTurns (pV k) g 175 0 0 μ_4 41 [(0, vr Γ 113), (1, vi v1), (2, vi v2)] [] := by
  induction n9 with
  | zero =>
    intro v2 μ_4 hs h
    exact h.elim
  | succ n9 hR_41 =>
    intro v2 μ_4 hs h
    rw [l_M_findTurns_41] at h
    refine z_iload_n dX12_findTurns_41 rfl 2 rfl ?_
    refine z_rload_n dX12_findTurns_42 rfl 0 rfl ?_
    refine z_getI (q := 15466) ff_12_2 dX12_findTurns_43 kt_113 (Nat.le_of_ble_eq_true rfl) fl_X12_209 rfl ?_
    refine z_icmp_ge (tgt := 129) dX12_findTurns_46 (by decide) h (fun h => ?_) (fun h => ?_)
    · refine z_rload_n dX12_findTurns_49 rfl 0 rfl ?_
      refine z_getR (q := 15552) ff_12_88 dX12_findTurns_50 kt_113 (Nat.le_of_ble_eq_true rfl) fl_X12_203 rfl (hs.1 _ _ sr_15552) ?_
      refine z_bipush dX12_findTurns_53 (by decide) ?_
      refine z_iload_n dX12_findTurns_55 rfl 2 rfl ?_
      refine z_imul dX12_findTurns_56 ?_
      refine z_iload_n dX12_findTurns_57 rfl 1 rfl ?_
      refine z_iadd dX12_findTurns_58 ?_
      refine z_rload_n dX12_findTurns_59 rfl 0 rfl ?_
      refine z_iload_n dX12_findTurns_60 rfl 2 rfl ?_
      refine z_iload_n dX12_findTurns_61 rfl 1 rfl ?_
      refine z_rload_n dX12_findTurns_62 rfl 0 rfl ?_
      refine z_getI (q := 15465) ff_12_1 dX12_findTurns_63 kt_113 (Nat.le_of_ble_eq_true rfl) fl_X12_212 rfl ?_
      refine z_VI (i_M_voiceOf  hs h) vk_X12_voiceOf kt_113 (Nat.le_of_ble_eq_true rfl) rfl ml_X12_273 ⟨Nat.le_of_ble_eq_true rfl, Nat.le_of_ble_eq_true rfl⟩ ⟨Nat.zero_le _, Nat.zero_le _⟩ rfl rfl (Nat.le_of_ble_eq_true rfl) dX12_findTurns_66 (fun r66 μ_5 hs h => ?_)
      refine z_iconst dX12_findTurns_69 ?_
      refine z_phiB 78 [vi ((24 * v2) + v1), vr Γ 172] (fun V9 hv J9 => ?_) h (fun x78 h => ?_)
      · refine z_icmp_eq (tgt := 77) dX12_findTurns_70 (by decide) (eq_ite hv) (fun hv => ?_) (fun hv => ?_)
        · refine z_iconst dX12_findTurns_77 ?_
          exact J9 false hv.symm
        · refine z_iconst dX12_findTurns_73 ?_
          refine z_goto (tgt := 78) dX12_findTurns_74 (by decide) ?_
          exact J9 true hv.symm
      · obtain ⟨h0, h1, h⟩ := h
        refine z_zast dX12_findTurns_78 kt_172 (Nat.le_of_ble_eq_true rfl) h0 h1 ?_
        refine z_mm (fun μ_6 eμ_6 => ?_)
        replace h := h μ_6 eμ_6
        replace hs : StatR μ_6.2.2 := by rw [eμ_6]; exact hs
        refine z_rload_n dX12_findTurns_79 rfl 0 rfl ?_
        refine z_getR (q := 15551) ff_12_87 dX12_findTurns_80 kt_113 (Nat.le_of_ble_eq_true rfl) fl_X12_200 rfl (hs.1 _ _ sr_15551) ?_
        refine z_bipush dX12_findTurns_83 (by decide) ?_
        refine z_iload_n dX12_findTurns_85 rfl 2 rfl ?_
        refine z_imul dX12_findTurns_86 ?_
        refine z_iload_n dX12_findTurns_87 rfl 1 rfl ?_
        refine z_iadd dX12_findTurns_88 ?_
        refine z_rload_n dX12_findTurns_89 rfl 0 rfl ?_
        refine z_getR (q := 15552) ff_12_88 dX12_findTurns_90 kt_113 (Nat.le_of_ble_eq_true rfl) fl_X12_203 rfl (hs.1 _ _ sr_15552) ?_
        refine z_bipush dX12_findTurns_93 (by decide) ?_
        refine z_iload_n dX12_findTurns_95 rfl 2 rfl ?_
        refine z_imul dX12_findTurns_96 ?_
        refine z_iload_n dX12_findTurns_97 rfl 1 rfl ?_
        refine z_iadd dX12_findTurns_98 ?_
        obtain ⟨h0, h1, h⟩ := h
        refine z_zald dX12_findTurns_99 kt_172 (Nat.le_of_ble_eq_true rfl) h0 h1 ?_
        refine z_ifeq_b (tgt := 121) dX12_findTurns_100 (by decide) h (fun h => ?_) (fun h => ?_)
        · refine z_rload_n dX12_findTurns_103 rfl 0 rfl ?_
          refine z_iload_n dX12_findTurns_104 rfl 1 rfl ?_
          refine z_iconst dX12_findTurns_105 ?_
          refine z_iload_n dX12_findTurns_106 rfl 2 rfl ?_
          refine z_rload_n dX12_findTurns_107 rfl 0 rfl ?_
          refine z_getR (q := 15488) ff_12_24 dX12_findTurns_108 kt_113 (Nat.le_of_ble_eq_true rfl) fl_X12_66 rfl (hs.1 _ _ sr_15488) ?_
          refine z_VB (i_M_wouldPass kt_129 (Nat.le_of_ble_eq_true rfl) hs h) vk_X12_wouldPass kt_113 (Nat.le_of_ble_eq_true rfl) rfl ml_X12_591 ⟨Nat.le_of_ble_eq_true rfl, Nat.le_of_ble_eq_true rfl⟩ ⟨Nat.zero_le _, Nat.zero_le _⟩ rfl rfl (Nat.le_of_ble_eq_true rfl) dX12_findTurns_111 (fun r111 μ_7 hs h => ?_)
          refine z_phiB 122 [vi ((24 * v2) + v1), vr Γ 171] (fun V9 hv J9 => ?_) h (fun x122 h => ?_)
          · refine z_ifeq_b (tgt := 121) dX12_findTurns_114 (by decide) (eq_ite hv) (fun hv => ?_) (fun hv => ?_)
            · refine z_iconst dX12_findTurns_117 ?_
              refine z_goto (tgt := 122) dX12_findTurns_118 (by decide) ?_
              exact J9 true hv.symm
            · refine z_iconst dX12_findTurns_121 ?_
              exact J9 false hv.symm
          · obtain ⟨h0, h1, h⟩ := h
            refine z_zast dX12_findTurns_122 kt_171 (Nat.le_of_ble_eq_true rfl) h0 h1 ?_
            refine z_mm (fun μ_8 eμ_8 => ?_)
            replace h := h μ_8 eμ_8
            replace hs : StatR μ_8.2.2 := by rw [eμ_8]; exact hs
            refine z_iinc (j := 2) (lv' := [(2, vi (v2 + 1)), (0, vr Γ 113), (1, vi v1)]) dX12_findTurns_123 rfl (Nat.le_of_ble_eq_true rfl) rfl ?_
            refine z_goto (tgt := 41) dX12_findTurns_126 (by decide) ?_
            refine z_sub (lv' := [(0, vr Γ 113), (1, vi v1), (2, vi (v2 + 1))]) [1, 2, 0] rfl ?_
            exact hR_41 (v2 + 1) μ_8 hs h
        · refine z_iconst dX12_findTurns_121 ?_
          obtain ⟨h0, h1, h⟩ := h
          refine z_zast (b := false) dX12_findTurns_122 kt_171 (Nat.le_of_ble_eq_true rfl) h0 h1 ?_
          refine z_mm (fun μ_9 eμ_9 => ?_)
          replace h := h μ_9 eμ_9
          replace hs : StatR μ_9.2.2 := by rw [eμ_9]; exact hs
          refine z_iinc (j := 2) (lv' := [(2, vi (v2 + 1)), (0, vr Γ 113), (1, vi v1)]) dX12_findTurns_123 rfl (Nat.le_of_ble_eq_true rfl) rfl ?_
          refine z_goto (tgt := 41) dX12_findTurns_126 (by decide) ?_
          refine z_sub (lv' := [(0, vr Γ 113), (1, vi v1), (2, vi (v2 + 1))]) [1, 2, 0] rfl ?_
          exact hR_41 (v2 + 1) μ_9 hs h
    · refine z_sub (lv' := [(0, vr Γ 113), (1, vi v1)]) [0, 1] rfl ?_
      exact hX_41_129 μ_4 hs h
theorem L_M_findTurns_2 {l : Launch} {Γ : Gam} {g : Nat} {X_2_135 : Mem → Prop} {k : Mem → Prop} (hX_2_135 : ∀ (ν : Mem), StatR ν.2.2 → X_2_135 ν → SW l Γ yX12_findTurns.cls cX12_findTurns Y_M_findTurns (pV k) g 175 0 0 ν 135 [] []) (n9 : Nat) : ∀ (v1 : Int) (μ_1 : Mem), StatR μ_1.2.2 → l_M_findTurns_2 X_2_135 n9 v1 μ_1 → SW l Γ yX12_findTurns.cls cX12_findTurns Y_M_findTurns (pV k) g 175 0 0 μ_1 2 [(0, vr Γ 113), (1, vi v1)] [] := by
  induction n9 with
  | zero =>
    intro v1 μ_1 hs h
    exact h.elim
  | succ n9 hR_2 =>
    intro v1 μ_1 hs h
    rw [l_M_findTurns_2] at h
    refine z_iload_n dX12_findTurns_2 rfl 1 rfl ?_
    refine z_rload_n dX12_findTurns_3 rfl 0 rfl ?_
    refine z_getI (q := 15472) ff_12_8 dX12_findTurns_4 kt_113 (Nat.le_of_ble_eq_true rfl) fl_X12_231 rfl ?_
    refine z_icmp_ge (tgt := 135) dX12_findTurns_7 (by decide) h (fun h => ?_) (fun h => ?_)
    · refine z_rload_n dX12_findTurns_10 rfl 0 rfl ?_
      refine z_getR (q := 15481) ff_12_17 dX12_findTurns_11 kt_113 (Nat.le_of_ble_eq_true rfl) fl_X12_44 rfl (hs.1 _ _ sr_15481) ?_
      refine z_iload_n dX12_findTurns_14 rfl 1 rfl ?_
      obtain ⟨h0, h1, h⟩ := h
      refine z_iald dX12_findTurns_15 kt_122 (Nat.le_of_ble_eq_true rfl) h0 h1 ?_
      refine z_if_eq (tgt := 22) dX12_findTurns_16 (by decide) h (fun h => ?_) (fun h => ?_)
      · refine z_rload_n dX12_findTurns_22 rfl 0 rfl ?_
        refine z_getR (q := 15550) ff_12_86 dX12_findTurns_23 kt_113 (Nat.le_of_ble_eq_true rfl) fl_X12_197 rfl (hs.1 _ _ sr_15550) ?_
        refine z_iload_n dX12_findTurns_26 rfl 1 rfl ?_
        refine z_rload_n dX12_findTurns_27 rfl 0 rfl ?_
        refine z_iload_n dX12_findTurns_28 rfl 1 rfl ?_
        refine z_iconst dX12_findTurns_29 ?_
        refine z_iconst dX12_findTurns_30 ?_
        refine z_rload_n dX12_findTurns_31 rfl 0 rfl ?_
        refine z_getR (q := 15488) ff_12_24 dX12_findTurns_32 kt_113 (Nat.le_of_ble_eq_true rfl) fl_X12_66 rfl (hs.1 _ _ sr_15488) ?_
        refine z_VB (i_M_wouldPass kt_129 (Nat.le_of_ble_eq_true rfl) hs h) vk_X12_wouldPass kt_113 (Nat.le_of_ble_eq_true rfl) rfl ml_X12_591 ⟨Nat.le_of_ble_eq_true rfl, Nat.le_of_ble_eq_true rfl⟩ ⟨Nat.zero_le _, Nat.zero_le _⟩ rfl rfl (Nat.le_of_ble_eq_true rfl) dX12_findTurns_35 (fun r35 μ_2 hs h => ?_)
        obtain ⟨h0, h1, h⟩ := h
        refine z_zast dX12_findTurns_38 kt_170 (Nat.le_of_ble_eq_true rfl) h0 h1 ?_
        refine z_mm (fun μ_3 eμ_3 => ?_)
        replace h := h μ_3 eμ_3
        replace hs : StatR μ_3.2.2 := by rw [eμ_3]; exact hs
        refine z_iconst dX12_findTurns_39 ?_
        refine z_istore_n (lv' := [(2, vi 0), (0, vr Γ 113), (1, vi v1)]) dX12_findTurns_40 rfl (Nat.le_of_ble_eq_true rfl) rfl ?_
        obtain ⟨m41, h⟩ := h
        refine z_sub (lv' := [(0, vr Γ 113), (1, vi v1), (2, vi 0)]) [1, 2, 0] rfl ?_
        refine L_M_findTurns_41 (fun μ_10 hs h => ?_) m41 0 μ_3 hs h
        refine z_iinc (j := 1) (lv' := [(1, vi (v1 + 1)), (0, vr Γ 113)]) dX12_findTurns_129 rfl (Nat.le_of_ble_eq_true rfl) rfl ?_
        refine z_goto (tgt := 2) dX12_findTurns_132 (by decide) ?_
        refine z_sub (lv' := [(0, vr Γ 113), (1, vi (v1 + 1))]) [1, 0] rfl ?_
        exact hR_2 (v1 + 1) μ_10 hs h
      · refine z_goto (tgt := 129) dX12_findTurns_19 (by decide) ?_
        refine z_iinc (j := 1) (lv' := [(1, vi (v1 + 1)), (0, vr Γ 113)]) dX12_findTurns_129 rfl (Nat.le_of_ble_eq_true rfl) rfl ?_
        refine z_goto (tgt := 2) dX12_findTurns_132 (by decide) ?_
        refine z_sub (lv' := [(0, vr Γ 113), (1, vi (v1 + 1))]) [1, 0] rfl ?_
        exact hR_2 (v1 + 1) μ_1 hs h
    · refine z_sub (lv' := []) [] rfl ?_
      exact hX_2_135 μ_1 hs h
theorem i_M_findTurns {l : Launch} {Γ : Gam} {g : Nat} {μ : Mem} {k : Mem → Prop} (hs : StatR μ.2.2) (h : f_M_findTurns  μ k) : CT l Γ yX12_findTurns cX12_findTurns 3 none 6 144 0 0 [vr Γ 113] g 175 μ (pV k) := by
  refine SW.ct (by decide) (Nat.le_of_ble_eq_true rfl) ?_
  refine z_sub (lv' := [(0, vr Γ 113)]) [0] rfl ?_
  show SW l Γ yX12_findTurns.cls cX12_findTurns Y_M_findTurns (pV k) g 175 0 0 μ 0 [(0, vr Γ 113)] []
  unfold f_M_findTurns at h
  refine z_iconst dX12_findTurns_0 ?_
  refine z_istore_n (lv' := [(1, vi 0), (0, vr Γ 113)]) dX12_findTurns_1 rfl (Nat.le_of_ble_eq_true rfl) rfl ?_
  obtain ⟨m2, h⟩ := h
  refine z_sub (lv' := [(0, vr Γ 113), (1, vi 0)]) [1, 0] rfl ?_
  refine L_M_findTurns_2 (fun μ_11 hs h => ?_) m2 0 μ hs h
  exact z_vret rfl dX12_findTurns_135 rfl rfl rfl ⟨rfl, hs, h⟩
abbrev Y_M_gain : Yt := (5, (some .int), yX12_gain.name, { frames := 0, cells := 0, slots := 0, locals := 0 }, 175, 0, 0)
def f_M_gain (a1 : Int) (a2 : Int) (a3 : Int) (μ : Mem) (k : Int → Mem → Prop) : Prop := 0 ≤ w ((24 * a1) + a3) ∧ w ((24 * a1) + a3) < ((288 : Nat) : Int) ∧ ∀ v4 : Int, v4 = rI μ 166 (w ((24 * a1) + a3)) → 0 ≤ w ((24 * a2) + a3) ∧ w ((24 * a2) + a3) < ((288 : Nat) : Int) ∧ ∀ x33 : Int, x33 = (if (rB μ 171 (w ((24 * a2) + a3))) = true then v4 else 0) → 0 ≤ w a3 ∧ w a3 < ((24 : Nat) : Int) ∧ ∀ x48 : Int, x48 = (if (rB μ 170 (w a3)) = true then v4 else 0) → k (x33 - x48) μ
theorem i_M_gain {l : Launch} {Γ : Gam} {g : Nat} {a1 : Int} {a2 : Int} {a3 : Int} {μ : Mem} {k : Int → Mem → Prop} (hs : StatR μ.2.2) (h : f_M_gain a1 a2 a3 μ k) : CT l Γ yX12_gain cX12_gain 5 (some .int) 0 0 0 0 [vr Γ 113, vi a1, vi a2, vi a3] g 175 μ (pI k) := by
  refine SW.ct (by decide) (Nat.le_of_ble_eq_true rfl) ?_
  refine z_sub (lv' := [(0, vr Γ 113), (1, vi a1), (2, vi a2), (3, vi a3)]) [0, 1, 2, 3] rfl ?_
  show SW l Γ yX12_gain.cls cX12_gain Y_M_gain (pI k) g 175 0 0 μ 0 [(0, vr Γ 113), (1, vi a1), (2, vi a2), (3, vi a3)] []
  unfold f_M_gain at h
  refine z_rload_n dX12_gain_0 rfl 0 rfl ?_
  refine z_getR (q := 15546) ff_12_82 dX12_gain_1 kt_113 (Nat.le_of_ble_eq_true rfl) fl_X12_185 rfl (hs.1 _ _ sr_15546) ?_
  refine z_bipush dX12_gain_4 (by decide) ?_
  refine z_iload_n dX12_gain_6 rfl 1 rfl ?_
  refine z_imul dX12_gain_7 ?_
  refine z_iload_n dX12_gain_8 rfl 3 rfl ?_
  refine z_iadd dX12_gain_9 ?_
  obtain ⟨h0, h1, h⟩ := h
  refine z_iald dX12_gain_10 kt_166 (Nat.le_of_ble_eq_true rfl) h0 h1 ?_
  refine z_nm (fun v4 ev4 => ?_)
  replace h := h v4 ev4
  refine z_istore (lv' := [(4, vi v4), (0, vr Γ 113), (1, vi a1), (2, vi a2), (3, vi a3)]) dX12_gain_11 (Nat.le_of_ble_eq_true rfl) rfl ?_
  refine z_rload_n dX12_gain_13 rfl 1 rfl ?_
  refine z_getR (q := 15551) ff_12_87 dX12_gain_14 kt_113 (Nat.le_of_ble_eq_true rfl) fl_X12_200 rfl (hs.1 _ _ sr_15551) ?_
  refine z_bipush dX12_gain_17 (by decide) ?_
  refine z_iload_n dX12_gain_19 rfl 3 rfl ?_
  refine z_imul dX12_gain_20 ?_
  refine z_iload_n dX12_gain_21 rfl 4 rfl ?_
  refine z_iadd dX12_gain_22 ?_
  obtain ⟨h0, h1, h⟩ := h
  refine z_zald dX12_gain_23 kt_171 (Nat.le_of_ble_eq_true rfl) h0 h1 ?_
  refine z_phi 33 [] (fun V9 hv J9 => ?_) h (fun x33 h => ?_)
  · refine z_ifeq_b (tgt := 32) dX12_gain_24 (by decide) (eq_ite hv) (fun hv => ?_) (fun hv => ?_)
    · refine z_iload dX12_gain_27 0 rfl ?_
      refine z_goto (tgt := 33) dX12_gain_29 (by decide) ?_
      exact J9 _ hv.symm
    · refine z_iconst dX12_gain_32 ?_
      exact J9 _ hv.symm
  · refine z_rload_n dX12_gain_33 rfl 1 rfl ?_
    refine z_getR (q := 15550) ff_12_86 dX12_gain_34 kt_113 (Nat.le_of_ble_eq_true rfl) fl_X12_197 rfl (hs.1 _ _ sr_15550) ?_
    refine z_iload_n dX12_gain_37 rfl 4 rfl ?_
    obtain ⟨h0, h1, h⟩ := h
    refine z_zald dX12_gain_38 kt_170 (Nat.le_of_ble_eq_true rfl) h0 h1 ?_
    refine z_phi 48 [vi x33] (fun V9 hv J9 => ?_) h (fun x48 h => ?_)
    · refine z_ifeq_b (tgt := 47) dX12_gain_39 (by decide) (eq_ite hv) (fun hv => ?_) (fun hv => ?_)
      · refine z_iload dX12_gain_42 0 rfl ?_
        refine z_goto (tgt := 48) dX12_gain_44 (by decide) ?_
        exact J9 _ hv.symm
      · refine z_iconst dX12_gain_47 ?_
        exact J9 _ hv.symm
    · refine z_isub dX12_gain_48 ?_
      exact z_iret rfl dX12_gain_49 rfl rfl rfl ⟨_, rfl, hs, h⟩
abbrev Y_M_findDeal : Yt := (8, (some .boolean), yX12_findDeal.name, { frames := 7, cells := 0, slots := 0, locals := 166 }, 175, 0, 0)
def l_M_findDeal_71 (v2 : Int) (v3 : Int) (v4 : Int) (X_71_233 : Int → Mem → Prop) : Nat → Int → Int → Mem → Prop
  | 0, _, _, _ => False
  | fu71 + 1, v1_3, v5, μ_5 => if w v5 < w (rI μ_5 15472 0) then (if w v5 = w v4 then ((l_M_findDeal_71 v2 v3 v4 X_71_233 fu71) v1_3 (v5 + 1) μ_5) else (0 ≤ w v5 ∧ w v5 < ((24 : Nat) : Int) ∧ if w (rI μ_5 122 (w v5)) = 0 then (0 ≤ w ((24 * v3) + v5) ∧ w ((24 * v3) + v5) < ((288 : Nat) : Int) ∧ if (rB μ_5 172 (w ((24 * v3) + v5))) = true then (f_M_gain v2 v2 v4 μ_5 (fun r120 μ_6 => f_M_gain v2 v3 v5 μ_6 (fun r128 μ_7 => ∀ v6 : Int, v6 = r120 + r128 → f_M_gain v3 v2 v4 μ_7 (fun r139 μ_8 => f_M_gain v3 v3 v5 μ_8 (fun r147 μ_9 => ∀ v7 : Int, v7 = r139 + r147 → if 0 < w v6 then (if 0 < w v7 then (if w v1_3 < w (v6 + v7) then (∀ v1_4 : Int, v1_4 = v6 + v7 → ∀ μ_10 : Mem, μ_10 = sI μ_9 173 (w 0) v2 → ∀ μ_11 : Mem, μ_11 = sI μ_10 173 (w 1) v3 → ∀ μ_12 : Mem, μ_12 = sI μ_11 173 (w 2) v4 → ∀ μ_13 : Mem, μ_13 = sI μ_12 173 (w 3) v5 → ∀ μ_14 : Mem, μ_14 = sI μ_13 173 (w 4) v6 → ∀ μ_15 : Mem, μ_15 = sI μ_14 173 (w 5) v7 → (l_M_findDeal_71 v2 v3 v4 X_71_233 fu71) v1_4 (v5 + 1) μ_15) else ((l_M_findDeal_71 v2 v3 v4 X_71_233 fu71) v1_3 (v5 + 1) μ_9)) else ((l_M_findDeal_71 v2 v3 v4 X_71_233 fu71) v1_3 (v5 + 1) μ_9)) else ((l_M_findDeal_71 v2 v3 v4 X_71_233 fu71) v1_3 (v5 + 1) μ_9)))))) else ((l_M_findDeal_71 v2 v3 v4 X_71_233 fu71) v1_3 (v5 + 1) μ_5)) else ((l_M_findDeal_71 v2 v3 v4 X_71_233 fu71) v1_3 (v5 + 1) μ_5))) else (X_71_233 v1_3 μ_5)
def l_M_findDeal_31 (v2 : Int) (v3 : Int) (X_31_239 : Int → Mem → Prop) : Nat → Int → Int → Mem → Prop
  | 0, _, _, _ => False
  | fu31 + 1, v1_2, v4, μ_4 => if w v4 < w (rI μ_4 15472 0) then (0 ≤ w v4 ∧ w v4 < ((24 : Nat) : Int) ∧ if w (rI μ_4 122 (w v4)) = 0 then (0 ≤ w ((24 * v2) + v4) ∧ w ((24 * v2) + v4) < ((288 : Nat) : Int) ∧ if (rB μ_4 172 (w ((24 * v2) + v4))) = true then (∃ m71 : Nat, l_M_findDeal_71 v2 v3 v4 (fun (v1_5 : Int) (μ_16 : Mem) => (l_M_findDeal_31 v2 v3 X_31_239 fu31) v1_5 (v4 + 1) μ_16) m71 v1_2 0 μ_4) else ((l_M_findDeal_31 v2 v3 X_31_239 fu31) v1_2 (v4 + 1) μ_4)) else ((l_M_findDeal_31 v2 v3 X_31_239 fu31) v1_2 (v4 + 1) μ_4)) else (X_31_239 v1_2 μ_4)
def l_M_findDeal_20 (v2 : Int) (X_20_245 : Int → Mem → Prop) : Nat → Int → Int → Mem → Prop
  | 0, _, _, _ => False
  | fu20 + 1, v1_1, v3, μ_3 => if w v3 < w (rI μ_3 15466 0) then (∃ m31 : Nat, l_M_findDeal_31 v2 v3 (fun (v1_6 : Int) (μ_17 : Mem) => (l_M_findDeal_20 v2 X_20_245 fu20) v1_6 (v3 + 1) μ_17) m31 v1_1 0 μ_3) else (X_20_245 v1_1 μ_3)
def l_M_findDeal_8 (X_8_251 : Int → Mem → Prop) : Nat → Int → Int → Mem → Prop
  | 0, _, _, _ => False
  | fu8 + 1, v1, v2, μ_2 => if w v2 < w (rI μ_2 15466 0) then (∃ m20 : Nat, l_M_findDeal_20 v2 (fun (v1_7 : Int) (μ_18 : Mem) => (l_M_findDeal_8 X_8_251 fu8) v1_7 (v2 + 1) μ_18) m20 v1 (v2 + 1) μ_2) else (X_8_251 v1 μ_2)
def f_M_findDeal  (μ : Mem) (k : Bool → Mem → Prop) : Prop := f_M_findTurns  μ (fun μ_1 => ∃ m8 : Nat, l_M_findDeal_8 (fun (v1_8 : Int) (μ_19 : Mem) => ∀ x260 : Bool, x260 = (if 0 < w v1_8 then true else false) → k x260 μ_19) m8 0 0 μ_1)
theorem L_M_findDeal_71 {l : Launch} {Γ : Gam} {g : Nat} {v2 : Int} {v3 : Int} {v4 : Int} {X_71_233 : Int → Mem → Prop} {k : Bool → Mem → Prop} (hX_71_233 : ∀ (u1 : Int) (ν : Mem), StatR ν.2.2 → X_71_233 u1 ν → SW l Γ yX12_findDeal.cls cX12_findDeal Y_M_findDeal (pB k) g 175 0 0 ν 233 [(0, vr Γ 113), (1, vi u1), (2, vi v2), (3, vi v3), (4, vi v4)] []) (n9 : Nat) : ∀ (v1_3 : Int) (v5 : Int) (μ_5 : Mem), StatR μ_5.2.2 → l_M_findDeal_71 v2 v3 v4 X_71_233 n9 v1_3 v5 μ_5 → SW l Γ yX12_findDeal.cls cX12_findDeal Y_M_findDeal (pB k) g 175 0 0 μ_5 71 [(0, vr Γ 113), (1, vi v1_3), (2, vi v2), (3, vi v3), (4, vi v4), (5, vi v5)] [] := by
  induction n9 with
  | zero =>
    intro v1_3 v5 μ_5 hs h
    exact h.elim
  | succ n9 hR_71 =>
    intro v1_3 v5 μ_5 hs h
    rw [l_M_findDeal_71] at h
    refine z_iload dX12_findDeal_71 5 rfl ?_
    refine z_rload_n dX12_findDeal_73 rfl 0 rfl ?_
    refine z_getI (q := 15472) ff_12_8 dX12_findDeal_74 kt_113 (Nat.le_of_ble_eq_true rfl) fl_X12_231 rfl ?_
    refine z_icmp_ge (tgt := 233) dX12_findDeal_77 (by decide) h (fun h => ?_) (fun h => ?_)
    · refine z_iload dX12_findDeal_80 5 rfl ?_
      refine z_iload dX12_findDeal_82 4 rfl ?_
      refine z_icmp_eq (tgt := 227) dX12_findDeal_84 (by decide) h (fun h => ?_) (fun h => ?_)
      · refine z_iinc (j := 5) (lv' := [(5, vi (v5 + 1)), (0, vr Γ 113), (1, vi v1_3), (2, vi v2), (3, vi v3), (4, vi v4)]) dX12_findDeal_227 rfl (Nat.le_of_ble_eq_true rfl) rfl ?_
        refine z_goto (tgt := 71) dX12_findDeal_230 (by decide) ?_
        refine z_sub (lv' := [(0, vr Γ 113), (1, vi v1_3), (2, vi v2), (3, vi v3), (4, vi v4), (5, vi (v5 + 1))]) [1, 2, 3, 4, 5, 0] rfl ?_
        exact hR_71 v1_3 (v5 + 1) μ_5 hs h
      · refine z_rload_n dX12_findDeal_87 rfl 0 rfl ?_
        refine z_getR (q := 15481) ff_12_17 dX12_findDeal_88 kt_113 (Nat.le_of_ble_eq_true rfl) fl_X12_44 rfl (hs.1 _ _ sr_15481) ?_
        refine z_iload dX12_findDeal_91 5 rfl ?_
        obtain ⟨h0, h1, h⟩ := h
        refine z_iald dX12_findDeal_93 kt_122 (Nat.le_of_ble_eq_true rfl) h0 h1 ?_
        refine z_if_ne (tgt := 227) dX12_findDeal_94 (by decide) h (fun h => ?_) (fun h => ?_)
        · refine z_rload_n dX12_findDeal_97 rfl 0 rfl ?_
          refine z_getR (q := 15552) ff_12_88 dX12_findDeal_98 kt_113 (Nat.le_of_ble_eq_true rfl) fl_X12_203 rfl (hs.1 _ _ sr_15552) ?_
          refine z_bipush dX12_findDeal_101 (by decide) ?_
          refine z_iload_n dX12_findDeal_103 rfl 3 rfl ?_
          refine z_imul dX12_findDeal_104 ?_
          refine z_iload dX12_findDeal_105 5 rfl ?_
          refine z_iadd dX12_findDeal_107 ?_
          obtain ⟨h0, h1, h⟩ := h
          refine z_zald dX12_findDeal_108 kt_172 (Nat.le_of_ble_eq_true rfl) h0 h1 ?_
          refine z_ifne_b (tgt := 115) dX12_findDeal_109 (by decide) h (fun h => ?_) (fun h => ?_)
          · refine z_rload_n dX12_findDeal_115 rfl 0 rfl ?_
            refine z_iload_n dX12_findDeal_116 rfl 2 rfl ?_
            refine z_iload_n dX12_findDeal_117 rfl 2 rfl ?_
            refine z_iload dX12_findDeal_118 4 rfl ?_
            refine z_VI (i_M_gain  hs h) vk_X12_gain kt_113 (Nat.le_of_ble_eq_true rfl) rfl ml_X12_610 ⟨Nat.le_of_ble_eq_true rfl, Nat.le_of_ble_eq_true rfl⟩ ⟨Nat.zero_le _, Nat.zero_le _⟩ rfl rfl (Nat.le_of_ble_eq_true rfl) dX12_findDeal_120 (fun r120 μ_6 hs h => ?_)
            refine z_rload_n dX12_findDeal_123 rfl 0 rfl ?_
            refine z_iload_n dX12_findDeal_124 rfl 2 rfl ?_
            refine z_iload_n dX12_findDeal_125 rfl 3 rfl ?_
            refine z_iload dX12_findDeal_126 5 rfl ?_
            refine z_VI (i_M_gain  hs h) vk_X12_gain kt_113 (Nat.le_of_ble_eq_true rfl) rfl ml_X12_610 ⟨Nat.le_of_ble_eq_true rfl, Nat.le_of_ble_eq_true rfl⟩ ⟨Nat.zero_le _, Nat.zero_le _⟩ rfl rfl (Nat.le_of_ble_eq_true rfl) dX12_findDeal_128 (fun r128 μ_7 hs h => ?_)
            refine z_iadd dX12_findDeal_131 ?_
            refine z_nm (fun v6 ev6 => ?_)
            replace h := h v6 ev6
            refine z_istore (lv' := [(6, vi v6), (0, vr Γ 113), (1, vi v1_3), (2, vi v2), (3, vi v3), (4, vi v4), (5, vi v5)]) dX12_findDeal_132 (Nat.le_of_ble_eq_true rfl) rfl ?_
            refine z_rload_n dX12_findDeal_134 rfl 1 rfl ?_
            refine z_iload_n dX12_findDeal_135 rfl 4 rfl ?_
            refine z_iload_n dX12_findDeal_136 rfl 3 rfl ?_
            refine z_iload dX12_findDeal_137 5 rfl ?_
            refine z_VI (i_M_gain  hs h) vk_X12_gain kt_113 (Nat.le_of_ble_eq_true rfl) rfl ml_X12_610 ⟨Nat.le_of_ble_eq_true rfl, Nat.le_of_ble_eq_true rfl⟩ ⟨Nat.zero_le _, Nat.zero_le _⟩ rfl rfl (Nat.le_of_ble_eq_true rfl) dX12_findDeal_139 (fun r139 μ_8 hs h => ?_)
            refine z_rload_n dX12_findDeal_142 rfl 1 rfl ?_
            refine z_iload_n dX12_findDeal_143 rfl 4 rfl ?_
            refine z_iload_n dX12_findDeal_144 rfl 4 rfl ?_
            refine z_iload dX12_findDeal_145 6 rfl ?_
            refine z_VI (i_M_gain  hs h) vk_X12_gain kt_113 (Nat.le_of_ble_eq_true rfl) rfl ml_X12_610 ⟨Nat.le_of_ble_eq_true rfl, Nat.le_of_ble_eq_true rfl⟩ ⟨Nat.zero_le _, Nat.zero_le _⟩ rfl rfl (Nat.le_of_ble_eq_true rfl) dX12_findDeal_147 (fun r147 μ_9 hs h => ?_)
            refine z_iadd dX12_findDeal_150 ?_
            refine z_nm (fun v7 ev7 => ?_)
            replace h := h v7 ev7
            refine z_istore (lv' := [(7, vi v7), (6, vi v6), (0, vr Γ 113), (1, vi v1_3), (2, vi v2), (3, vi v3), (4, vi v4), (5, vi v5)]) dX12_findDeal_151 (Nat.le_of_ble_eq_true rfl) rfl ?_
            refine z_iload dX12_findDeal_153 1 rfl ?_
            refine z_if_le (tgt := 227) dX12_findDeal_155 (by decide) h (fun h => ?_) (fun h => ?_)
            · refine z_iload dX12_findDeal_158 0 rfl ?_
              refine z_if_le (tgt := 227) dX12_findDeal_160 (by decide) h (fun h => ?_) (fun h => ?_)
              · refine z_iload dX12_findDeal_163 1 rfl ?_
                refine z_iload dX12_findDeal_165 0 rfl ?_
                refine z_iadd dX12_findDeal_167 ?_
                refine z_iload_n dX12_findDeal_168 rfl 3 rfl ?_
                refine z_icmp_gt (tgt := 175) dX12_findDeal_169 (by decide) h (fun h => ?_) (fun h => ?_)
                · refine z_iload dX12_findDeal_175 1 rfl ?_
                  refine z_iload dX12_findDeal_177 0 rfl ?_
                  refine z_iadd dX12_findDeal_179 ?_
                  refine z_nm (fun v1_4 ev1_4 => ?_)
                  replace h := h v1_4 ev1_4
                  refine z_istore_n (lv' := [(1, vi v1_4), (7, vi v7), (6, vi v6), (0, vr Γ 113), (2, vi v2), (3, vi v3), (4, vi v4), (5, vi v5)]) dX12_findDeal_180 rfl (Nat.le_of_ble_eq_true rfl) rfl ?_
                  refine z_rload_n dX12_findDeal_181 rfl 3 rfl ?_
                  refine z_getR (q := 15553) ff_12_89 dX12_findDeal_182 kt_113 (Nat.le_of_ble_eq_true rfl) fl_X12_206 rfl (hs.1 _ _ sr_15553) ?_
                  refine z_iconst dX12_findDeal_185 ?_
                  refine z_iload_n dX12_findDeal_186 rfl 4 rfl ?_
                  refine z_iast dX12_findDeal_187 kt_173 (Nat.le_of_ble_eq_true rfl) (by decide) (by decide) ?_
                  refine z_mm (fun μ_10 eμ_10 => ?_)
                  replace h := h μ_10 eμ_10
                  replace hs : StatR μ_10.2.2 := by rw [eμ_10]; exact hs
                  refine z_rload_n dX12_findDeal_188 rfl 3 rfl ?_
                  refine z_getR (q := 15553) ff_12_89 dX12_findDeal_189 kt_113 (Nat.le_of_ble_eq_true rfl) fl_X12_206 rfl (hs.1 _ _ sr_15553) ?_
                  refine z_iconst dX12_findDeal_192 ?_
                  refine z_iload_n dX12_findDeal_193 rfl 5 rfl ?_
                  refine z_iast dX12_findDeal_194 kt_173 (Nat.le_of_ble_eq_true rfl) (by decide) (by decide) ?_
                  refine z_mm (fun μ_11 eμ_11 => ?_)
                  replace h := h μ_11 eμ_11
                  replace hs : StatR μ_11.2.2 := by rw [eμ_11]; exact hs
                  refine z_rload_n dX12_findDeal_195 rfl 3 rfl ?_
                  refine z_getR (q := 15553) ff_12_89 dX12_findDeal_196 kt_113 (Nat.le_of_ble_eq_true rfl) fl_X12_206 rfl (hs.1 _ _ sr_15553) ?_
                  refine z_iconst dX12_findDeal_199 ?_
                  refine z_iload dX12_findDeal_200 6 rfl ?_
                  refine z_iast dX12_findDeal_202 kt_173 (Nat.le_of_ble_eq_true rfl) (by decide) (by decide) ?_
                  refine z_mm (fun μ_12 eμ_12 => ?_)
                  replace h := h μ_12 eμ_12
                  replace hs : StatR μ_12.2.2 := by rw [eμ_12]; exact hs
                  refine z_rload_n dX12_findDeal_203 rfl 3 rfl ?_
                  refine z_getR (q := 15553) ff_12_89 dX12_findDeal_204 kt_113 (Nat.le_of_ble_eq_true rfl) fl_X12_206 rfl (hs.1 _ _ sr_15553) ?_
                  refine z_iconst dX12_findDeal_207 ?_
                  refine z_iload dX12_findDeal_208 7 rfl ?_
                  refine z_iast dX12_findDeal_210 kt_173 (Nat.le_of_ble_eq_true rfl) (by decide) (by decide) ?_
                  refine z_mm (fun μ_13 eμ_13 => ?_)
                  replace h := h μ_13 eμ_13
                  replace hs : StatR μ_13.2.2 := by rw [eμ_13]; exact hs
                  refine z_rload_n dX12_findDeal_211 rfl 3 rfl ?_
                  refine z_getR (q := 15553) ff_12_89 dX12_findDeal_212 kt_113 (Nat.le_of_ble_eq_true rfl) fl_X12_206 rfl (hs.1 _ _ sr_15553) ?_
                  refine z_iconst dX12_findDeal_215 ?_
                  refine z_iload dX12_findDeal_216 2 rfl ?_
                  refine z_iast dX12_findDeal_218 kt_173 (Nat.le_of_ble_eq_true rfl) (by decide) (by decide) ?_
                  refine z_mm (fun μ_14 eμ_14 => ?_)
                  replace h := h μ_14 eμ_14
                  replace hs : StatR μ_14.2.2 := by rw [eμ_14]; exact hs
                  refine z_rload_n dX12_findDeal_219 rfl 3 rfl ?_
                  refine z_getR (q := 15553) ff_12_89 dX12_findDeal_220 kt_113 (Nat.le_of_ble_eq_true rfl) fl_X12_206 rfl (hs.1 _ _ sr_15553) ?_
                  refine z_iconst dX12_findDeal_223 ?_
                  refine z_iload dX12_findDeal_224 1 rfl ?_
                  refine z_iast dX12_findDeal_226 kt_173 (Nat.le_of_ble_eq_true rfl) (by decide) (by decide) ?_
                  refine z_mm (fun μ_15 eμ_15 => ?_)
                  replace h := h μ_15 eμ_15
                  replace hs : StatR μ_15.2.2 := by rw [eμ_15]; exact hs
                  refine z_iinc (j := 7) (lv' := [(5, vi (v5 + 1)), (1, vi v1_4), (7, vi v7), (6, vi v6), (0, vr Γ 113), (2, vi v2), (3, vi v3), (4, vi v4)]) dX12_findDeal_227 rfl (Nat.le_of_ble_eq_true rfl) rfl ?_
                  refine z_goto (tgt := 71) dX12_findDeal_230 (by decide) ?_
                  refine z_sub (lv' := [(0, vr Γ 113), (1, vi v1_4), (2, vi v2), (3, vi v3), (4, vi v4), (5, vi (v5 + 1))]) [4, 1, 5, 6, 7, 0] rfl ?_
                  exact hR_71 v1_4 (v5 + 1) μ_15 hs h
                · refine z_goto (tgt := 227) dX12_findDeal_172 (by decide) ?_
                  refine z_iinc (j := 7) (lv' := [(5, vi (v5 + 1)), (7, vi v7), (6, vi v6), (0, vr Γ 113), (1, vi v1_3), (2, vi v2), (3, vi v3), (4, vi v4)]) dX12_findDeal_227 rfl (Nat.le_of_ble_eq_true rfl) rfl ?_
                  refine z_goto (tgt := 71) dX12_findDeal_230 (by decide) ?_
                  refine z_sub (lv' := [(0, vr Γ 113), (1, vi v1_3), (2, vi v2), (3, vi v3), (4, vi v4), (5, vi (v5 + 1))]) [3, 4, 5, 6, 7, 0] rfl ?_
                  exact hR_71 v1_3 (v5 + 1) μ_9 hs h
              · refine z_iinc (j := 7) (lv' := [(5, vi (v5 + 1)), (7, vi v7), (6, vi v6), (0, vr Γ 113), (1, vi v1_3), (2, vi v2), (3, vi v3), (4, vi v4)]) dX12_findDeal_227 rfl (Nat.le_of_ble_eq_true rfl) rfl ?_
                refine z_goto (tgt := 71) dX12_findDeal_230 (by decide) ?_
                refine z_sub (lv' := [(0, vr Γ 113), (1, vi v1_3), (2, vi v2), (3, vi v3), (4, vi v4), (5, vi (v5 + 1))]) [3, 4, 5, 6, 7, 0] rfl ?_
                exact hR_71 v1_3 (v5 + 1) μ_9 hs h
            · refine z_iinc (j := 7) (lv' := [(5, vi (v5 + 1)), (7, vi v7), (6, vi v6), (0, vr Γ 113), (1, vi v1_3), (2, vi v2), (3, vi v3), (4, vi v4)]) dX12_findDeal_227 rfl (Nat.le_of_ble_eq_true rfl) rfl ?_
              refine z_goto (tgt := 71) dX12_findDeal_230 (by decide) ?_
              refine z_sub (lv' := [(0, vr Γ 113), (1, vi v1_3), (2, vi v2), (3, vi v3), (4, vi v4), (5, vi (v5 + 1))]) [3, 4, 5, 6, 7, 0] rfl ?_
              exact hR_71 v1_3 (v5 + 1) μ_9 hs h
          · refine z_goto (tgt := 227) dX12_findDeal_112 (by decide) ?_
            refine z_iinc (j := 5) (lv' := [(5, vi (v5 + 1)), (0, vr Γ 113), (1, vi v1_3), (2, vi v2), (3, vi v3), (4, vi v4)]) dX12_findDeal_227 rfl (Nat.le_of_ble_eq_true rfl) rfl ?_
            refine z_goto (tgt := 71) dX12_findDeal_230 (by decide) ?_
            refine z_sub (lv' := [(0, vr Γ 113), (1, vi v1_3), (2, vi v2), (3, vi v3), (4, vi v4), (5, vi (v5 + 1))]) [1, 2, 3, 4, 5, 0] rfl ?_
            exact hR_71 v1_3 (v5 + 1) μ_5 hs h
        · refine z_iinc (j := 5) (lv' := [(5, vi (v5 + 1)), (0, vr Γ 113), (1, vi v1_3), (2, vi v2), (3, vi v3), (4, vi v4)]) dX12_findDeal_227 rfl (Nat.le_of_ble_eq_true rfl) rfl ?_
          refine z_goto (tgt := 71) dX12_findDeal_230 (by decide) ?_
          refine z_sub (lv' := [(0, vr Γ 113), (1, vi v1_3), (2, vi v2), (3, vi v3), (4, vi v4), (5, vi (v5 + 1))]) [1, 2, 3, 4, 5, 0] rfl ?_
          exact hR_71 v1_3 (v5 + 1) μ_5 hs h
    · refine z_sub (lv' := [(0, vr Γ 113), (1, vi v1_3), (2, vi v2), (3, vi v3), (4, vi v4)]) [0, 1, 2, 3, 4] rfl ?_
      exact hX_71_233 v1_3 μ_5 hs h
theorem L_M_findDeal_31 {l : Launch} {Γ : Gam} {g : Nat} {v2 : Int} {v3 : Int} {X_31_239 : Int → Mem → Prop} {k : Bool → Mem → Prop} (hX_31_239 : ∀ (u1 : Int) (ν : Mem), StatR ν.2.2 → X_31_239 u1 ν → SW l Γ yX12_findDeal.cls cX12_findDeal Y_M_findDeal (pB k) g 175 0 0 ν 239 [(0, vr Γ 113), (1, vi u1), (2, vi v2), (3, vi v3)] []) (n9 : Nat) : ∀ (v1_2 : Int) (v4 : Int) (μ_4 : Mem), StatR μ_4.2.2 → l_M_findDeal_31 v2 v3 X_31_239 n9 v1_2 v4 μ_4 → SW l Γ yX12_findDeal.cls cX12_findDeal Y_M_findDeal (pB k) g 175 0 0 μ_4 31 [(0, vr Γ 113), (1, vi v1_2), (2, vi v2), (3, vi v3), (4, vi v4)] [] := by
  induction n9 with
  | zero =>
    intro v1_2 v4 μ_4 hs h
    exact h.elim
  | succ n9 hR_31 =>
    intro v1_2 v4 μ_4 hs h
    rw [l_M_findDeal_31] at h
    refine z_iload dX12_findDeal_31 4 rfl ?_
    refine z_rload_n dX12_findDeal_33 rfl 0 rfl ?_
    refine z_getI (q := 15472) ff_12_8 dX12_findDeal_34 kt_113 (Nat.le_of_ble_eq_true rfl) fl_X12_231 rfl ?_
    refine z_icmp_ge (tgt := 239) dX12_findDeal_37 (by decide) h (fun h => ?_) (fun h => ?_)
    · refine z_rload_n dX12_findDeal_40 rfl 0 rfl ?_
      refine z_getR (q := 15481) ff_12_17 dX12_findDeal_41 kt_113 (Nat.le_of_ble_eq_true rfl) fl_X12_44 rfl (hs.1 _ _ sr_15481) ?_
      refine z_iload dX12_findDeal_44 4 rfl ?_
      obtain ⟨h0, h1, h⟩ := h
      refine z_iald dX12_findDeal_46 kt_122 (Nat.le_of_ble_eq_true rfl) h0 h1 ?_
      refine z_if_ne (tgt := 233) dX12_findDeal_47 (by decide) h (fun h => ?_) (fun h => ?_)
      · refine z_rload_n dX12_findDeal_50 rfl 0 rfl ?_
        refine z_getR (q := 15552) ff_12_88 dX12_findDeal_51 kt_113 (Nat.le_of_ble_eq_true rfl) fl_X12_203 rfl (hs.1 _ _ sr_15552) ?_
        refine z_bipush dX12_findDeal_54 (by decide) ?_
        refine z_iload_n dX12_findDeal_56 rfl 2 rfl ?_
        refine z_imul dX12_findDeal_57 ?_
        refine z_iload dX12_findDeal_58 4 rfl ?_
        refine z_iadd dX12_findDeal_60 ?_
        obtain ⟨h0, h1, h⟩ := h
        refine z_zald dX12_findDeal_61 kt_172 (Nat.le_of_ble_eq_true rfl) h0 h1 ?_
        refine z_ifne_b (tgt := 68) dX12_findDeal_62 (by decide) h (fun h => ?_) (fun h => ?_)
        · refine z_iconst dX12_findDeal_68 ?_
          refine z_istore (lv' := [(5, vi 0), (0, vr Γ 113), (1, vi v1_2), (2, vi v2), (3, vi v3), (4, vi v4)]) dX12_findDeal_69 (Nat.le_of_ble_eq_true rfl) rfl ?_
          obtain ⟨m71, h⟩ := h
          refine z_sub (lv' := [(0, vr Γ 113), (1, vi v1_2), (2, vi v2), (3, vi v3), (4, vi v4), (5, vi 0)]) [1, 2, 3, 4, 5, 0] rfl ?_
          refine L_M_findDeal_71 (fun v1_5 μ_16 hs h => ?_) m71 v1_2 0 μ_4 hs h
          refine z_iinc (j := 4) (lv' := [(4, vi (v4 + 1)), (0, vr Γ 113), (1, vi v1_5), (2, vi v2), (3, vi v3)]) dX12_findDeal_233 rfl (Nat.le_of_ble_eq_true rfl) rfl ?_
          refine z_goto (tgt := 31) dX12_findDeal_236 (by decide) ?_
          refine z_sub (lv' := [(0, vr Γ 113), (1, vi v1_5), (2, vi v2), (3, vi v3), (4, vi (v4 + 1))]) [1, 2, 3, 4, 0] rfl ?_
          exact hR_31 v1_5 (v4 + 1) μ_16 hs h
        · refine z_goto (tgt := 233) dX12_findDeal_65 (by decide) ?_
          refine z_iinc (j := 4) (lv' := [(4, vi (v4 + 1)), (0, vr Γ 113), (1, vi v1_2), (2, vi v2), (3, vi v3)]) dX12_findDeal_233 rfl (Nat.le_of_ble_eq_true rfl) rfl ?_
          refine z_goto (tgt := 31) dX12_findDeal_236 (by decide) ?_
          refine z_sub (lv' := [(0, vr Γ 113), (1, vi v1_2), (2, vi v2), (3, vi v3), (4, vi (v4 + 1))]) [1, 2, 3, 4, 0] rfl ?_
          exact hR_31 v1_2 (v4 + 1) μ_4 hs h
      · refine z_iinc (j := 4) (lv' := [(4, vi (v4 + 1)), (0, vr Γ 113), (1, vi v1_2), (2, vi v2), (3, vi v3)]) dX12_findDeal_233 rfl (Nat.le_of_ble_eq_true rfl) rfl ?_
        refine z_goto (tgt := 31) dX12_findDeal_236 (by decide) ?_
        refine z_sub (lv' := [(0, vr Γ 113), (1, vi v1_2), (2, vi v2), (3, vi v3), (4, vi (v4 + 1))]) [1, 2, 3, 4, 0] rfl ?_
        exact hR_31 v1_2 (v4 + 1) μ_4 hs h
    · refine z_sub (lv' := [(0, vr Γ 113), (1, vi v1_2), (2, vi v2), (3, vi v3)]) [0, 1, 2, 3] rfl ?_
      exact hX_31_239 v1_2 μ_4 hs h
theorem L_M_findDeal_20 {l : Launch} {Γ : Gam} {g : Nat} {v2 : Int} {X_20_245 : Int → Mem → Prop} {k : Bool → Mem → Prop} (hX_20_245 : ∀ (u1 : Int) (ν : Mem), StatR ν.2.2 → X_20_245 u1 ν → SW l Γ yX12_findDeal.cls cX12_findDeal Y_M_findDeal (pB k) g 175 0 0 ν 245 [(0, vr Γ 113), (1, vi u1), (2, vi v2)] []) (n9 : Nat) : ∀ (v1_1 : Int) (v3 : Int) (μ_3 : Mem), StatR μ_3.2.2 → l_M_findDeal_20 v2 X_20_245 n9 v1_1 v3 μ_3 → SW l Γ yX12_findDeal.cls cX12_findDeal Y_M_findDeal (pB k) g 175 0 0 μ_3 20 [(0, vr Γ 113), (1, vi v1_1), (2, vi v2), (3, vi v3)] [] := by
  induction n9 with
  | zero =>
    intro v1_1 v3 μ_3 hs h
    exact h.elim
  | succ n9 hR_20 =>
    intro v1_1 v3 μ_3 hs h
    rw [l_M_findDeal_20] at h
    refine z_iload_n dX12_findDeal_20 rfl 3 rfl ?_
    refine z_rload_n dX12_findDeal_21 rfl 0 rfl ?_
    refine z_getI (q := 15466) ff_12_2 dX12_findDeal_22 kt_113 (Nat.le_of_ble_eq_true rfl) fl_X12_209 rfl ?_
    refine z_icmp_ge (tgt := 245) dX12_findDeal_25 (by decide) h (fun h => ?_) (fun h => ?_)
    · refine z_iconst dX12_findDeal_28 ?_
      refine z_istore (lv' := [(4, vi 0), (0, vr Γ 113), (1, vi v1_1), (2, vi v2), (3, vi v3)]) dX12_findDeal_29 (Nat.le_of_ble_eq_true rfl) rfl ?_
      obtain ⟨m31, h⟩ := h
      refine z_sub (lv' := [(0, vr Γ 113), (1, vi v1_1), (2, vi v2), (3, vi v3), (4, vi 0)]) [1, 2, 3, 4, 0] rfl ?_
      refine L_M_findDeal_31 (fun v1_6 μ_17 hs h => ?_) m31 v1_1 0 μ_3 hs h
      refine z_iinc (j := 3) (lv' := [(3, vi (v3 + 1)), (0, vr Γ 113), (1, vi v1_6), (2, vi v2)]) dX12_findDeal_239 rfl (Nat.le_of_ble_eq_true rfl) rfl ?_
      refine z_goto (tgt := 20) dX12_findDeal_242 (by decide) ?_
      refine z_sub (lv' := [(0, vr Γ 113), (1, vi v1_6), (2, vi v2), (3, vi (v3 + 1))]) [1, 2, 3, 0] rfl ?_
      exact hR_20 v1_6 (v3 + 1) μ_17 hs h
    · refine z_sub (lv' := [(0, vr Γ 113), (1, vi v1_1), (2, vi v2)]) [0, 1, 2] rfl ?_
      exact hX_20_245 v1_1 μ_3 hs h
theorem L_M_findDeal_8 {l : Launch} {Γ : Gam} {g : Nat} {X_8_251 : Int → Mem → Prop} {k : Bool → Mem → Prop} (hX_8_251 : ∀ (u1 : Int) (ν : Mem), StatR ν.2.2 → X_8_251 u1 ν → SW l Γ yX12_findDeal.cls cX12_findDeal Y_M_findDeal (pB k) g 175 0 0 ν 251 [(1, vi u1)] []) (n9 : Nat) : ∀ (v1 : Int) (v2 : Int) (μ_2 : Mem), StatR μ_2.2.2 → l_M_findDeal_8 X_8_251 n9 v1 v2 μ_2 → SW l Γ yX12_findDeal.cls cX12_findDeal Y_M_findDeal (pB k) g 175 0 0 μ_2 8 [(0, vr Γ 113), (1, vi v1), (2, vi v2)] [] := by
  induction n9 with
  | zero =>
    intro v1 v2 μ_2 hs h
    exact h.elim
  | succ n9 hR_8 =>
    intro v1 v2 μ_2 hs h
    rw [l_M_findDeal_8] at h
    refine z_iload_n dX12_findDeal_8 rfl 2 rfl ?_
    refine z_rload_n dX12_findDeal_9 rfl 0 rfl ?_
    refine z_getI (q := 15466) ff_12_2 dX12_findDeal_10 kt_113 (Nat.le_of_ble_eq_true rfl) fl_X12_209 rfl ?_
    refine z_icmp_ge (tgt := 251) dX12_findDeal_13 (by decide) h (fun h => ?_) (fun h => ?_)
    · refine z_iload_n dX12_findDeal_16 rfl 2 rfl ?_
      refine z_iconst dX12_findDeal_17 ?_
      refine z_iadd dX12_findDeal_18 ?_
      refine z_istore_n (lv' := [(3, vi (v2 + 1)), (0, vr Γ 113), (1, vi v1), (2, vi v2)]) dX12_findDeal_19 rfl (Nat.le_of_ble_eq_true rfl) rfl ?_
      obtain ⟨m20, h⟩ := h
      refine z_sub (lv' := [(0, vr Γ 113), (1, vi v1), (2, vi v2), (3, vi (v2 + 1))]) [1, 2, 3, 0] rfl ?_
      refine L_M_findDeal_20 (fun v1_7 μ_18 hs h => ?_) m20 v1 (v2 + 1) μ_2 hs h
      refine z_iinc (j := 2) (lv' := [(2, vi (v2 + 1)), (0, vr Γ 113), (1, vi v1_7)]) dX12_findDeal_245 rfl (Nat.le_of_ble_eq_true rfl) rfl ?_
      refine z_goto (tgt := 8) dX12_findDeal_248 (by decide) ?_
      refine z_sub (lv' := [(0, vr Γ 113), (1, vi v1_7), (2, vi (v2 + 1))]) [1, 2, 0] rfl ?_
      exact hR_8 v1_7 (v2 + 1) μ_18 hs h
    · refine z_sub (lv' := [(1, vi v1)]) [1] rfl ?_
      exact hX_8_251 v1 μ_2 hs h
theorem i_M_findDeal {l : Launch} {Γ : Gam} {g : Nat} {μ : Mem} {k : Bool → Mem → Prop} (hs : StatR μ.2.2) (h : f_M_findDeal  μ k) : CT l Γ yX12_findDeal cX12_findDeal 8 (some .boolean) 7 166 0 0 [vr Γ 113] g 175 μ (pB k) := by
  refine SW.ct (by decide) (Nat.le_of_ble_eq_true rfl) ?_
  refine z_sub (lv' := [(0, vr Γ 113)]) [0] rfl ?_
  show SW l Γ yX12_findDeal.cls cX12_findDeal Y_M_findDeal (pB k) g 175 0 0 μ 0 [(0, vr Γ 113)] []
  unfold f_M_findDeal at h
  refine z_rload_n dX12_findDeal_0 rfl 0 rfl ?_
  refine z_VU (i_M_findTurns  hs h) vk_X12_findTurns kt_113 (Nat.le_of_ble_eq_true rfl) rfl ml_X12_607 ⟨Nat.le_of_ble_eq_true rfl, Nat.le_of_ble_eq_true rfl⟩ ⟨Nat.zero_le _, Nat.zero_le _⟩ rfl rfl (Nat.le_of_ble_eq_true rfl) dX12_findDeal_1 (fun μ_1 hs h => ?_)
  refine z_iconst dX12_findDeal_4 ?_
  refine z_istore_n (lv' := [(1, vi 0), (0, vr Γ 113)]) dX12_findDeal_5 rfl (Nat.le_of_ble_eq_true rfl) rfl ?_
  refine z_iconst dX12_findDeal_6 ?_
  refine z_istore_n (lv' := [(2, vi 0), (1, vi 0), (0, vr Γ 113)]) dX12_findDeal_7 rfl (Nat.le_of_ble_eq_true rfl) rfl ?_
  obtain ⟨m8, h⟩ := h
  refine z_sub (lv' := [(0, vr Γ 113), (1, vi 0), (2, vi 0)]) [2, 1, 0] rfl ?_
  refine L_M_findDeal_8 (fun v1_8 μ_19 hs h => ?_) m8 0 0 μ_1 hs h
  refine z_iload_n dX12_findDeal_251 rfl 0 rfl ?_
  refine z_phiB 260 [] (fun V9 hv J9 => ?_) h (fun x260 h => ?_)
  · refine z_if_le (tgt := 259) dX12_findDeal_252 (by decide) (eq_ite hv) (fun hv => ?_) (fun hv => ?_)
    · refine z_iconst dX12_findDeal_255 ?_
      refine z_goto (tgt := 260) dX12_findDeal_256 (by decide) ?_
      exact J9 true hv.symm
    · refine z_iconst dX12_findDeal_259 ?_
      exact J9 false hv.symm
  · exact z_zret (b := x260) rfl dX12_findDeal_260 rfl rfl rfl ⟨_, rfl, hs, h⟩
abbrev Y_M_deal : Yt := (2, (some .int), yX12_deal.name, { frames := 8, cells := 0, slots := 0, locals := 193 }, 175, 0, 0)
def f_M_deal (a1 : Int) (μ : Mem) (k : Int → Mem → Prop) : Prop := ∀ μ_1 : Mem, μ_1 = sI μ 15464 0 0 → if (v_M_within a1 0 5) = true then (f_M_findDeal  μ_1 (fun r15 μ_2 => if r15 = true then (0 ≤ w a1 ∧ w a1 < ((6 : Nat) : Int) ∧ k (rI μ_2 173 (w a1)) μ_2) else (k (-1) μ_2))) else (k (-1) μ_1)
theorem i_M_deal {l : Launch} {Γ : Gam} {g : Nat} {a1 : Int} {μ : Mem} {k : Int → Mem → Prop} (hs : StatR μ.2.2) (h : f_M_deal a1 μ k) : CT l Γ yX12_deal cX12_deal 2 (some .int) 8 193 0 0 [vr Γ 113, vi a1] g 175 μ (pI k) := by
  refine SW.ct (by decide) (Nat.le_of_ble_eq_true rfl) ?_
  refine z_sub (lv' := [(0, vr Γ 113), (1, vi a1)]) [0, 1] rfl ?_
  show SW l Γ yX12_deal.cls cX12_deal Y_M_deal (pI k) g 175 0 0 μ 0 [(0, vr Γ 113), (1, vi a1)] []
  unfold f_M_deal at h
  refine z_rload_n dX12_deal_0 rfl 0 rfl ?_
  refine z_iconst dX12_deal_1 ?_
  refine z_putI (q := 15464) ff_12_0 (Or.inl rfl) rfl dX12_deal_2 kt_113 (Nat.le_of_ble_eq_true rfl) fl_X12_1 rfl ?_
  refine z_mm (fun μ_1 eμ_1 => ?_)
  replace h := h μ_1 eμ_1
  replace hs : StatR μ_1.2.2 := by rw [eμ_1]; exact hs
  refine z_iload_n dX12_deal_5 rfl 1 rfl ?_
  refine z_iconst dX12_deal_6 ?_
  refine z_iconst dX12_deal_7 ?_
  refine z_SE (i_M_within ) sk_X12_within ml_X12_215 ⟨Nat.le_of_ble_eq_true rfl, Nat.le_of_ble_eq_true rfl⟩ ⟨Nat.zero_le _, Nat.zero_le _⟩ rfl rfl (Nat.le_of_ble_eq_true rfl) dX12_deal_8 ?_
  refine z_ifeq_b (tgt := 30) dX12_deal_11 (by decide) h (fun h => ?_) (fun h => ?_)
  · refine z_rload_n dX12_deal_14 rfl 0 rfl ?_
    refine z_VB (i_M_findDeal  hs h) vk_X12_findDeal kt_113 (Nat.le_of_ble_eq_true rfl) rfl ml_X12_613 ⟨Nat.le_of_ble_eq_true rfl, Nat.le_of_ble_eq_true rfl⟩ ⟨Nat.zero_le _, Nat.zero_le _⟩ rfl rfl (Nat.le_of_ble_eq_true rfl) dX12_deal_15 (fun r15 μ_2 hs h => ?_)
    refine z_ifeq_b (tgt := 30) dX12_deal_18 (by decide) h (fun h => ?_) (fun h => ?_)
    · refine z_rload_n dX12_deal_21 rfl 0 rfl ?_
      refine z_getR (q := 15553) ff_12_89 dX12_deal_22 kt_113 (Nat.le_of_ble_eq_true rfl) fl_X12_206 rfl (hs.1 _ _ sr_15553) ?_
      refine z_iload_n dX12_deal_25 rfl 1 rfl ?_
      obtain ⟨h0, h1, h⟩ := h
      refine z_iald dX12_deal_26 kt_173 (Nat.le_of_ble_eq_true rfl) h0 h1 ?_
      refine z_goto (tgt := 31) dX12_deal_27 (by decide) ?_
      exact z_iret rfl dX12_deal_31 rfl rfl rfl ⟨_, rfl, hs, h⟩
    · refine z_iconst dX12_deal_30 ?_
      exact z_iret rfl dX12_deal_31 rfl rfl rfl ⟨_, rfl, hs, h⟩
  · refine z_iconst dX12_deal_30 ?_
    exact z_iret rfl dX12_deal_31 rfl rfl rfl ⟨_, rfl, hs, h⟩
abbrev Y_M_count : Yt := (4, (some .int), yX12_count.name, { frames := 0, cells := 0, slots := 0, locals := 0 }, 175, 0, 0)
def l_M_count_124 (μ_1 : Mem) (X_124_150 : Int → Prop) : Nat → Int → Int → Prop
  | 0, _, _ => False
  | fu124 + 1, v2, v3 => if w v3 < w (rI μ_1 15472 0) then (0 ≤ w v3 ∧ w v3 < ((24 : Nat) : Int) ∧ if w (rI μ_1 122 (w v3)) = 0 then ((l_M_count_124 μ_1 X_124_150 fu124) (v2 + 1) (v3 + 1)) else ((l_M_count_124 μ_1 X_124_150 fu124) v2 (v3 + 1))) else (X_124_150 v2)
def l_M_count_154 (μ_1 : Mem) (X_154_178 : Int → Prop) : Nat → Int → Int → Prop
  | 0, _, _ => False
  | fu154 + 1, v2_2, v3_1 => if w 60 < w v3_1 then (X_154_178 v2_2) else (0 ≤ w v3_1 ∧ w v3_1 < ((61 : Nat) : Int) ∧ if w (rI μ_1 129 (w v3_1)) = 0 then ((l_M_count_154 μ_1 X_154_178 fu154) v2_2 (v3_1 + 1)) else ((l_M_count_154 μ_1 X_154_178 fu154) (v2_2 + 1) (v3_1 + 1)))
def f_M_count (a1 : Int) (μ : Mem) (k : Int → Mem → Prop) : Prop := ∀ μ_1 : Mem, μ_1 = sI μ 15464 0 0 → if w a1 = 0 then (k (rI μ_1 15465 0) μ_1) else (if w a1 = 1 then (k (rI μ_1 15466 0) μ_1) else (if w a1 = 2 then (k (rI μ_1 15468 0) μ_1) else (if w a1 = 3 then (k (rI μ_1 15498 0) μ_1) else (if w a1 = 4 then (k (rI μ_1 15472 0) μ_1) else (if w a1 = 5 then (k (rI μ_1 15474 0) μ_1) else (if w a1 = 6 then (k (rI μ_1 15479 0) μ_1) else (if w a1 = 7 then (k (rI μ_1 15480 0) μ_1) else (if w a1 = 8 then (k (rI μ_1 15534 0) μ_1) else (if w a1 = 9 then (k (rI μ_1 15512 0) μ_1) else (if w a1 = 10 then (∃ m124 : Nat, l_M_count_124 μ_1 (fun (v2_1 : Int) => k v2_1 μ_1) m124 0 0) else (if w a1 = 11 then (∃ m154 : Nat, l_M_count_154 μ_1 (fun (v2_3 : Int) => k v2_3 μ_1) m154 0 1) else (k (-1) μ_1))))))))))))
theorem L_M_count_124 {l : Launch} {Γ : Gam} {g : Nat} {μ_1 : Mem} {X_124_150 : Int → Prop} {k : Int → Mem → Prop} (hs : StatR μ_1.2.2) (hX_124_150 : ∀ (u2 : Int), X_124_150 u2 → SW l Γ yX12_count.cls cX12_count Y_M_count (pI k) g 175 0 0 μ_1 150 [(2, vi u2)] []) (n9 : Nat) : ∀ (v2 : Int) (v3 : Int), l_M_count_124 μ_1 X_124_150 n9 v2 v3 → SW l Γ yX12_count.cls cX12_count Y_M_count (pI k) g 175 0 0 μ_1 124 [(0, vr Γ 113), (2, vi v2), (3, vi v3)] [] := by
  induction n9 with
  | zero =>
    intro v2 v3 h
    exact h.elim
  | succ n9 hR_124 =>
    intro v2 v3 h
    rw [l_M_count_124] at h
    refine z_iload_n dX12_count_124 rfl 2 rfl ?_
    refine z_rload_n dX12_count_125 rfl 0 rfl ?_
    refine z_getI (q := 15472) ff_12_8 dX12_count_126 kt_113 (Nat.le_of_ble_eq_true rfl) fl_X12_231 rfl ?_
    refine z_icmp_ge (tgt := 150) dX12_count_129 (by decide) h (fun h => ?_) (fun h => ?_)
    · refine z_rload_n dX12_count_132 rfl 0 rfl ?_
      refine z_getR (q := 15481) ff_12_17 dX12_count_133 kt_113 (Nat.le_of_ble_eq_true rfl) fl_X12_44 rfl (hs.1 _ _ sr_15481) ?_
      refine z_iload_n dX12_count_136 rfl 2 rfl ?_
      obtain ⟨h0, h1, h⟩ := h
      refine z_iald dX12_count_137 kt_122 (Nat.le_of_ble_eq_true rfl) h0 h1 ?_
      refine z_if_ne (tgt := 144) dX12_count_138 (by decide) h (fun h => ?_) (fun h => ?_)
      · refine z_iinc (j := 1) (lv' := [(2, vi (v2 + 1)), (0, vr Γ 113), (3, vi v3)]) dX12_count_141 rfl (Nat.le_of_ble_eq_true rfl) rfl ?_
        refine z_iinc (j := 2) (lv' := [(3, vi (v3 + 1)), (2, vi (v2 + 1)), (0, vr Γ 113)]) dX12_count_144 rfl (Nat.le_of_ble_eq_true rfl) rfl ?_
        refine z_goto (tgt := 124) dX12_count_147 (by decide) ?_
        refine z_sub (lv' := [(0, vr Γ 113), (2, vi (v2 + 1)), (3, vi (v3 + 1))]) [2, 1, 0] rfl ?_
        exact hR_124 (v2 + 1) (v3 + 1) h
      · refine z_iinc (j := 2) (lv' := [(3, vi (v3 + 1)), (0, vr Γ 113), (2, vi v2)]) dX12_count_144 rfl (Nat.le_of_ble_eq_true rfl) rfl ?_
        refine z_goto (tgt := 124) dX12_count_147 (by decide) ?_
        refine z_sub (lv' := [(0, vr Γ 113), (2, vi v2), (3, vi (v3 + 1))]) [1, 2, 0] rfl ?_
        exact hR_124 v2 (v3 + 1) h
    · refine z_sub (lv' := [(2, vi v2)]) [1] rfl ?_
      exact hX_124_150 v2 h
theorem L_M_count_154 {l : Launch} {Γ : Gam} {g : Nat} {μ_1 : Mem} {X_154_178 : Int → Prop} {k : Int → Mem → Prop} (hs : StatR μ_1.2.2) (hX_154_178 : ∀ (u2 : Int), X_154_178 u2 → SW l Γ yX12_count.cls cX12_count Y_M_count (pI k) g 175 0 0 μ_1 178 [(2, vi u2)] []) (n9 : Nat) : ∀ (v2_2 : Int) (v3_1 : Int), l_M_count_154 μ_1 X_154_178 n9 v2_2 v3_1 → SW l Γ yX12_count.cls cX12_count Y_M_count (pI k) g 175 0 0 μ_1 154 [(0, vr Γ 113), (2, vi v2_2), (3, vi v3_1)] [] := by
  induction n9 with
  | zero =>
    intro v2_2 v3_1 h
    exact h.elim
  | succ n9 hR_154 =>
    intro v2_2 v3_1 h
    rw [l_M_count_154] at h
    refine z_iload_n dX12_count_154 rfl 2 rfl ?_
    refine z_bipush dX12_count_155 (by decide) ?_
    refine z_icmp_gt (tgt := 178) dX12_count_157 (by decide) h (fun h => ?_) (fun h => ?_)
    · refine z_sub (lv' := [(2, vi v2_2)]) [1] rfl ?_
      exact hX_154_178 v2_2 h
    · refine z_rload_n dX12_count_160 rfl 0 rfl ?_
      refine z_getR (q := 15488) ff_12_24 dX12_count_161 kt_113 (Nat.le_of_ble_eq_true rfl) fl_X12_66 rfl (hs.1 _ _ sr_15488) ?_
      refine z_iload_n dX12_count_164 rfl 2 rfl ?_
      obtain ⟨h0, h1, h⟩ := h
      refine z_iald dX12_count_165 kt_129 (Nat.le_of_ble_eq_true rfl) h0 h1 ?_
      refine z_if_eq (tgt := 172) dX12_count_166 (by decide) h (fun h => ?_) (fun h => ?_)
      · refine z_iinc (j := 2) (lv' := [(3, vi (v3_1 + 1)), (0, vr Γ 113), (2, vi v2_2)]) dX12_count_172 rfl (Nat.le_of_ble_eq_true rfl) rfl ?_
        refine z_goto (tgt := 154) dX12_count_175 (by decide) ?_
        refine z_sub (lv' := [(0, vr Γ 113), (2, vi v2_2), (3, vi (v3_1 + 1))]) [1, 2, 0] rfl ?_
        exact hR_154 v2_2 (v3_1 + 1) h
      · refine z_iinc (j := 1) (lv' := [(2, vi (v2_2 + 1)), (0, vr Γ 113), (3, vi v3_1)]) dX12_count_169 rfl (Nat.le_of_ble_eq_true rfl) rfl ?_
        refine z_iinc (j := 2) (lv' := [(3, vi (v3_1 + 1)), (2, vi (v2_2 + 1)), (0, vr Γ 113)]) dX12_count_172 rfl (Nat.le_of_ble_eq_true rfl) rfl ?_
        refine z_goto (tgt := 154) dX12_count_175 (by decide) ?_
        refine z_sub (lv' := [(0, vr Γ 113), (2, vi (v2_2 + 1)), (3, vi (v3_1 + 1))]) [2, 1, 0] rfl ?_
        exact hR_154 (v2_2 + 1) (v3_1 + 1) h
theorem i_M_count {l : Launch} {Γ : Gam} {g : Nat} {a1 : Int} {μ : Mem} {k : Int → Mem → Prop} (hs : StatR μ.2.2) (h : f_M_count a1 μ k) : CT l Γ yX12_count cX12_count 4 (some .int) 0 0 0 0 [vr Γ 113, vi a1] g 175 μ (pI k) := by
  refine SW.ct (by decide) (Nat.le_of_ble_eq_true rfl) ?_
  refine z_sub (lv' := [(0, vr Γ 113), (1, vi a1)]) [0, 1] rfl ?_
  show SW l Γ yX12_count.cls cX12_count Y_M_count (pI k) g 175 0 0 μ 0 [(0, vr Γ 113), (1, vi a1)] []
  unfold f_M_count at h
  refine z_rload_n dX12_count_0 rfl 0 rfl ?_
  refine z_iconst dX12_count_1 ?_
  refine z_putI (q := 15464) ff_12_0 (Or.inl rfl) rfl dX12_count_2 kt_113 (Nat.le_of_ble_eq_true rfl) fl_X12_1 rfl ?_
  refine z_mm (fun μ_1 eμ_1 => ?_)
  replace h := h μ_1 eμ_1
  replace hs : StatR μ_1.2.2 := by rw [eμ_1]; exact hs
  refine z_iconst dX12_count_5 ?_
  refine z_istore_n (lv' := [(2, vi 0), (0, vr Γ 113), (1, vi a1)]) dX12_count_6 rfl (Nat.le_of_ble_eq_true rfl) rfl ?_
  refine z_iload_n dX12_count_7 rfl 2 rfl ?_
  by_cases hc0 : w a1 = 0
  · rw [if_pos hc0] at h
    refine z_tcase (tgt := 72) 0 hc0 dX12_count_8 (by decide) (by decide) rfl (by decide) ?_
    refine z_rload_n dX12_count_72 rfl 1 rfl ?_
    refine z_getI (q := 15465) ff_12_1 dX12_count_73 kt_113 (Nat.le_of_ble_eq_true rfl) fl_X12_212 rfl ?_
    exact z_iret rfl dX12_count_76 rfl rfl rfl ⟨_, rfl, hs, h⟩
  · rw [if_neg hc0] at h
    by_cases hc1 : w a1 = 1
    · rw [if_pos hc1] at h
      refine z_tcase (tgt := 77) 1 hc1 dX12_count_8 (by decide) (by decide) rfl (by decide) ?_
      refine z_rload_n dX12_count_77 rfl 1 rfl ?_
      refine z_getI (q := 15466) ff_12_2 dX12_count_78 kt_113 (Nat.le_of_ble_eq_true rfl) fl_X12_209 rfl ?_
      exact z_iret rfl dX12_count_81 rfl rfl rfl ⟨_, rfl, hs, h⟩
    · rw [if_neg hc1] at h
      by_cases hc2 : w a1 = 2
      · rw [if_pos hc2] at h
        refine z_tcase (tgt := 82) 2 hc2 dX12_count_8 (by decide) (by decide) rfl (by decide) ?_
        refine z_rload_n dX12_count_82 rfl 1 rfl ?_
        refine z_getI (q := 15468) ff_12_4 dX12_count_83 kt_113 (Nat.le_of_ble_eq_true rfl) fl_X12_223 rfl ?_
        exact z_iret rfl dX12_count_86 rfl rfl rfl ⟨_, rfl, hs, h⟩
      · rw [if_neg hc2] at h
        by_cases hc3 : w a1 = 3
        · rw [if_pos hc3] at h
          refine z_tcase (tgt := 87) 3 hc3 dX12_count_8 (by decide) (by decide) rfl (by decide) ?_
          refine z_rload_n dX12_count_87 rfl 1 rfl ?_
          refine z_getI (q := 15498) ff_12_34 dX12_count_88 kt_113 (Nat.le_of_ble_eq_true rfl) fl_X12_250 rfl ?_
          exact z_iret rfl dX12_count_91 rfl rfl rfl ⟨_, rfl, hs, h⟩
        · rw [if_neg hc3] at h
          by_cases hc4 : w a1 = 4
          · rw [if_pos hc4] at h
            refine z_tcase (tgt := 92) 4 hc4 dX12_count_8 (by decide) (by decide) rfl (by decide) ?_
            refine z_rload_n dX12_count_92 rfl 1 rfl ?_
            refine z_getI (q := 15472) ff_12_8 dX12_count_93 kt_113 (Nat.le_of_ble_eq_true rfl) fl_X12_231 rfl ?_
            exact z_iret rfl dX12_count_96 rfl rfl rfl ⟨_, rfl, hs, h⟩
          · rw [if_neg hc4] at h
            by_cases hc5 : w a1 = 5
            · rw [if_pos hc5] at h
              refine z_tcase (tgt := 97) 5 hc5 dX12_count_8 (by decide) (by decide) rfl (by decide) ?_
              refine z_rload_n dX12_count_97 rfl 1 rfl ?_
              refine z_getI (q := 15474) ff_12_10 dX12_count_98 kt_113 (Nat.le_of_ble_eq_true rfl) fl_X12_237 rfl ?_
              exact z_iret rfl dX12_count_101 rfl rfl rfl ⟨_, rfl, hs, h⟩
            · rw [if_neg hc5] at h
              by_cases hc6 : w a1 = 6
              · rw [if_pos hc6] at h
                refine z_tcase (tgt := 102) 6 hc6 dX12_count_8 (by decide) (by decide) rfl (by decide) ?_
                refine z_rload_n dX12_count_102 rfl 1 rfl ?_
                refine z_getI (q := 15479) ff_12_15 dX12_count_103 kt_113 (Nat.le_of_ble_eq_true rfl) fl_X12_240 rfl ?_
                exact z_iret rfl dX12_count_106 rfl rfl rfl ⟨_, rfl, hs, h⟩
              · rw [if_neg hc6] at h
                by_cases hc7 : w a1 = 7
                · rw [if_pos hc7] at h
                  refine z_tcase (tgt := 107) 7 hc7 dX12_count_8 (by decide) (by decide) rfl (by decide) ?_
                  refine z_rload_n dX12_count_107 rfl 1 rfl ?_
                  refine z_getI (q := 15480) ff_12_16 dX12_count_108 kt_113 (Nat.le_of_ble_eq_true rfl) fl_X12_41 rfl ?_
                  exact z_iret rfl dX12_count_111 rfl rfl rfl ⟨_, rfl, hs, h⟩
                · rw [if_neg hc7] at h
                  by_cases hc8 : w a1 = 8
                  · rw [if_pos hc8] at h
                    refine z_tcase (tgt := 112) 8 hc8 dX12_count_8 (by decide) (by decide) rfl (by decide) ?_
                    refine z_rload_n dX12_count_112 rfl 1 rfl ?_
                    refine z_getI (q := 15534) ff_12_70 dX12_count_113 kt_113 (Nat.le_of_ble_eq_true rfl) fl_X12_551 rfl ?_
                    exact z_iret rfl dX12_count_116 rfl rfl rfl ⟨_, rfl, hs, h⟩
                  · rw [if_neg hc8] at h
                    by_cases hc9 : w a1 = 9
                    · rw [if_pos hc9] at h
                      refine z_tcase (tgt := 117) 9 hc9 dX12_count_8 (by decide) (by decide) rfl (by decide) ?_
                      refine z_rload_n dX12_count_117 rfl 1 rfl ?_
                      refine z_getI (q := 15512) ff_12_48 dX12_count_118 kt_113 (Nat.le_of_ble_eq_true rfl) fl_X12_276 rfl ?_
                      exact z_iret rfl dX12_count_121 rfl rfl rfl ⟨_, rfl, hs, h⟩
                    · rw [if_neg hc9] at h
                      by_cases hc10 : w a1 = 10
                      · rw [if_pos hc10] at h
                        refine z_tcase (tgt := 122) 10 hc10 dX12_count_8 (by decide) (by decide) rfl (by decide) ?_
                        refine z_iconst dX12_count_122 ?_
                        refine z_istore_n (lv' := [(3, vi 0), (2, vi 0), (0, vr Γ 113), (1, vi a1)]) dX12_count_123 rfl (Nat.le_of_ble_eq_true rfl) rfl ?_
                        obtain ⟨m124, h⟩ := h
                        refine z_sub (lv' := [(0, vr Γ 113), (2, vi 0), (3, vi 0)]) [2, 1, 0] rfl ?_
                        refine L_M_count_124 hs (fun v2_1 h => ?_) m124 0 0 h
                        refine z_iload_n dX12_count_150 rfl 0 rfl ?_
                        exact z_iret rfl dX12_count_151 rfl rfl rfl ⟨_, rfl, hs, h⟩
                      · rw [if_neg hc10] at h
                        by_cases hc11 : w a1 = 11
                        · rw [if_pos hc11] at h
                          refine z_tcase (tgt := 152) 11 hc11 dX12_count_8 (by decide) (by decide) rfl (by decide) ?_
                          refine z_iconst dX12_count_152 ?_
                          refine z_istore_n (lv' := [(3, vi 1), (2, vi 0), (0, vr Γ 113), (1, vi a1)]) dX12_count_153 rfl (Nat.le_of_ble_eq_true rfl) rfl ?_
                          obtain ⟨m154, h⟩ := h
                          refine z_sub (lv' := [(0, vr Γ 113), (2, vi 0), (3, vi 1)]) [2, 1, 0] rfl ?_
                          refine L_M_count_154 hs (fun v2_3 h => ?_) m154 0 1 h
                          refine z_iload_n dX12_count_178 rfl 0 rfl ?_
                          exact z_iret rfl dX12_count_179 rfl rfl rfl ⟨_, rfl, hs, h⟩
                        · rw [if_neg hc11] at h
                          refine z_tdef (tgt := 180) (by omega) dX12_count_8 (by decide) ?_
                          refine z_iconst dX12_count_180 ?_
                          exact z_iret rfl dX12_count_181 rfl rfl rfl ⟨_, rfl, hs, h⟩
