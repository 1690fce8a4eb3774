abbrev Y_Floor_bring : Yt := (2, none, yX3_bring.name, { frames := 2, cells := 0, slots := 0, locals := 44 }, 175, 0, 0)
def f_Floor_bring (a1 : Int) (μ : Mem) (k : Mem → Prop) : Prop := f_Floor_put a1 0 μ (fun μ_1 => k μ_1)
theorem i_Floor_bring {l : Launch} {Γ : Gam} {g : Nat} {a1 : Int} {μ : Mem} {k : Mem → Prop} (hs : StatR μ.2.2) (h : f_Floor_bring a1 μ k) : CT l Γ yX3_bring cX3_bring 2 none 2 44 0 0 [vr Γ 67, vi a1] g 175 μ (pV k) := by
  refine SW.ct (by decide) (Nat.le_of_ble_eq_true rfl) ?_
  refine z_sub (lv' := [(0, vr Γ 67), (1, vi a1)]) [0, 1] rfl ?_
  show SW l Γ yX3_bring.cls cX3_bring Y_Floor_bring (pV k) g 175 0 0 μ 0 [(0, vr Γ 67), (1, vi a1)] []
  unfold f_Floor_bring at h
  refine z_rload_n dX3_bring_0 rfl 0 rfl ?_
  refine z_iload_n dX3_bring_1 rfl 1 rfl ?_
  refine z_iconst dX3_bring_2 ?_
  refine z_VU (i_Floor_put  hs h) vk_X3_put kt_67 (Nat.le_of_ble_eq_true rfl) rfl ml_X3_62 ⟨Nat.le_of_ble_eq_true rfl, Nat.le_of_ble_eq_true rfl⟩ ⟨Nat.zero_le _, Nat.zero_le _⟩ rfl rfl (Nat.le_of_ble_eq_true rfl) dX3_bring_3 (fun μ_1 hs h => ?_)
  exact z_vret rfl dX3_bring_6 rfl rfl rfl ⟨rfl, hs, h⟩
abbrev Y_Rules_beginPart : Yt := (2, none, yX8_beginPart.name, { frames := 1, cells := 0, slots := 0, locals := 22 }, 175, 0, 0)
def f_Rules_beginPart (r0 : Nat) (a1 : Int) (μ : Mem) (k : Mem → Prop) : Prop := ∀ μ_1 : Mem, μ_1 = set' μ (r0 + 2) 5 a1 (rI μ (gid r0 3) 0) → k μ_1
theorem i_Rules_beginPart {l : Launch} {Γ : Gam} {g : Nat} {r0 : Nat} {a1 : Int} {μ : Mem} {k : Mem → Prop} (hr_r0 : isRu r0 = true) (hs : StatR μ.2.2) (h : f_Rules_beginPart r0 a1 μ k) : CT l Γ yX8_beginPart cX8_beginPart 2 none 1 22 0 0 [vr Γ r0, vi a1] g 175 μ (pV k) := by
  refine SW.ct (by decide) (Nat.le_of_ble_eq_true rfl) ?_
  refine z_sub (lv' := [(0, vr Γ r0), (1, vi a1)]) [0, 1] rfl ?_
  show SW l Γ yX8_beginPart.cls cX8_beginPart Y_Rules_beginPart (pV k) g 175 0 0 μ 0 [(0, vr Γ r0), (1, vi a1)] []
  unfold f_Rules_beginPart at h
  refine z_rload_n dX8_beginPart_0 rfl 0 rfl ?_
  refine z_getR ff_8_1 dX8_beginPart_1 (ru_k hr_r0) (ru_l hr_r0) fl_X8_15 rfl (ru_s2 hs hr_r0) ?_
  refine z_iload_n dX8_beginPart_4 rfl 1 rfl ?_
  refine z_rload_n dX8_beginPart_5 rfl 0 rfl ?_
  refine z_getI (q := (gid r0 3)) ff_8_3 dX8_beginPart_6 (ru_k hr_r0) (ru_l hr_r0) fl_X8_28 rfl ?_
  refine z_NM (i_X11_set (ru_k2 hr_r0) (ru_l2 hr_r0)) ok_X11_set nw_X8_39 ⟨Nat.le_of_ble_eq_true rfl, Nat.le_of_ble_eq_true rfl⟩ ⟨Nat.zero_le _, Nat.zero_le _⟩ rfl rfl (Nat.le_of_ble_eq_true rfl) dX8_beginPart_9 ?_
  refine z_mm (fun μ_1 eμ_1 => ?_)
  replace h := h μ_1 eμ_1
  replace hs : StatR μ_1.2.2 := by rw [eμ_1]; exact (StatR.set hs)
  exact z_vret rfl dX8_beginPart_12 rfl rfl rfl ⟨rfl, hs, h⟩
abbrev Y_OrdR_beginPart : Yt := (2, none, yX5_beginPart.name, { frames := 2, cells := 0, slots := 0, locals := 43 }, 175, 0, 0)
def f_OrdR_beginPart (a1 : Int) (μ : Mem) (k : Mem → Prop) : Prop := ∀ μ_1 : Mem, μ_1 = sI μ 9066 0 a1 → ∃ r6 : Nat, rR μ_1 9065 0 = some r6 ∧ isRu r6 = true ∧ f_Rules_beginPart r6 (rI μ_1 9066 0) μ_1 (fun μ_2 => k μ_2)
theorem i_OrdR_beginPart {l : Launch} {Γ : Gam} {g : Nat} {a1 : Int} {μ : Mem} {k : Mem → Prop} (hs : StatR μ.2.2) (h : f_OrdR_beginPart a1 μ k) : CT l Γ yX5_beginPart cX5_beginPart 2 none 2 43 0 0 [vr Γ 63, vi a1] g 175 μ (pV k) := by
  refine SW.ct (by decide) (Nat.le_of_ble_eq_true rfl) ?_
  refine z_sub (lv' := [(0, vr Γ 63), (1, vi a1)]) [0, 1] rfl ?_
  show SW l Γ yX5_beginPart.cls cX5_beginPart Y_OrdR_beginPart (pV k) g 175 0 0 μ 0 [(0, vr Γ 63), (1, vi a1)] []
  unfold f_OrdR_beginPart at h
  refine z_rload_n dX5_beginPart_0 rfl 0 rfl ?_
  refine z_iload_n dX5_beginPart_1 rfl 1 rfl ?_
  refine z_putI (q := 9066) ff_5_2 (Or.inl rfl) rfl dX5_beginPart_2 kt_63 (Nat.le_of_ble_eq_true rfl) fl_X5_53 rfl ?_
  refine z_mm (fun μ_1 eμ_1 => ?_)
  replace h := h μ_1 eμ_1
  replace hs : StatR μ_1.2.2 := by rw [eμ_1]; exact hs
  refine z_rload_n dX5_beginPart_5 rfl 0 rfl ?_
  obtain ⟨r6, h9, hr_r6, h⟩ := h
  refine z_getR (q := 9065) ff_5_1 dX5_beginPart_6 kt_63 (Nat.le_of_ble_eq_true rfl) fl_X5_15 rfl h9 ?_
  refine z_rload_n dX5_beginPart_9 rfl 0 rfl ?_
  refine z_getI (q := 9066) ff_5_2 dX5_beginPart_10 kt_63 (Nat.le_of_ble_eq_true rfl) fl_X5_53 rfl ?_
  refine z_VU (i_Rules_beginPart hr_r6 hs h) vk_X8_beginPart (ru_k hr_r6) (ru_l hr_r6) rfl ml_X5_113 ⟨Nat.le_of_ble_eq_true rfl, Nat.le_of_ble_eq_true rfl⟩ ⟨Nat.zero_le _, Nat.zero_le _⟩ rfl rfl (Nat.le_of_ble_eq_true rfl) dX5_beginPart_13 (fun μ_2 hs h => ?_)
  exact z_vret rfl dX5_beginPart_16 rfl rfl rfl ⟨rfl, hs, h⟩
abbrev Y_Tape_isWord : Yt := (4, (some .boolean), yX9_isWord.name, { frames := 5, cells := 0, slots := 0, locals := 121 }, 175, 0, 0)
def l_Tape_isWord_28 (a1 : Nat) (μ : Mem) (X_28_70 : Prop) (k : Bool → Mem → Prop) : Nat → Int → Prop
  | 0, _ => False
  | fu28 + 1, v2 => if w v2 < w ((sLen a1 : Nat) : Int) then (∀ v3 : Int, v3 = (rI μ 2283 0) + v2 → if w v3 < 0 then X_28_70 else (if w v3 < w ((300 : Nat) : Int) then (0 ≤ w v3 ∧ w v3 < ((300 : Nat) : Int) ∧ 0 ≤ w v2 ∧ w v2 < ((sLen a1 : Nat) : Int) ∧ if w (rI μ 11 (w v3)) = w (sChr a1 (w v2)) then ((l_Tape_isWord_28 a1 μ X_28_70 k fu28) (v2 + 1)) else X_28_70) else X_28_70)) else (k true μ)
def f_Tape_isWord (a1 : Nat) (μ : Mem) (k : Bool → Mem → Prop) : Prop := if w (rI μ 2282 0) = w 1 then (if w ((rI μ 2284 0) - (rI μ 2283 0)) = w ((sLen a1 : Nat) : Int) then (∃ m28 : Nat, l_Tape_isWord_28 a1 μ (k false μ) k m28 0) else (k false μ)) else (k false μ)
theorem L_Tape_isWord_28 {l : Launch} {Γ : Gam} {g : Nat} {a1 : Nat} {μ : Mem} {X_28_70 : Prop} {k : Bool → Mem → Prop} (hq_a1 : a1 < 30) (hs : StatR μ.2.2) (hX_28_70 : X_28_70 → SW l Γ yX9_isWord.cls cX9_isWord Y_Tape_isWord (pB k) g 175 0 0 μ 70 [] []) (n9 : Nat) : ∀ (v2 : Int), l_Tape_isWord_28 a1 μ X_28_70 k n9 v2 → SW l Γ yX9_isWord.cls cX9_isWord Y_Tape_isWord (pB k) g 175 0 0 μ 28 [(0, vr Γ 10), (1, .ref (Γ.2.2.2.2.1 a1)), (2, vi v2)] [] := by
  induction n9 with
  | zero =>
    intro v2 h
    exact h.elim
  | succ n9 hR_28 =>
    intro v2 h
    rw [l_Tape_isWord_28] at h
    refine z_iload_n dX9_isWord_28 rfl 2 rfl ?_
    refine z_aload_n dX9_isWord_29 rfl 1 rfl ?_
    refine z_strLen dX9_isWord_30 hq_a1 vk_J0_length_8abf5 ml_X9_59 ⟨Nat.le_of_ble_eq_true rfl, Nat.le_of_ble_eq_true rfl⟩ ⟨Nat.zero_le _, Nat.zero_le _⟩ (Nat.le_of_ble_eq_true rfl) ?_
    refine z_icmp_ge (tgt := 78) dX9_isWord_33 (by decide) h (fun h => ?_) (fun h => ?_)
    · refine z_rload_n dX9_isWord_36 rfl 0 rfl ?_
      refine z_getI (q := 2283) ff_9_3 dX9_isWord_37 kt_10 (Nat.le_of_ble_eq_true rfl) fl_X9_35 rfl ?_
      refine z_iload_n dX9_isWord_40 rfl 2 rfl ?_
      refine z_iadd dX9_isWord_41 ?_
      refine z_nm (fun v3 ev3 => ?_)
      replace h := h v3 ev3
      refine z_istore_n (lv' := [(3, vi v3), (0, vr Γ 10), (1, .ref (Γ.2.2.2.2.1 a1)), (2, vi v2)]) dX9_isWord_42 rfl (Nat.le_of_ble_eq_true rfl) rfl ?_
      refine z_iload_n dX9_isWord_43 rfl 0 rfl ?_
      refine z_if_lt (tgt := 70) dX9_isWord_44 (by decide) h (fun h => ?_) (fun h => ?_)
      · refine z_sub (lv' := []) [] rfl ?_
        exact hX_28_70 h
      · refine z_iload_n dX9_isWord_47 rfl 0 rfl ?_
        refine z_rload_n dX9_isWord_48 rfl 1 rfl ?_
        refine z_getR (q := 2280) ff_9_0 dX9_isWord_49 kt_10 (Nat.le_of_ble_eq_true rfl) fl_X9_9 rfl (hs.1 _ _ sr_2280) ?_
        refine z_alen dX9_isWord_52 kt_11 (by decide) (Nat.le_of_ble_eq_true rfl) ?_
        refine z_icmp_ge (tgt := 70) dX9_isWord_53 (by decide) h (fun h => ?_) (fun h => ?_)
        · refine z_rload_n dX9_isWord_56 rfl 1 rfl ?_
          refine z_getR (q := 2280) ff_9_0 dX9_isWord_57 kt_10 (Nat.le_of_ble_eq_true rfl) fl_X9_9 rfl (hs.1 _ _ sr_2280) ?_
          refine z_iload_n dX9_isWord_60 rfl 0 rfl ?_
          obtain ⟨h0, h1, h⟩ := h
          refine z_iald dX9_isWord_61 kt_11 (Nat.le_of_ble_eq_true rfl) h0 h1 ?_
          refine z_aload_n dX9_isWord_62 rfl 2 rfl ?_
          refine z_iload_n dX9_isWord_63 rfl 3 rfl ?_
          obtain ⟨h0, h1, h⟩ := h
          refine z_strChr dX9_isWord_64 hq_a1 h0 h1 vk_J0_charAt_5068e ml_X9_64 ⟨Nat.le_of_ble_eq_true rfl, Nat.le_of_ble_eq_true rfl⟩ ⟨Nat.zero_le _, Nat.zero_le _⟩ (Nat.le_of_ble_eq_true rfl) ?_
          refine z_icmp_eq (tgt := 72) dX9_isWord_67 (by decide) h (fun h => ?_) (fun h => ?_)
          · refine z_iinc (j := 3) (lv' := [(2, vi (v2 + 1)), (3, vi v3), (0, vr Γ 10), (1, .ref (Γ.2.2.2.2.1 a1))]) dX9_isWord_72 rfl (Nat.le_of_ble_eq_true rfl) rfl ?_
            refine z_goto (tgt := 28) dX9_isWord_75 (by decide) ?_
            refine z_sub (lv' := [(0, vr Γ 10), (1, .ref (Γ.2.2.2.2.1 a1)), (2, vi (v2 + 1))]) [2, 3, 0] rfl ?_
            exact hR_28 (v2 + 1) h
          · refine z_sub (lv' := []) [] rfl ?_
            exact hX_28_70 h
        · refine z_sub (lv' := []) [] rfl ?_
          exact hX_28_70 h
    · refine z_iconst dX9_isWord_78 ?_
      exact z_zret (b := true) rfl dX9_isWord_79 rfl rfl rfl ⟨_, rfl, hs, h⟩
theorem i_Tape_isWord {l : Launch} {Γ : Gam} {g : Nat} {a1 : Nat} {μ : Mem} {k : Bool → Mem → Prop} (hq_a1 : a1 < 30) (hs : StatR μ.2.2) (h : f_Tape_isWord a1 μ k) : CT l Γ yX9_isWord cX9_isWord 4 (some .boolean) 5 121 0 0 [vr Γ 10, .ref (Γ.2.2.2.2.1 a1)] g 175 μ (pB k) := by
  refine SW.ct (by decide) (Nat.le_of_ble_eq_true rfl) ?_
  refine z_sub (lv' := [(0, vr Γ 10), (1, .ref (Γ.2.2.2.2.1 a1))]) [0, 1] rfl ?_
  show SW l Γ yX9_isWord.cls cX9_isWord Y_Tape_isWord (pB k) g 175 0 0 μ 0 [(0, vr Γ 10), (1, .ref (Γ.2.2.2.2.1 a1))] []
  unfold f_Tape_isWord at h
  refine z_rload_n dX9_isWord_0 rfl 0 rfl ?_
  refine z_getI (q := 2282) ff_9_2 dX9_isWord_1 kt_10 (Nat.le_of_ble_eq_true rfl) fl_X9_46 rfl ?_
  refine z_iconst dX9_isWord_4 ?_
  refine z_icmp_ne (tgt := 24) dX9_isWord_5 (by decide) h (fun h => ?_) (fun h => ?_)
  · refine z_rload_n dX9_isWord_8 rfl 0 rfl ?_
    refine z_getI (q := 2284) ff_9_4 dX9_isWord_9 kt_10 (Nat.le_of_ble_eq_true rfl) fl_X9_29 rfl ?_
    refine z_rload_n dX9_isWord_12 rfl 0 rfl ?_
    refine z_getI (q := 2283) ff_9_3 dX9_isWord_13 kt_10 (Nat.le_of_ble_eq_true rfl) fl_X9_35 rfl ?_
    refine z_isub dX9_isWord_16 ?_
    refine z_aload_n dX9_isWord_17 rfl 1 rfl ?_
    refine z_strLen dX9_isWord_18 hq_a1 vk_J0_length_8abf5 ml_X9_59 ⟨Nat.le_of_ble_eq_true rfl, Nat.le_of_ble_eq_true rfl⟩ ⟨Nat.zero_le _, Nat.zero_le _⟩ (Nat.le_of_ble_eq_true rfl) ?_
    refine z_icmp_eq (tgt := 26) dX9_isWord_21 (by decide) h (fun h => ?_) (fun h => ?_)
    · refine z_iconst dX9_isWord_26 ?_
      refine z_istore_n (lv' := [(2, vi 0), (0, vr Γ 10), (1, .ref (Γ.2.2.2.2.1 a1))]) dX9_isWord_27 rfl (Nat.le_of_ble_eq_true rfl) rfl ?_
      obtain ⟨m28, h⟩ := h
      refine z_sub (lv' := [(0, vr Γ 10), (1, .ref (Γ.2.2.2.2.1 a1)), (2, vi 0)]) [1, 2, 0] rfl ?_
      refine L_Tape_isWord_28 hq_a1 hs (fun h => ?_) m28 0 h
      refine z_iconst dX9_isWord_70 ?_
      exact z_zret (b := false) rfl dX9_isWord_71 rfl rfl rfl ⟨_, rfl, hs, h⟩
    · refine z_iconst dX9_isWord_24 ?_
      exact z_zret (b := false) rfl dX9_isWord_25 rfl rfl rfl ⟨_, rfl, hs, h⟩
  · refine z_iconst dX9_isWord_24 ?_
    exact z_zret (b := false) rfl dX9_isWord_25 rfl rfl rfl ⟨_, rfl, hs, h⟩
abbrev Y_OrdR_kindAtHand : Yt := (1, (some .int), yX5_kindAtHand.name, { frames := 6, cells := 0, slots := 0, locals := 144 }, 175, 0, 0)
def f_OrdR_kindAtHand  (μ : Mem) (k : Int → Mem → Prop) : Prop := f_Tape_isWord 6 μ (fun r6 μ_1 => if r6 = true then (k 0 μ_1) else (f_Tape_isWord 7 μ_1 (fun r22 μ_2 => if r22 = true then (k 1 μ_2) else (f_Tape_isWord 8 μ_2 (fun r38 μ_3 => ∀ x49 : Int, x49 = (if r38 = true then 2 else (-1)) → k x49 μ_3)))))
theorem i_OrdR_kindAtHand {l : Launch} {Γ : Gam} {g : Nat} {μ : Mem} {k : Int → Mem → Prop} (hs : StatR μ.2.2) (h : f_OrdR_kindAtHand  μ k) : CT l Γ yX5_kindAtHand cX5_kindAtHand 1 (some .int) 6 144 0 0 [vr Γ 63] g 175 μ (pI k) := by
  refine SW.ct (by decide) (Nat.le_of_ble_eq_true rfl) ?_
  refine z_sub (lv' := [(0, vr Γ 63)]) [0] rfl ?_
  show SW l Γ yX5_kindAtHand.cls cX5_kindAtHand Y_OrdR_kindAtHand (pI k) g 175 0 0 μ 0 [(0, vr Γ 63)] []
  unfold f_OrdR_kindAtHand at h
  refine z_rload_n dX5_kindAtHand_0 rfl 0 rfl ?_
  refine z_getR (q := 9064) ff_5_0 dX5_kindAtHand_1 kt_63 (Nat.le_of_ble_eq_true rfl) fl_X5_9 rfl (hs.1 _ _ sr_9064) ?_
  refine z_ldcS dX5_kindAtHand_4 st_X5_99 ?_
  refine z_VB (i_Tape_isWord (Nat.le_of_ble_eq_true rfl) hs h) vk_X9_isWord kt_10 (Nat.le_of_ble_eq_true rfl) rfl ml_X5_87 ⟨Nat.le_of_ble_eq_true rfl, Nat.le_of_ble_eq_true rfl⟩ ⟨Nat.zero_le _, Nat.zero_le _⟩ rfl rfl (Nat.le_of_ble_eq_true rfl) dX5_kindAtHand_6 (fun r6 μ_1 hs h => ?_)
  refine z_ifeq_b (tgt := 16) dX5_kindAtHand_9 (by decide) h (fun h => ?_) (fun h => ?_)
  · refine z_iconst dX5_kindAtHand_12 ?_
    refine z_goto (tgt := 49) dX5_kindAtHand_13 (by decide) ?_
    exact z_iret rfl dX5_kindAtHand_49 rfl rfl rfl ⟨_, rfl, hs, h⟩
  · refine z_rload_n dX5_kindAtHand_16 rfl 0 rfl ?_
    refine z_getR (q := 9064) ff_5_0 dX5_kindAtHand_17 kt_63 (Nat.le_of_ble_eq_true rfl) fl_X5_9 rfl (hs.1 _ _ sr_9064) ?_
    refine z_ldcS dX5_kindAtHand_20 st_X5_101 ?_
    refine z_VB (i_Tape_isWord (Nat.le_of_ble_eq_true rfl) hs h) vk_X9_isWord kt_10 (Nat.le_of_ble_eq_true rfl) rfl ml_X5_87 ⟨Nat.le_of_ble_eq_true rfl, Nat.le_of_ble_eq_true rfl⟩ ⟨Nat.zero_le _, Nat.zero_le _⟩ rfl rfl (Nat.le_of_ble_eq_true rfl) dX5_kindAtHand_22 (fun r22 μ_2 hs h => ?_)
    refine z_ifeq_b (tgt := 32) dX5_kindAtHand_25 (by decide) h (fun h => ?_) (fun h => ?_)
    · refine z_iconst dX5_kindAtHand_28 ?_
      refine z_goto (tgt := 49) dX5_kindAtHand_29 (by decide) ?_
      exact z_iret rfl dX5_kindAtHand_49 rfl rfl rfl ⟨_, rfl, hs, h⟩
    · refine z_rload_n dX5_kindAtHand_32 rfl 0 rfl ?_
      refine z_getR (q := 9064) ff_5_0 dX5_kindAtHand_33 kt_63 (Nat.le_of_ble_eq_true rfl) fl_X5_9 rfl (hs.1 _ _ sr_9064) ?_
      refine z_ldcS dX5_kindAtHand_36 st_X5_103 ?_
      refine z_VB (i_Tape_isWord (Nat.le_of_ble_eq_true rfl) hs h) vk_X9_isWord kt_10 (Nat.le_of_ble_eq_true rfl) rfl ml_X5_87 ⟨Nat.le_of_ble_eq_true rfl, Nat.le_of_ble_eq_true rfl⟩ ⟨Nat.zero_le _, Nat.zero_le _⟩ rfl rfl (Nat.le_of_ble_eq_true rfl) dX5_kindAtHand_38 (fun r38 μ_3 hs h => ?_)
      refine z_phi 49 [] (fun V9 hv J9 => ?_) h (fun x49 h => ?_)
      · refine z_ifeq_b (tgt := 48) dX5_kindAtHand_41 (by decide) (eq_ite hv) (fun hv => ?_) (fun hv => ?_)
        · refine z_iconst dX5_kindAtHand_44 ?_
          refine z_goto (tgt := 49) dX5_kindAtHand_45 (by decide) ?_
          exact J9 _ hv.symm
        · refine z_iconst dX5_kindAtHand_48 ?_
          exact J9 _ hv.symm
      · exact z_iret rfl dX5_kindAtHand_49 rfl rfl rfl ⟨_, rfl, hs, h⟩
abbrev Y_Tape_fail : Yt := (2, (some .boolean), yX9_fail.name, { frames := 0, cells := 0, slots := 0, locals := 0 }, 175, 0, 0)
def f_Tape_fail (a1 : Int) (μ : Mem) (k : Bool → Mem → Prop) : Prop := ∀ μ_1 : Mem, μ_1 = sI μ 2286 0 a1 → ∀ μ_2 : Mem, μ_2 = sI μ_1 2287 0 (rI μ_1 2283 0) → k false μ_2
theorem i_Tape_fail {l : Launch} {Γ : Gam} {g : Nat} {a1 : Int} {μ : Mem} {k : Bool → Mem → Prop} (hs : StatR μ.2.2) (h : f_Tape_fail a1 μ k) : CT l Γ yX9_fail cX9_fail 2 (some .boolean) 0 0 0 0 [vr Γ 10, vi a1] g 175 μ (pB k) := by
  refine SW.ct (by decide) (Nat.le_of_ble_eq_true rfl) ?_
  refine z_sub (lv' := [(0, vr Γ 10), (1, vi a1)]) [0, 1] rfl ?_
  show SW l Γ yX9_fail.cls cX9_fail Y_Tape_fail (pB k) g 175 0 0 μ 0 [(0, vr Γ 10), (1, vi a1)] []
  unfold f_Tape_fail at h
  refine z_rload_n dX9_fail_0 rfl 0 rfl ?_
  refine z_iload_n dX9_fail_1 rfl 1 rfl ?_
  refine z_putI (q := 2286) ff_9_6 (Or.inl rfl) rfl dX9_fail_2 kt_10 (Nat.le_of_ble_eq_true rfl) fl_X9_26 rfl ?_
  refine z_mm (fun μ_1 eμ_1 => ?_)
  replace h := h μ_1 eμ_1
  replace hs : StatR μ_1.2.2 := by rw [eμ_1]; exact hs
  refine z_rload_n dX9_fail_5 rfl 0 rfl ?_
  refine z_rload_n dX9_fail_6 rfl 0 rfl ?_
  refine z_getI (q := 2283) ff_9_3 dX9_fail_7 kt_10 (Nat.le_of_ble_eq_true rfl) fl_X9_35 rfl ?_
  refine z_putI (q := 2287) ff_9_7 (Or.inl rfl) rfl dX9_fail_10 kt_10 (Nat.le_of_ble_eq_true rfl) fl_X9_15 rfl ?_
  refine z_mm (fun μ_2 eμ_2 => ?_)
  replace h := h μ_2 eμ_2
  replace hs : StatR μ_2.2.2 := by rw [eμ_2]; exact hs
  refine z_iconst dX9_fail_13 ?_
  exact z_zret (b := false) rfl dX9_fail_14 rfl rfl rfl ⟨_, rfl, hs, h⟩
def v_Tape_isFigure (a1 : Int) : Bool := if w a1 < w 48 then false else (if w 57 < w a1 then false else true)
theorem i_Tape_isFigure {l : Launch} {Γ : Gam} {g : Nat} {μ : Mem} {a1 : Int} : CT l Γ yX9_isFigure cX9_isFigure 1 (some .boolean) 0 0 0 0 [vi a1] g 175 μ (pE (vi (b2i (v_Tape_isFigure a1))) μ) := by
  refine SW.ct (by decide) (Nat.le_of_ble_eq_true rfl) ?_
  refine z_sub (lv' := [(0, vi a1)]) [0] rfl ?_
  have hv : v_Tape_isFigure a1 = v_Tape_isFigure a1 := rfl
  refine z_iload_n dX9_isFigure_0 rfl 0 rfl ?_
  refine z_bipush dX9_isFigure_1 (by decide) ?_
  refine z_icmp_lt (tgt := 16) dX9_isFigure_3 (by decide) (eq_ite hv) (fun hv => ?_) (fun hv => ?_)
  · refine z_iconst dX9_isFigure_16 ?_
    exact z_zret (b := false) rfl dX9_isFigure_17 rfl rfl rfl ⟨by first | (rw [hv]; done) | rfl, rfl⟩
  · refine z_iload_n dX9_isFigure_6 rfl 0 rfl ?_
    refine z_bipush dX9_isFigure_7 (by decide) ?_
    refine z_icmp_gt (tgt := 16) dX9_isFigure_9 (by decide) (eq_ite hv) (fun hv => ?_) (fun hv => ?_)
    · refine z_iconst dX9_isFigure_16 ?_
      exact z_zret (b := false) rfl dX9_isFigure_17 rfl rfl rfl ⟨by first | (rw [hv]; done) | rfl, rfl⟩
    · refine z_iconst dX9_isFigure_12 ?_
      refine z_goto (tgt := 17) dX9_isFigure_13 (by decide) ?_
      exact z_zret (b := true) rfl dX9_isFigure_17 rfl rfl rfl ⟨by first | (rw [hv]; done) | rfl, rfl⟩
def v_Tape_isLetter (a1 : Int) : Bool := if w a1 < w 97 then false else (if w 122 < w a1 then false else true)
theorem i_Tape_isLetter {l : Launch} {Γ : Gam} {g : Nat} {μ : Mem} {a1 : Int} : CT l Γ yX9_isLetter cX9_isLetter 1 (some .boolean) 0 0 0 0 [vi a1] g 175 μ (pE (vi (b2i (v_Tape_isLetter a1))) μ) := by
  refine SW.ct (by decide) (Nat.le_of_ble_eq_true rfl) ?_
  refine z_sub (lv' := [(0, vi a1)]) [0] rfl ?_
  have hv : v_Tape_isLetter a1 = v_Tape_isLetter a1 := rfl
  refine z_iload_n dX9_isLetter_0 rfl 0 rfl ?_
  refine z_bipush dX9_isLetter_1 (by decide) ?_
  refine z_icmp_lt (tgt := 16) dX9_isLetter_3 (by decide) (eq_ite hv) (fun hv => ?_) (fun hv => ?_)
  · refine z_iconst dX9_isLetter_16 ?_
    exact z_zret (b := false) rfl dX9_isLetter_17 rfl rfl rfl ⟨by first | (rw [hv]; done) | rfl, rfl⟩
  · refine z_iload_n dX9_isLetter_6 rfl 0 rfl ?_
    refine z_bipush dX9_isLetter_7 (by decide) ?_
    refine z_icmp_gt (tgt := 16) dX9_isLetter_9 (by decide) (eq_ite hv) (fun hv => ?_) (fun hv => ?_)
    · refine z_iconst dX9_isLetter_16 ?_
      exact z_zret (b := false) rfl dX9_isLetter_17 rfl rfl rfl ⟨by first | (rw [hv]; done) | rfl, rfl⟩
    · refine z_iconst dX9_isLetter_12 ?_
      refine z_goto (tgt := 17) dX9_isLetter_13 (by decide) ?_
      exact z_zret (b := true) rfl dX9_isLetter_17 rfl rfl rfl ⟨by first | (rw [hv]; done) | rfl, rfl⟩
def v_Tape_sortOf (a1 : Int) : Int := if w a1 = w (-1) then 0 else (if w a1 < w 97 then (if w a1 < w 48 then 3 else (if w 57 < w a1 then 3 else 2)) else (if w 122 < w a1 then (if w a1 < w 48 then 3 else (if w 57 < w a1 then 3 else 2)) else 1))
theorem i_Tape_sortOf {l : Launch} {Γ : Gam} {g : Nat} {μ : Mem} {a1 : Int} : CT l Γ yX9_sortOf cX9_sortOf 1 (some .int) 0 0 0 0 [vi a1] g 175 μ (pE (vi (v_Tape_sortOf a1)) μ) := by
  refine SW.ct (by decide) (Nat.le_of_ble_eq_true rfl) ?_
  refine z_sub (lv' := [(0, vi a1)]) [0] rfl ?_
  have hv : v_Tape_sortOf a1 = v_Tape_sortOf a1 := rfl
  refine z_iload_n dX9_sortOf_0 rfl 0 rfl ?_
  refine z_iconst dX9_sortOf_1 ?_
  refine z_icmp_ne (tgt := 9) dX9_sortOf_2 (by decide) (eq_ite hv) (fun hv => ?_) (fun hv => ?_)
  · refine z_iconst dX9_sortOf_5 ?_
    refine z_goto (tgt := 42) dX9_sortOf_6 (by decide) ?_
    exact z_iret rfl dX9_sortOf_42 rfl rfl rfl ⟨by first | (rw [hv]; done) | rfl, rfl⟩
  · refine z_iload_n dX9_sortOf_9 rfl 0 rfl ?_
    refine z_bipush dX9_sortOf_10 (by decide) ?_
    refine z_icmp_lt (tgt := 25) dX9_sortOf_12 (by decide) (eq_ite hv) (fun hv => ?_) (fun hv => ?_)
    · refine z_iload_n dX9_sortOf_25 rfl 0 rfl ?_
      refine z_bipush dX9_sortOf_26 (by decide) ?_
      refine z_icmp_lt (tgt := 41) dX9_sortOf_28 (by decide) (eq_ite hv) (fun hv => ?_) (fun hv => ?_)
      · refine z_iconst dX9_sortOf_41 ?_
        exact z_iret rfl dX9_sortOf_42 rfl rfl rfl ⟨by first | (rw [hv]; done) | rfl, rfl⟩
      · refine z_iload_n dX9_sortOf_31 rfl 0 rfl ?_
        refine z_bipush dX9_sortOf_32 (by decide) ?_
        refine z_icmp_gt (tgt := 41) dX9_sortOf_34 (by decide) (eq_ite hv) (fun hv => ?_) (fun hv => ?_)
        · refine z_iconst dX9_sortOf_41 ?_
          exact z_iret rfl dX9_sortOf_42 rfl rfl rfl ⟨by first | (rw [hv]; done) | rfl, rfl⟩
        · refine z_iconst dX9_sortOf_37 ?_
          refine z_goto (tgt := 42) dX9_sortOf_38 (by decide) ?_
          exact z_iret rfl dX9_sortOf_42 rfl rfl rfl ⟨by first | (rw [hv]; done) | rfl, rfl⟩
    · refine z_iload_n dX9_sortOf_15 rfl 0 rfl ?_
      refine z_bipush dX9_sortOf_16 (by decide) ?_
      refine z_icmp_gt (tgt := 25) dX9_sortOf_18 (by decide) (eq_ite hv) (fun hv => ?_) (fun hv => ?_)
      · refine z_iload_n dX9_sortOf_25 rfl 0 rfl ?_
        refine z_bipush dX9_sortOf_26 (by decide) ?_
        refine z_icmp_lt (tgt := 41) dX9_sortOf_28 (by decide) (eq_ite hv) (fun hv => ?_) (fun hv => ?_)
        · refine z_iconst dX9_sortOf_41 ?_
          exact z_iret rfl dX9_sortOf_42 rfl rfl rfl ⟨by first | (rw [hv]; done) | rfl, rfl⟩
        · refine z_iload_n dX9_sortOf_31 rfl 0 rfl ?_
          refine z_bipush dX9_sortOf_32 (by decide) ?_
          refine z_icmp_gt (tgt := 41) dX9_sortOf_34 (by decide) (eq_ite hv) (fun hv => ?_) (fun hv => ?_)
          · refine z_iconst dX9_sortOf_41 ?_
            exact z_iret rfl dX9_sortOf_42 rfl rfl rfl ⟨by first | (rw [hv]; done) | rfl, rfl⟩
          · refine z_iconst dX9_sortOf_37 ?_
            refine z_goto (tgt := 42) dX9_sortOf_38 (by decide) ?_
            exact z_iret rfl dX9_sortOf_42 rfl rfl rfl ⟨by first | (rw [hv]; done) | rfl, rfl⟩
      · refine z_iconst dX9_sortOf_21 ?_
        refine z_goto (tgt := 42) dX9_sortOf_22 (by decide) ?_
        exact z_iret rfl dX9_sortOf_42 rfl rfl rfl ⟨by first | (rw [hv]; done) | rfl, rfl⟩
abbrev Y_Tape_next : Yt := (1, none, yX9_next.name, { frames := 1, cells := 0, slots := 0, locals := 21 }, 175, 0, 0)
def l_Tape_next_8 (X_8_64 : Mem → Prop) : Nat → Mem → Prop
  | 0, _ => False
  | fu8 + 1, μ_2 => if w (rI μ_2 2283 0) < w (rI μ_2 2281 0) then (if w (at' μ_2 11 300 (rI μ_2 2283 0)) = w 32 then (∀ μ_3 : Mem, μ_3 = sI μ_2 2283 0 ((rI μ_2 2283 0) + 1) → (l_Tape_next_8 X_8_64 fu8) μ_3) else (if w (at' μ_2 11 300 (rI μ_2 2283 0)) = w 10 then (∀ μ_4 : Mem, μ_4 = sI μ_2 2283 0 ((rI μ_2 2283 0) + 1) → (l_Tape_next_8 X_8_64 fu8) μ_4) else (X_8_64 μ_2))) else (X_8_64 μ_2)
def l_Tape_next_150 (X_150_199 : Mem → Prop) : Nat → Mem → Prop
  | 0, _ => False
  | fu150 + 1, μ_11 => if w (rI μ_11 2282 0) = w 1 then (if w (rI μ_11 2284 0) < w (rI μ_11 2281 0) then (if (v_Tape_isLetter (at' μ_11 11 300 (rI μ_11 2284 0))) = true then (∀ μ_12 : Mem, μ_12 = sI μ_11 2284 0 ((rI μ_11 2284 0) + 1) → (l_Tape_next_150 X_150_199 fu150) μ_12) else (X_150_199 μ_11)) else (X_150_199 μ_11)) else (X_150_199 μ_11)
def l_Tape_next_199 (X_199_294 : Mem → Prop) : Nat → Mem → Prop
  | 0, _ => False
  | fu199 + 1, μ_15 => if w (rI μ_15 2282 0) = w 2 then (if w (rI μ_15 2284 0) < w (rI μ_15 2281 0) then (if (v_Tape_isFigure (at' μ_15 11 300 (rI μ_15 2284 0))) = true then (∀ x278 : Int, x278 = (if w ((rI μ_15 2284 0) - (rI μ_15 2283 0)) < w 4 then ((((rI μ_15 2285 0) * 10) + (at' μ_15 11 300 (rI μ_15 2284 0))) - 48) else (rI μ_15 2285 0)) → ∀ μ_16 : Mem, μ_16 = sI μ_15 2285 0 x278 → ∀ μ_17 : Mem, μ_17 = sI μ_16 2284 0 ((rI μ_16 2284 0) + 1) → (l_Tape_next_199 X_199_294 fu199) μ_17) else (X_199_294 μ_15)) else (X_199_294 μ_15)) else (X_199_294 μ_15)
def b_Tape_next_199 (k : Mem → Prop) (μ_14 : Mem) : Prop := ∃ m199 : Nat, l_Tape_next_199 (fun (μ_18 : Mem) => if w (rI μ_18 2282 0) = w 2 then (if w 4 < w ((rI μ_18 2284 0) - (rI μ_18 2283 0)) then (∀ μ_19 : Mem, μ_19 = sI μ_18 2282 0 4 → k μ_19) else (k μ_18)) else (k μ_18)) m199 μ_14
def b_Tape_next_150 (k : Mem → Prop) (μ_10 : Mem) : Prop := ∃ m150 : Nat, l_Tape_next_150 (fun (μ_13 : Mem) => b_Tape_next_199 k μ_13) m150 μ_10
def f_Tape_next  (μ : Mem) (k : Mem → Prop) : Prop := ∀ μ_1 : Mem, μ_1 = sI μ 2283 0 (rI μ 2284 0) → ∃ m8 : Nat, l_Tape_next_8 (fun (μ_5 : Mem) => ∀ μ_6 : Mem, μ_6 = sI μ_5 2284 0 (rI μ_5 2283 0) → ∀ x99 : Int, x99 = (if w (rI μ_6 2283 0) < w (rI μ_6 2281 0) then (at' μ_6 11 300 (rI μ_6 2283 0)) else (-1)) → ∀ μ_7 : Mem, μ_7 = sI μ_6 2282 0 (v_Tape_sortOf x99) → ∀ x129 : Int, x129 = (if w (rI μ_7 2282 0) = w 3 then (at' μ_7 11 300 (rI μ_7 2283 0)) else 0) → ∀ μ_8 : Mem, μ_8 = sI μ_7 2285 0 x129 → if w (rI μ_8 2282 0) = w 3 then (∀ μ_9 : Mem, μ_9 = sI μ_8 2284 0 ((rI μ_8 2284 0) + 1) → b_Tape_next_150 k μ_9) else (b_Tape_next_150 k μ_8)) m8 μ_1
theorem L_Tape_next_8 {l : Launch} {Γ : Gam} {g : Nat} {X_8_64 : Mem → Prop} {k : Mem → Prop} (hX_8_64 : ∀ (ν : Mem), StatR ν.2.2 → X_8_64 ν → SW l Γ yX9_next.cls cX9_next Y_Tape_next (pV k) g 175 0 0 ν 64 [(0, vr Γ 10)] []) (n9 : Nat) : ∀ (μ_2 : Mem), StatR μ_2.2.2 → l_Tape_next_8 X_8_64 n9 μ_2 → SW l Γ yX9_next.cls cX9_next Y_Tape_next (pV k) g 175 0 0 μ_2 8 [(0, vr Γ 10)] [] := by
  induction n9 with
  | zero =>
    intro μ_2 hs h
    exact h.elim
  | succ n9 hR_8 =>
    intro μ_2 hs h
    rw [l_Tape_next_8] at h
    refine z_rload_n dX9_next_8 rfl 0 rfl ?_
    refine z_getI (q := 2283) ff_9_3 dX9_next_9 kt_10 (Nat.le_of_ble_eq_true rfl) fl_X9_35 rfl ?_
    refine z_rload_n dX9_next_12 rfl 0 rfl ?_
    refine z_getI (q := 2281) ff_9_1 dX9_next_13 kt_10 (Nat.le_of_ble_eq_true rfl) fl_X9_19 rfl ?_
    refine z_icmp_ge (tgt := 64) dX9_next_16 (by decide) h (fun h => ?_) (fun h => ?_)
    · refine z_rload_n dX9_next_19 rfl 0 rfl ?_
      refine z_getR (q := 2280) ff_9_0 dX9_next_20 kt_10 (Nat.le_of_ble_eq_true rfl) fl_X9_9 rfl (hs.1 _ _ sr_2280) ?_
      refine z_rload_n dX9_next_23 rfl 0 rfl ?_
      refine z_getI (q := 2283) ff_9_3 dX9_next_24 kt_10 (Nat.le_of_ble_eq_true rfl) fl_X9_35 rfl ?_
      refine z_NE (i_X11_at kt_11 (Nat.le_of_ble_eq_true rfl)) ok_X11_at nw_X9_38 ⟨Nat.le_of_ble_eq_true rfl, Nat.le_of_ble_eq_true rfl⟩ ⟨Nat.zero_le _, Nat.zero_le _⟩ rfl rfl (Nat.le_of_ble_eq_true rfl) dX9_next_27 ?_
      refine z_bipush dX9_next_30 (by decide) ?_
      refine z_icmp_eq (tgt := 51) dX9_next_32 (by decide) h (fun h => ?_) (fun h => ?_)
      · refine z_rload_n dX9_next_51 rfl 0 rfl ?_
        refine z_dup dX9_next_52 rfl ?_
        refine z_getI (q := 2283) ff_9_3 dX9_next_53 kt_10 (Nat.le_of_ble_eq_true rfl) fl_X9_35 rfl ?_
        refine z_iconst dX9_next_56 ?_
        refine z_iadd dX9_next_57 ?_
        refine z_putI (q := 2283) ff_9_3 (Or.inl rfl) rfl dX9_next_58 kt_10 (Nat.le_of_ble_eq_true rfl) fl_X9_35 rfl ?_
        refine z_mm (fun μ_3 eμ_3 => ?_)
        replace h := h μ_3 eμ_3
        replace hs : StatR μ_3.2.2 := by rw [eμ_3]; exact hs
        refine z_goto (tgt := 8) dX9_next_61 (by decide) ?_
        refine z_sub (lv' := [(0, vr Γ 10)]) [0] rfl ?_
        exact hR_8 μ_3 hs h
      · refine z_rload_n dX9_next_35 rfl 0 rfl ?_
        refine z_getR (q := 2280) ff_9_0 dX9_next_36 kt_10 (Nat.le_of_ble_eq_true rfl) fl_X9_9 rfl (hs.1 _ _ sr_2280) ?_
        refine z_rload_n dX9_next_39 rfl 0 rfl ?_
        refine z_getI (q := 2283) ff_9_3 dX9_next_40 kt_10 (Nat.le_of_ble_eq_true rfl) fl_X9_35 rfl ?_
        refine z_NE (i_X11_at kt_11 (Nat.le_of_ble_eq_true rfl)) ok_X11_at nw_X9_38 ⟨Nat.le_of_ble_eq_true rfl, Nat.le_of_ble_eq_true rfl⟩ ⟨Nat.zero_le _, Nat.zero_le _⟩ rfl rfl (Nat.le_of_ble_eq_true rfl) dX9_next_43 ?_
        refine z_bipush dX9_next_46 (by decide) ?_
        refine z_icmp_ne (tgt := 64) dX9_next_48 (by decide) h (fun h => ?_) (fun h => ?_)
        · refine z_rload_n dX9_next_51 rfl 0 rfl ?_
          refine z_dup dX9_next_52 rfl ?_
          refine z_getI (q := 2283) ff_9_3 dX9_next_53 kt_10 (Nat.le_of_ble_eq_true rfl) fl_X9_35 rfl ?_
          refine z_iconst dX9_next_56 ?_
          refine z_iadd dX9_next_57 ?_
          refine z_putI (q := 2283) ff_9_3 (Or.inl rfl) rfl dX9_next_58 kt_10 (Nat.le_of_ble_eq_true rfl) fl_X9_35 rfl ?_
          refine z_mm (fun μ_4 eμ_4 => ?_)
          replace h := h μ_4 eμ_4
          replace hs : StatR μ_4.2.2 := by rw [eμ_4]; exact hs
          refine z_goto (tgt := 8) dX9_next_61 (by decide) ?_
          refine z_sub (lv' := [(0, vr Γ 10)]) [0] rfl ?_
          exact hR_8 μ_4 hs h
        · refine z_sub (lv' := [(0, vr Γ 10)]) [0] rfl ?_
          exact hX_8_64 μ_2 hs h
    · refine z_sub (lv' := [(0, vr Γ 10)]) [0] rfl ?_
      exact hX_8_64 μ_2 hs h
theorem L_Tape_next_150 {l : Launch} {Γ : Gam} {g : Nat} {X_150_199 : Mem → Prop} {k : Mem → Prop} (hX_150_199 : ∀ (ν : Mem), StatR ν.2.2 → X_150_199 ν → SW l Γ yX9_next.cls cX9_next Y_Tape_next (pV k) g 175 0 0 ν 199 [(0, vr Γ 10)] []) (n9 : Nat) : ∀ (μ_11 : Mem), StatR μ_11.2.2 → l_Tape_next_150 X_150_199 n9 μ_11 → SW l Γ yX9_next.cls cX9_next Y_Tape_next (pV k) g 175 0 0 μ_11 150 [(0, vr Γ 10)] [] := by
  induction n9 with
  | zero =>
    intro μ_11 hs h
    exact h.elim
  | succ n9 hR_150 =>
    intro μ_11 hs h
    rw [l_Tape_next_150] at h
    refine z_rload_n dX9_next_150 rfl 0 rfl ?_
    refine z_getI (q := 2282) ff_9_2 dX9_next_151 kt_10 (Nat.le_of_ble_eq_true rfl) fl_X9_46 rfl ?_
    refine z_iconst dX9_next_154 ?_
    refine z_icmp_ne (tgt := 199) dX9_next_155 (by decide) h (fun h => ?_) (fun h => ?_)
    · refine z_rload_n dX9_next_158 rfl 0 rfl ?_
      refine z_getI (q := 2284) ff_9_4 dX9_next_159 kt_10 (Nat.le_of_ble_eq_true rfl) fl_X9_29 rfl ?_
      refine z_rload_n dX9_next_162 rfl 0 rfl ?_
      refine z_getI (q := 2281) ff_9_1 dX9_next_163 kt_10 (Nat.le_of_ble_eq_true rfl) fl_X9_19 rfl ?_
      refine z_icmp_ge (tgt := 199) dX9_next_166 (by decide) h (fun h => ?_) (fun h => ?_)
      · refine z_rload_n dX9_next_169 rfl 0 rfl ?_
        refine z_getR (q := 2280) ff_9_0 dX9_next_170 kt_10 (Nat.le_of_ble_eq_true rfl) fl_X9_9 rfl (hs.1 _ _ sr_2280) ?_
        refine z_rload_n dX9_next_173 rfl 0 rfl ?_
        refine z_getI (q := 2284) ff_9_4 dX9_next_174 kt_10 (Nat.le_of_ble_eq_true rfl) fl_X9_29 rfl ?_
        refine z_NE (i_X11_at kt_11 (Nat.le_of_ble_eq_true rfl)) ok_X11_at nw_X9_38 ⟨Nat.le_of_ble_eq_true rfl, Nat.le_of_ble_eq_true rfl⟩ ⟨Nat.zero_le _, Nat.zero_le _⟩ rfl rfl (Nat.le_of_ble_eq_true rfl) dX9_next_177 ?_
        refine z_SE (i_Tape_isLetter ) sk_X9_isLetter ml_X9_52 ⟨Nat.le_of_ble_eq_true rfl, Nat.le_of_ble_eq_true rfl⟩ ⟨Nat.zero_le _, Nat.zero_le _⟩ rfl rfl (Nat.le_of_ble_eq_true rfl) dX9_next_180 ?_
        refine z_ifeq_b (tgt := 199) dX9_next_183 (by decide) h (fun h => ?_) (fun h => ?_)
        · refine z_rload_n dX9_next_186 rfl 0 rfl ?_
          refine z_dup dX9_next_187 rfl ?_
          refine z_getI (q := 2284) ff_9_4 dX9_next_188 kt_10 (Nat.le_of_ble_eq_true rfl) fl_X9_29 rfl ?_
          refine z_iconst dX9_next_191 ?_
          refine z_iadd dX9_next_192 ?_
          refine z_putI (q := 2284) ff_9_4 (Or.inl rfl) rfl dX9_next_193 kt_10 (Nat.le_of_ble_eq_true rfl) fl_X9_29 rfl ?_
          refine z_mm (fun μ_12 eμ_12 => ?_)
          replace h := h μ_12 eμ_12
          replace hs : StatR μ_12.2.2 := by rw [eμ_12]; exact hs
          refine z_goto (tgt := 150) dX9_next_196 (by decide) ?_
          refine z_sub (lv' := [(0, vr Γ 10)]) [0] rfl ?_
          exact hR_150 μ_12 hs h
        · refine z_sub (lv' := [(0, vr Γ 10)]) [0] rfl ?_
          exact hX_150_199 μ_11 hs h
      · refine z_sub (lv' := [(0, vr Γ 10)]) [0] rfl ?_
        exact hX_150_199 μ_11 hs h
    · refine z_sub (lv' := [(0, vr Γ 10)]) [0] rfl ?_
      exact hX_150_199 μ_11 hs h
theorem L_Tape_next_199 {l : Launch} {Γ : Gam} {g : Nat} {X_199_294 : Mem → Prop} {k : Mem → Prop} (hX_199_294 : ∀ (ν : Mem), StatR ν.2.2 → X_199_294 ν → SW l Γ yX9_next.cls cX9_next Y_Tape_next (pV k) g 175 0 0 ν 294 [(0, vr Γ 10)] []) (n9 : Nat) : ∀ (μ_15 : Mem), StatR μ_15.2.2 → l_Tape_next_199 X_199_294 n9 μ_15 → SW l Γ yX9_next.cls cX9_next Y_Tape_next (pV k) g 175 0 0 μ_15 199 [(0, vr Γ 10)] [] := by
  induction n9 with
  | zero =>
    intro μ_15 hs h
    exact h.elim
  | succ n9 hR_199 =>
    intro μ_15 hs h
    rw [l_Tape_next_199] at h
    refine z_rload_n dX9_next_199 rfl 0 rfl ?_
    refine z_getI (q := 2282) ff_9_2 dX9_next_200 kt_10 (Nat.le_of_ble_eq_true rfl) fl_X9_46 rfl ?_
    refine z_iconst dX9_next_203 ?_
    refine z_icmp_ne (tgt := 294) dX9_next_204 (by decide) h (fun h => ?_) (fun h => ?_)
    · refine z_rload_n dX9_next_207 rfl 0 rfl ?_
      refine z_getI (q := 2284) ff_9_4 dX9_next_208 kt_10 (Nat.le_of_ble_eq_true rfl) fl_X9_29 rfl ?_
      refine z_rload_n dX9_next_211 rfl 0 rfl ?_
      refine z_getI (q := 2281) ff_9_1 dX9_next_212 kt_10 (Nat.le_of_ble_eq_true rfl) fl_X9_19 rfl ?_
      refine z_icmp_ge (tgt := 294) dX9_next_215 (by decide) h (fun h => ?_) (fun h => ?_)
      · refine z_rload_n dX9_next_218 rfl 0 rfl ?_
        refine z_getR (q := 2280) ff_9_0 dX9_next_219 kt_10 (Nat.le_of_ble_eq_true rfl) fl_X9_9 rfl (hs.1 _ _ sr_2280) ?_
        refine z_rload_n dX9_next_222 rfl 0 rfl ?_
        refine z_getI (q := 2284) ff_9_4 dX9_next_223 kt_10 (Nat.le_of_ble_eq_true rfl) fl_X9_29 rfl ?_
        refine z_NE (i_X11_at kt_11 (Nat.le_of_ble_eq_true rfl)) ok_X11_at nw_X9_38 ⟨Nat.le_of_ble_eq_true rfl, Nat.le_of_ble_eq_true rfl⟩ ⟨Nat.zero_le _, Nat.zero_le _⟩ rfl rfl (Nat.le_of_ble_eq_true rfl) dX9_next_226 ?_
        refine z_SE (i_Tape_isFigure ) sk_X9_isFigure ml_X9_56 ⟨Nat.le_of_ble_eq_true rfl, Nat.le_of_ble_eq_true rfl⟩ ⟨Nat.zero_le _, Nat.zero_le _⟩ rfl rfl (Nat.le_of_ble_eq_true rfl) dX9_next_229 ?_
        refine z_ifeq_b (tgt := 294) dX9_next_232 (by decide) h (fun h => ?_) (fun h => ?_)
        · refine z_rload_n dX9_next_235 rfl 0 rfl ?_
          refine z_rload_n dX9_next_236 rfl 0 rfl ?_
          refine z_getI (q := 2284) ff_9_4 dX9_next_237 kt_10 (Nat.le_of_ble_eq_true rfl) fl_X9_29 rfl ?_
          refine z_rload_n dX9_next_240 rfl 0 rfl ?_
          refine z_getI (q := 2283) ff_9_3 dX9_next_241 kt_10 (Nat.le_of_ble_eq_true rfl) fl_X9_35 rfl ?_
          refine z_isub dX9_next_244 ?_
          refine z_iconst dX9_next_245 ?_
          refine z_phi 278 [vr Γ 10] (fun V9 hv J9 => ?_) h (fun x278 h => ?_)
          · refine z_icmp_ge (tgt := 274) dX9_next_246 (by decide) (eq_ite hv) (fun hv => ?_) (fun hv => ?_)
            · refine z_rload_n dX9_next_249 rfl 0 rfl ?_
              refine z_getI (q := 2285) ff_9_5 dX9_next_250 kt_10 (Nat.le_of_ble_eq_true rfl) fl_X9_49 rfl ?_
              refine z_bipush dX9_next_253 (by decide) ?_
              refine z_imul dX9_next_255 ?_
              refine z_rload_n dX9_next_256 rfl 0 rfl ?_
              refine z_getR (q := 2280) ff_9_0 dX9_next_257 kt_10 (Nat.le_of_ble_eq_true rfl) fl_X9_9 rfl (hs.1 _ _ sr_2280) ?_
              refine z_rload_n dX9_next_260 rfl 0 rfl ?_
              refine z_getI (q := 2284) ff_9_4 dX9_next_261 kt_10 (Nat.le_of_ble_eq_true rfl) fl_X9_29 rfl ?_
              refine z_NE (i_X11_at kt_11 (Nat.le_of_ble_eq_true rfl)) ok_X11_at nw_X9_38 ⟨Nat.le_of_ble_eq_true rfl, Nat.le_of_ble_eq_true rfl⟩ ⟨Nat.zero_le _, Nat.zero_le _⟩ rfl rfl (Nat.le_of_ble_eq_true rfl) dX9_next_264 ?_
              refine z_iadd dX9_next_267 ?_
              refine z_bipush dX9_next_268 (by decide) ?_
              refine z_isub dX9_next_270 ?_
              refine z_goto (tgt := 278) dX9_next_271 (by decide) ?_
              exact J9 _ hv.symm
            · refine z_rload_n dX9_next_274 rfl 0 rfl ?_
              refine z_getI (q := 2285) ff_9_5 dX9_next_275 kt_10 (Nat.le_of_ble_eq_true rfl) fl_X9_49 rfl ?_
              exact J9 _ hv.symm
          · refine z_putI (q := 2285) ff_9_5 (Or.inl rfl) rfl dX9_next_278 kt_10 (Nat.le_of_ble_eq_true rfl) fl_X9_49 rfl ?_
            refine z_mm (fun μ_16 eμ_16 => ?_)
            replace h := h μ_16 eμ_16
            replace hs : StatR μ_16.2.2 := by rw [eμ_16]; exact hs
            refine z_rload_n dX9_next_281 rfl 0 rfl ?_
            refine z_dup dX9_next_282 rfl ?_
            refine z_getI (q := 2284) ff_9_4 dX9_next_283 kt_10 (Nat.le_of_ble_eq_true rfl) fl_X9_29 rfl ?_
            refine z_iconst dX9_next_286 ?_
            refine z_iadd dX9_next_287 ?_
            refine z_putI (q := 2284) ff_9_4 (Or.inl rfl) rfl dX9_next_288 kt_10 (Nat.le_of_ble_eq_true rfl) fl_X9_29 rfl ?_
            refine z_mm (fun μ_17 eμ_17 => ?_)
            replace h := h μ_17 eμ_17
            replace hs : StatR μ_17.2.2 := by rw [eμ_17]; exact hs
            refine z_goto (tgt := 199) dX9_next_291 (by decide) ?_
            refine z_sub (lv' := [(0, vr Γ 10)]) [0] rfl ?_
            exact hR_199 μ_17 hs h
        · refine z_sub (lv' := [(0, vr Γ 10)]) [0] rfl ?_
          exact hX_199_294 μ_15 hs h
      · refine z_sub (lv' := [(0, vr Γ 10)]) [0] rfl ?_
        exact hX_199_294 μ_15 hs h
    · refine z_sub (lv' := [(0, vr Γ 10)]) [0] rfl ?_
      exact hX_199_294 μ_15 hs h
theorem B_Tape_next_199 {l : Launch} {Γ : Gam} {g : Nat} {k : Mem → Prop} {μ_14 : Mem} (hs : StatR μ_14.2.2) (h : b_Tape_next_199 k μ_14) : SW l Γ yX9_next.cls cX9_next Y_Tape_next (pV k) g 175 0 0 μ_14 199 [(0, vr Γ 10)] [] := by
  unfold b_Tape_next_199 at h
  obtain ⟨m199, h⟩ := h
  refine z_sub (lv' := [(0, vr Γ 10)]) [0] rfl ?_
  refine L_Tape_next_199 (fun μ_18 hs h => ?_) m199 μ_14 hs h
  refine z_rload_n dX9_next_294 rfl 0 rfl ?_
  refine z_getI (q := 2282) ff_9_2 dX9_next_295 kt_10 (Nat.le_of_ble_eq_true rfl) fl_X9_46 rfl ?_
  refine z_iconst dX9_next_298 ?_
  refine z_icmp_ne (tgt := 320) dX9_next_299 (by decide) h (fun h => ?_) (fun h => ?_)
  · refine z_rload_n dX9_next_302 rfl 0 rfl ?_
    refine z_getI (q := 2284) ff_9_4 dX9_next_303 kt_10 (Nat.le_of_ble_eq_true rfl) fl_X9_29 rfl ?_
    refine z_rload_n dX9_next_306 rfl 0 rfl ?_
    refine z_getI (q := 2283) ff_9_3 dX9_next_307 kt_10 (Nat.le_of_ble_eq_true rfl) fl_X9_35 rfl ?_
    refine z_isub dX9_next_310 ?_
    refine z_iconst dX9_next_311 ?_
    refine z_icmp_le (tgt := 320) dX9_next_312 (by decide) h (fun h => ?_) (fun h => ?_)
    · refine z_rload_n dX9_next_315 rfl 0 rfl ?_
      refine z_iconst dX9_next_316 ?_
      refine z_putI (q := 2282) ff_9_2 (Or.inl rfl) rfl dX9_next_317 kt_10 (Nat.le_of_ble_eq_true rfl) fl_X9_46 rfl ?_
      refine z_mm (fun μ_19 eμ_19 => ?_)
      replace h := h μ_19 eμ_19
      replace hs : StatR μ_19.2.2 := by rw [eμ_19]; exact hs
      exact z_vret rfl dX9_next_320 rfl rfl rfl ⟨rfl, hs, h⟩
    · exact z_vret rfl dX9_next_320 rfl rfl rfl ⟨rfl, hs, h⟩
  · exact z_vret rfl dX9_next_320 rfl rfl rfl ⟨rfl, hs, h⟩
theorem B_Tape_next_150 {l : Launch} {Γ : Gam} {g : Nat} {k : Mem → Prop} {μ_10 : Mem} (hs : StatR μ_10.2.2) (h : b_Tape_next_150 k μ_10) : SW l Γ yX9_next.cls cX9_next Y_Tape_next (pV k) g 175 0 0 μ_10 150 [(0, vr Γ 10)] [] := by
  unfold b_Tape_next_150 at h
  obtain ⟨m150, h⟩ := h
  refine z_sub (lv' := [(0, vr Γ 10)]) [0] rfl ?_
  refine L_Tape_next_150 (fun μ_13 hs h => ?_) m150 μ_10 hs h
  refine z_sub (lv' := [(0, vr Γ 10)]) [0] rfl ?_
  exact B_Tape_next_199 hs h
theorem i_Tape_next {l : Launch} {Γ : Gam} {g : Nat} {μ : Mem} {k : Mem → Prop} (hs : StatR μ.2.2) (h : f_Tape_next  μ k) : CT l Γ yX9_next cX9_next 1 none 1 21 0 0 [vr Γ 10] g 175 μ (pV k) := by
  refine SW.ct (by decide) (Nat.le_of_ble_eq_true rfl) ?_
  refine z_sub (lv' := [(0, vr Γ 10)]) [0] rfl ?_
  show SW l Γ yX9_next.cls cX9_next Y_Tape_next (pV k) g 175 0 0 μ 0 [(0, vr Γ 10)] []
  unfold f_Tape_next at h
  refine z_rload_n dX9_next_0 rfl 0 rfl ?_
  refine z_rload_n dX9_next_1 rfl 0 rfl ?_
  refine z_getI (q := 2284) ff_9_4 dX9_next_2 kt_10 (Nat.le_of_ble_eq_true rfl) fl_X9_29 rfl ?_
  refine z_putI (q := 2283) ff_9_3 (Or.inl rfl) rfl dX9_next_5 kt_10 (Nat.le_of_ble_eq_true rfl) fl_X9_35 rfl ?_
  refine z_mm (fun μ_1 eμ_1 => ?_)
  replace h := h μ_1 eμ_1
  replace hs : StatR μ_1.2.2 := by rw [eμ_1]; exact hs
  obtain ⟨m8, h⟩ := h
  refine z_sub (lv' := [(0, vr Γ 10)]) [0] rfl ?_
  refine L_Tape_next_8 (fun μ_5 hs h => ?_) m8 μ_1 hs h
  refine z_rload_n dX9_next_64 rfl 0 rfl ?_
  refine z_rload_n dX9_next_65 rfl 0 rfl ?_
  refine z_getI (q := 2283) ff_9_3 dX9_next_66 kt_10 (Nat.le_of_ble_eq_true rfl) fl_X9_35 rfl ?_
  refine z_putI (q := 2284) ff_9_4 (Or.inl rfl) rfl dX9_next_69 kt_10 (Nat.le_of_ble_eq_true rfl) fl_X9_29 rfl ?_
  refine z_mm (fun μ_6 eμ_6 => ?_)
  replace h := h μ_6 eμ_6
  replace hs : StatR μ_6.2.2 := by rw [eμ_6]; exact hs
  refine z_rload_n dX9_next_72 rfl 0 rfl ?_
  refine z_rload_n dX9_next_73 rfl 0 rfl ?_
  refine z_getI (q := 2283) ff_9_3 dX9_next_74 kt_10 (Nat.le_of_ble_eq_true rfl) fl_X9_35 rfl ?_
  refine z_rload_n dX9_next_77 rfl 0 rfl ?_
  refine z_getI (q := 2281) ff_9_1 dX9_next_78 kt_10 (Nat.le_of_ble_eq_true rfl) fl_X9_19 rfl ?_
  refine z_phi 99 [vr Γ 10] (fun V9 hv J9 => ?_) h (fun x99 h => ?_)
  · refine z_icmp_ge (tgt := 98) dX9_next_81 (by decide) (eq_ite hv) (fun hv => ?_) (fun hv => ?_)
    · refine z_rload_n dX9_next_84 rfl 0 rfl ?_
      refine z_getR (q := 2280) ff_9_0 dX9_next_85 kt_10 (Nat.le_of_ble_eq_true rfl) fl_X9_9 rfl (hs.1 _ _ sr_2280) ?_
      refine z_rload_n dX9_next_88 rfl 0 rfl ?_
      refine z_getI (q := 2283) ff_9_3 dX9_next_89 kt_10 (Nat.le_of_ble_eq_true rfl) fl_X9_35 rfl ?_
      refine z_NE (i_X11_at kt_11 (Nat.le_of_ble_eq_true rfl)) ok_X11_at nw_X9_38 ⟨Nat.le_of_ble_eq_true rfl, Nat.le_of_ble_eq_true rfl⟩ ⟨Nat.zero_le _, Nat.zero_le _⟩ rfl rfl (Nat.le_of_ble_eq_true rfl) dX9_next_92 ?_
      refine z_goto (tgt := 99) dX9_next_95 (by decide) ?_
      exact J9 _ hv.symm
    · refine z_iconst dX9_next_98 ?_
      exact J9 _ hv.symm
  · refine z_SE (i_Tape_sortOf ) sk_X9_sortOf ml_X9_42 ⟨Nat.le_of_ble_eq_true rfl, Nat.le_of_ble_eq_true rfl⟩ ⟨Nat.zero_le _, Nat.zero_le _⟩ rfl rfl (Nat.le_of_ble_eq_true rfl) dX9_next_99 ?_
    refine z_putI (q := 2282) ff_9_2 (Or.inl rfl) rfl dX9_next_102 kt_10 (Nat.le_of_ble_eq_true rfl) fl_X9_46 rfl ?_
    refine z_mm (fun μ_7 eμ_7 => ?_)
    replace h := h μ_7 eμ_7
    replace hs : StatR μ_7.2.2 := by rw [eμ_7]; exact hs
    refine z_rload_n dX9_next_105 rfl 0 rfl ?_
    refine z_rload_n dX9_next_106 rfl 0 rfl ?_
    refine z_getI (q := 2282) ff_9_2 dX9_next_107 kt_10 (Nat.le_of_ble_eq_true rfl) fl_X9_46 rfl ?_
    refine z_iconst dX9_next_110 ?_
    refine z_phi 129 [vr Γ 10] (fun V9 hv J9 => ?_) h (fun x129 h => ?_)
    · refine z_icmp_ne (tgt := 128) dX9_next_111 (by decide) (eq_ite hv) (fun hv => ?_) (fun hv => ?_)
      · refine z_rload_n dX9_next_114 rfl 0 rfl ?_
        refine z_getR (q := 2280) ff_9_0 dX9_next_115 kt_10 (Nat.le_of_ble_eq_true rfl) fl_X9_9 rfl (hs.1 _ _ sr_2280) ?_
        refine z_rload_n dX9_next_118 rfl 0 rfl ?_
        refine z_getI (q := 2283) ff_9_3 dX9_next_119 kt_10 (Nat.le_of_ble_eq_true rfl) fl_X9_35 rfl ?_
        refine z_NE (i_X11_at kt_11 (Nat.le_of_ble_eq_true rfl)) ok_X11_at nw_X9_38 ⟨Nat.le_of_ble_eq_true rfl, Nat.le_of_ble_eq_true rfl⟩ ⟨Nat.zero_le _, Nat.zero_le _⟩ rfl rfl (Nat.le_of_ble_eq_true rfl) dX9_next_122 ?_
        refine z_goto (tgt := 129) dX9_next_125 (by decide) ?_
        exact J9 _ hv.symm
      · refine z_iconst dX9_next_128 ?_
        exact J9 _ hv.symm
    · refine z_putI (q := 2285) ff_9_5 (Or.inl rfl) rfl dX9_next_129 kt_10 (Nat.le_of_ble_eq_true rfl) fl_X9_49 rfl ?_
      refine z_mm (fun μ_8 eμ_8 => ?_)
      replace h := h μ_8 eμ_8
      replace hs : StatR μ_8.2.2 := by rw [eμ_8]; exact hs
      refine z_rload_n dX9_next_132 rfl 0 rfl ?_
      refine z_getI (q := 2282) ff_9_2 dX9_next_133 kt_10 (Nat.le_of_ble_eq_true rfl) fl_X9_46 rfl ?_
      refine z_iconst dX9_next_136 ?_
      refine z_icmp_ne (tgt := 150) dX9_next_137 (by decide) h (fun h => ?_) (fun h => ?_)
      · refine z_rload_n dX9_next_140 rfl 0 rfl ?_
        refine z_dup dX9_next_141 rfl ?_
        refine z_getI (q := 2284) ff_9_4 dX9_next_142 kt_10 (Nat.le_of_ble_eq_true rfl) fl_X9_29 rfl ?_
        refine z_iconst dX9_next_145 ?_
        refine z_iadd dX9_next_146 ?_
        refine z_putI (q := 2284) ff_9_4 (Or.inl rfl) rfl dX9_next_147 kt_10 (Nat.le_of_ble_eq_true rfl) fl_X9_29 rfl ?_
        refine z_mm (fun μ_9 eμ_9 => ?_)
        replace h := h μ_9 eμ_9
        replace hs : StatR μ_9.2.2 := by rw [eμ_9]; exact hs
        refine z_sub (lv' := [(0, vr Γ 10)]) [0] rfl ?_
        exact B_Tape_next_150 hs h
      · refine z_sub (lv' := [(0, vr Γ 10)]) [0] rfl ?_
        exact B_Tape_next_150 hs h
abbrev Y_Tape_skipWord : Yt := (2, (some .boolean), yX9_skipWord.name, { frames := 6, cells := 0, slots := 0, locals := 144 }, 175, 0, 0)
def f_Tape_skipWord (a1 : Nat) (μ : Mem) (k : Bool → Mem → Prop) : Prop := f_Tape_isWord a1 μ (fun r2 μ_1 => if r2 = true then (f_Tape_next  μ_1 (fun μ_2 => k true μ_2)) else (f_Tape_fail 1 μ_1 (fun r10 μ_3 => k r10 μ_3)))
theorem i_Tape_skipWord {l : Launch} {Γ : Gam} {g : Nat} {a1 : Nat} {μ : Mem} {k : Bool → Mem → Prop} (hq_a1 : a1 < 30) (hs : StatR μ.2.2) (h : f_Tape_skipWord a1 μ k) : CT l Γ yX9_skipWord cX9_skipWord 2 (some .boolean) 6 144 0 0 [vr Γ 10, .ref (Γ.2.2.2.2.1 a1)] g 175 μ (pB k) := by
  refine SW.ct (by decide) (Nat.le_of_ble_eq_true rfl) ?_
  refine z_sub (lv' := [(0, vr Γ 10), (1, .ref (Γ.2.2.2.2.1 a1))]) [0, 1] rfl ?_
  show SW l Γ yX9_skipWord.cls cX9_skipWord Y_Tape_skipWord (pB k) g 175 0 0 μ 0 [(0, vr Γ 10), (1, .ref (Γ.2.2.2.2.1 a1))] []
  unfold f_Tape_skipWord at h
  refine z_rload_n dX9_skipWord_0 rfl 0 rfl ?_
  refine z_aload_n dX9_skipWord_1 rfl 1 rfl ?_
  refine z_VB (i_Tape_isWord hq_a1 hs h) vk_X9_isWord kt_10 (Nat.le_of_ble_eq_true rfl) rfl ml_X9_75 ⟨Nat.le_of_ble_eq_true rfl, Nat.le_of_ble_eq_true rfl⟩ ⟨Nat.zero_le _, Nat.zero_le _⟩ rfl rfl (Nat.le_of_ble_eq_true rfl) dX9_skipWord_2 (fun r2 μ_1 hs h => ?_)
  refine z_ifne_b (tgt := 14) dX9_skipWord_5 (by decide) h (fun h => ?_) (fun h => ?_)
  · refine z_rload_n dX9_skipWord_14 rfl 0 rfl ?_
    refine z_VU (i_Tape_next  hs h) vk_X9_next kt_10 (Nat.le_of_ble_eq_true rfl) rfl ml_X9_32 ⟨Nat.le_of_ble_eq_true rfl, Nat.le_of_ble_eq_true rfl⟩ ⟨Nat.zero_le _, Nat.zero_le _⟩ rfl rfl (Nat.le_of_ble_eq_true rfl) dX9_skipWord_15 (fun μ_2 hs h => ?_)
    refine z_iconst dX9_skipWord_18 ?_
    exact z_zret (b := true) rfl dX9_skipWord_19 rfl rfl rfl ⟨_, rfl, hs, h⟩
  · refine z_rload_n dX9_skipWord_8 rfl 0 rfl ?_
    refine z_iconst dX9_skipWord_9 ?_
    refine z_VB (i_Tape_fail  hs h) vk_X9_fail kt_10 (Nat.le_of_ble_eq_true rfl) rfl ml_X9_72 ⟨Nat.le_of_ble_eq_true rfl, Nat.le_of_ble_eq_true rfl⟩ ⟨Nat.zero_le _, Nat.zero_le _⟩ rfl rfl (Nat.le_of_ble_eq_true rfl) dX9_skipWord_10 (fun r10 μ_3 hs h => ?_)
    exact z_zret (b := r10) rfl dX9_skipWord_13 rfl rfl rfl ⟨_, rfl, hs, h⟩
abbrev Y_OrdR_beginCondition : Yt := (3, (some .boolean), yX5_beginCondition.name, { frames := 7, cells := 0, slots := 0, locals := 165 }, 175, 0, 0)
def b_OrdR_beginCondition_13 (k : Bool → Mem → Prop) (s0 : Int) (μ_1 : Mem) : Prop := if w s0 = w (-1) then (f_Tape_fail 1 μ_1 (fun r24 μ_2 => k r24 μ_2)) else (if w s0 = w 4 then (f_OrdR_beginPart s0 μ_1 (fun μ_3 => f_Tape_skipWord 9 μ_3 (fun r51 μ_4 => k r51 μ_4))) else (f_Tape_next  μ_1 (fun μ_5 => f_OrdR_beginPart s0 μ_5 (fun μ_6 => f_Tape_skipWord 9 μ_6 (fun r51_1 μ_7 => k r51_1 μ_7)))))
def f_OrdR_beginCondition (a1 : Int) (μ : Mem) (k : Bool → Mem → Prop) : Prop := if w a1 = w 5 then (b_OrdR_beginCondition_13 k 4 μ) else (f_OrdR_kindAtHand  μ (fun r10 μ_8 => b_OrdR_beginCondition_13 k r10 μ_8))
theorem B_OrdR_beginCondition_13 {l : Launch} {Γ : Gam} {g : Nat} {k : Bool → Mem → Prop} {s0 : Int} {μ_1 : Mem} (hs : StatR μ_1.2.2) (h : b_OrdR_beginCondition_13 k s0 μ_1) : SW l Γ yX5_beginCondition.cls cX5_beginCondition Y_OrdR_beginCondition (pB k) g 175 0 0 μ_1 13 [(0, vr Γ 63)] [vi s0] := by
  unfold b_OrdR_beginCondition_13 at h
  refine z_istore_n (lv' := [(2, vi s0), (0, vr Γ 63)]) dX5_beginCondition_13 rfl (Nat.le_of_ble_eq_true rfl) rfl ?_
  refine z_iload_n dX5_beginCondition_14 rfl 0 rfl ?_
  refine z_iconst dX5_beginCondition_15 ?_
  refine z_icmp_ne (tgt := 28) dX5_beginCondition_16 (by decide) h (fun h => ?_) (fun h => ?_)
  · refine z_rload_n dX5_beginCondition_19 rfl 1 rfl ?_
    refine z_getR (q := 9064) ff_5_0 dX5_beginCondition_20 kt_63 (Nat.le_of_ble_eq_true rfl) fl_X5_9 rfl (hs.1 _ _ sr_9064) ?_
    refine z_iconst dX5_beginCondition_23 ?_
    refine z_VB (i_Tape_fail  hs h) vk_X9_fail kt_10 (Nat.le_of_ble_eq_true rfl) rfl ml_X5_41 ⟨Nat.le_of_ble_eq_true rfl, Nat.le_of_ble_eq_true rfl⟩ ⟨Nat.zero_le _, Nat.zero_le _⟩ rfl rfl (Nat.le_of_ble_eq_true rfl) dX5_beginCondition_24 (fun r24 μ_2 hs h => ?_)
    exact z_zret (b := r24) rfl dX5_beginCondition_27 rfl rfl rfl ⟨_, rfl, hs, h⟩
  · refine z_iload_n dX5_beginCondition_28 rfl 0 rfl ?_
    refine z_iconst dX5_beginCondition_29 ?_
    refine z_icmp_eq (tgt := 40) dX5_beginCondition_30 (by decide) h (fun h => ?_) (fun h => ?_)
    · refine z_rload_n dX5_beginCondition_40 rfl 1 rfl ?_
      refine z_iload_n dX5_beginCondition_41 rfl 0 rfl ?_
      refine z_VU (i_OrdR_beginPart  hs h) vk_X5_beginPart kt_63 (Nat.le_of_ble_eq_true rfl) rfl ml_X5_61 ⟨Nat.le_of_ble_eq_true rfl, Nat.le_of_ble_eq_true rfl⟩ ⟨Nat.zero_le _, Nat.zero_le _⟩ rfl rfl (Nat.le_of_ble_eq_true rfl) dX5_beginCondition_42 (fun μ_3 hs h => ?_)
      refine z_rload_n dX5_beginCondition_45 rfl 1 rfl ?_
      refine z_getR (q := 9064) ff_5_0 dX5_beginCondition_46 kt_63 (Nat.le_of_ble_eq_true rfl) fl_X5_9 rfl (hs.1 _ _ sr_9064) ?_
      refine z_ldcS dX5_beginCondition_49 st_X5_108 ?_
      refine z_VB (i_Tape_skipWord (Nat.le_of_ble_eq_true rfl) hs h) vk_X9_skipWord kt_10 (Nat.le_of_ble_eq_true rfl) rfl ml_X5_110 ⟨Nat.le_of_ble_eq_true rfl, Nat.le_of_ble_eq_true rfl⟩ ⟨Nat.zero_le _, Nat.zero_le _⟩ rfl rfl (Nat.le_of_ble_eq_true rfl) dX5_beginCondition_51 (fun r51 μ_4 hs h => ?_)
      exact z_zret (b := r51) rfl dX5_beginCondition_54 rfl rfl rfl ⟨_, rfl, hs, h⟩
    · refine z_rload_n dX5_beginCondition_33 rfl 1 rfl ?_
      refine z_getR (q := 9064) ff_5_0 dX5_beginCondition_34 kt_63 (Nat.le_of_ble_eq_true rfl) fl_X5_9 rfl (hs.1 _ _ sr_9064) ?_
      refine z_VU (i_Tape_next  hs h) vk_X9_next kt_10 (Nat.le_of_ble_eq_true rfl) rfl ml_X5_44 ⟨Nat.le_of_ble_eq_true rfl, Nat.le_of_ble_eq_true rfl⟩ ⟨Nat.zero_le _, Nat.zero_le _⟩ rfl rfl (Nat.le_of_ble_eq_true rfl) dX5_beginCondition_37 (fun μ_5 hs h => ?_)
      refine z_rload_n dX5_beginCondition_40 rfl 1 rfl ?_
      refine z_iload_n dX5_beginCondition_41 rfl 0 rfl ?_
      refine z_VU (i_OrdR_beginPart  hs h) vk_X5_beginPart kt_63 (Nat.le_of_ble_eq_true rfl) rfl ml_X5_61 ⟨Nat.le_of_ble_eq_true rfl, Nat.le_of_ble_eq_true rfl⟩ ⟨Nat.zero_le _, Nat.zero_le _⟩ rfl rfl (Nat.le_of_ble_eq_true rfl) dX5_beginCondition_42 (fun μ_6 hs h => ?_)
      refine z_rload_n dX5_beginCondition_45 rfl 1 rfl ?_
      refine z_getR (q := 9064) ff_5_0 dX5_beginCondition_46 kt_63 (Nat.le_of_ble_eq_true rfl) fl_X5_9 rfl (hs.1 _ _ sr_9064) ?_
      refine z_ldcS dX5_beginCondition_49 st_X5_108 ?_
      refine z_VB (i_Tape_skipWord (Nat.le_of_ble_eq_true rfl) hs h) vk_X9_skipWord kt_10 (Nat.le_of_ble_eq_true rfl) rfl ml_X5_110 ⟨Nat.le_of_ble_eq_true rfl, Nat.le_of_ble_eq_true rfl⟩ ⟨Nat.zero_le _, Nat.zero_le _⟩ rfl rfl (Nat.le_of_ble_eq_true rfl) dX5_beginCondition_51 (fun r51_1 μ_7 hs h => ?_)
      exact z_zret (b := r51_1) rfl dX5_beginCondition_54 rfl rfl rfl ⟨_, rfl, hs, h⟩
theorem i_OrdR_beginCondition {l : Launch} {Γ : Gam} {g : Nat} {a1 : Int} {μ : Mem} {k : Bool → Mem → Prop} (hs : StatR μ.2.2) (h : f_OrdR_beginCondition a1 μ k) : CT l Γ yX5_beginCondition cX5_beginCondition 3 (some .boolean) 7 165 0 0 [vr Γ 63, vi a1] g 175 μ (pB k) := by
  refine SW.ct (by decide) (Nat.le_of_ble_eq_true rfl) ?_
  refine z_sub (lv' := [(0, vr Γ 63), (1, vi a1)]) [0, 1] rfl ?_
  show SW l Γ yX5_beginCondition.cls cX5_beginCondition Y_OrdR_beginCondition (pB k) g 175 0 0 μ 0 [(0, vr Γ 63), (1, vi a1)] []
  unfold f_OrdR_beginCondition at h
  refine z_iload_n dX5_beginCondition_0 rfl 1 rfl ?_
  refine z_iconst dX5_beginCondition_1 ?_
  refine z_icmp_ne (tgt := 9) dX5_beginCondition_2 (by decide) h (fun h => ?_) (fun h => ?_)
  · refine z_iconst dX5_beginCondition_5 ?_
    refine z_goto (tgt := 13) dX5_beginCondition_6 (by decide) ?_
    refine z_sub (lv' := [(0, vr Γ 63)]) [0] rfl ?_
    exact B_OrdR_beginCondition_13 hs h
  · refine z_rload_n dX5_beginCondition_9 rfl 0 rfl ?_
    refine z_VI (i_OrdR_kindAtHand  hs h) vk_X5_kindAtHand kt_63 (Nat.le_of_ble_eq_true rfl) rfl ml_X5_105 ⟨Nat.le_of_ble_eq_true rfl, Nat.le_of_ble_eq_true rfl⟩ ⟨Nat.zero_le _, Nat.zero_le _⟩ rfl rfl (Nat.le_of_ble_eq_true rfl) dX5_beginCondition_10 (fun r10 μ_8 hs h => ?_)
    refine z_sub (lv' := [(0, vr Γ 63)]) [0] rfl ?_
    exact B_OrdR_beginCondition_13 hs h
abbrev Y_OrdR_clauseAtHand : Yt := (1, (some .int), yX5_clauseAtHand.name, { frames := 6, cells := 0, slots := 0, locals := 144 }, 175, 0, 0)
def f_OrdR_clauseAtHand  (μ : Mem) (k : Int → Mem → Prop) : Prop := f_Tape_isWord 0 μ (fun r6 μ_1 => if r6 = true then (k 0 μ_1) else (f_Tape_isWord 1 μ_1 (fun r22 μ_2 => if r22 = true then (k 1 μ_2) else (f_Tape_isWord 2 μ_2 (fun r38 μ_3 => if r38 = true then (k 2 μ_3) else (f_Tape_isWord 3 μ_3 (fun r54 μ_4 => if r54 = true then (k 3 μ_4) else (f_Tape_isWord 4 μ_4 (fun r70 μ_5 => if r70 = true then (k 4 μ_5) else (f_Tape_isWord 5 μ_5 (fun r86 μ_6 => ∀ x97 : Int, x97 = (if r86 = true then 5 else (-1)) → k x97 μ_6)))))))))))
theorem i_OrdR_clauseAtHand {l : Launch} {Γ : Gam} {g : Nat} {μ : Mem} {k : Int → Mem → Prop} (hs : StatR μ.2.2) (h : f_OrdR_clauseAtHand  μ k) : CT l Γ yX5_clauseAtHand cX5_clauseAtHand 1 (some .int) 6 144 0 0 [vr Γ 63] g 175 μ (pI k) := by
  refine SW.ct (by decide) (Nat.le_of_ble_eq_true rfl) ?_
  refine z_sub (lv' := [(0, vr Γ 63)]) [0] rfl ?_
  show SW l Γ yX5_clauseAtHand.cls cX5_clauseAtHand Y_OrdR_clauseAtHand (pI k) g 175 0 0 μ 0 [(0, vr Γ 63)] []
  unfold f_OrdR_clauseAtHand at h
  refine z_rload_n dX5_clauseAtHand_0 rfl 0 rfl ?_
  refine z_getR (q := 9064) ff_5_0 dX5_clauseAtHand_1 kt_63 (Nat.le_of_ble_eq_true rfl) fl_X5_9 rfl (hs.1 _ _ sr_9064) ?_
  refine z_ldcS dX5_clauseAtHand_4 st_X5_85 ?_
  refine z_VB (i_Tape_isWord (Nat.le_of_ble_eq_true rfl) hs h) vk_X9_isWord kt_10 (Nat.le_of_ble_eq_true rfl) rfl ml_X5_87 ⟨Nat.le_of_ble_eq_true rfl, Nat.le_of_ble_eq_true rfl⟩ ⟨Nat.zero_le _, Nat.zero_le _⟩ rfl rfl (Nat.le_of_ble_eq_true rfl) dX5_clauseAtHand_6 (fun r6 μ_1 hs h => ?_)
  refine z_ifeq_b (tgt := 16) dX5_clauseAtHand_9 (by decide) h (fun h => ?_) (fun h => ?_)
  · refine z_iconst dX5_clauseAtHand_12 ?_
    refine z_goto (tgt := 97) dX5_clauseAtHand_13 (by decide) ?_
    exact z_iret rfl dX5_clauseAtHand_97 rfl rfl rfl ⟨_, rfl, hs, h⟩
  · refine z_rload_n dX5_clauseAtHand_16 rfl 0 rfl ?_
    refine z_getR (q := 9064) ff_5_0 dX5_clauseAtHand_17 kt_63 (Nat.le_of_ble_eq_true rfl) fl_X5_9 rfl (hs.1 _ _ sr_9064) ?_
    refine z_ldcS dX5_clauseAtHand_20 st_X5_91 ?_
    refine z_VB (i_Tape_isWord (Nat.le_of_ble_eq_true rfl) hs h) vk_X9_isWord kt_10 (Nat.le_of_ble_eq_true rfl) rfl ml_X5_87 ⟨Nat.le_of_ble_eq_true rfl, Nat.le_of_ble_eq_true rfl⟩ ⟨Nat.zero_le _, Nat.zero_le _⟩ rfl rfl (Nat.le_of_ble_eq_true rfl) dX5_clauseAtHand_22 (fun r22 μ_2 hs h => ?_)
    refine z_ifeq_b (tgt := 32) dX5_clauseAtHand_25 (by decide) h (fun h => ?_) (fun h => ?_)
    · refine z_iconst dX5_clauseAtHand_28 ?_
      refine z_goto (tgt := 97) dX5_clauseAtHand_29 (by decide) ?_
      exact z_iret rfl dX5_clauseAtHand_97 rfl rfl rfl ⟨_, rfl, hs, h⟩
    · refine z_rload_n dX5_clauseAtHand_32 rfl 0 rfl ?_
      refine z_getR (q := 9064) ff_5_0 dX5_clauseAtHand_33 kt_63 (Nat.le_of_ble_eq_true rfl) fl_X5_9 rfl (hs.1 _ _ sr_9064) ?_
      refine z_ldcS dX5_clauseAtHand_36 st_X5_93 ?_
      refine z_VB (i_Tape_isWord (Nat.le_of_ble_eq_true rfl) hs h) vk_X9_isWord kt_10 (Nat.le_of_ble_eq_true rfl) rfl ml_X5_87 ⟨Nat.le_of_ble_eq_true rfl, Nat.le_of_ble_eq_true rfl⟩ ⟨Nat.zero_le _, Nat.zero_le _⟩ rfl rfl (Nat.le_of_ble_eq_true rfl) dX5_clauseAtHand_38 (fun r38 μ_3 hs h => ?_)
      refine z_ifeq_b (tgt := 48) dX5_clauseAtHand_41 (by decide) h (fun h => ?_) (fun h => ?_)
      · refine z_iconst dX5_clauseAtHand_44 ?_
        refine z_goto (tgt := 97) dX5_clauseAtHand_45 (by decide) ?_
        exact z_iret rfl dX5_clauseAtHand_97 rfl rfl rfl ⟨_, rfl, hs, h⟩
      · refine z_rload_n dX5_clauseAtHand_48 rfl 0 rfl ?_
        refine z_getR (q := 9064) ff_5_0 dX5_clauseAtHand_49 kt_63 (Nat.le_of_ble_eq_true rfl) fl_X5_9 rfl (hs.1 _ _ sr_9064) ?_
        refine z_ldcS dX5_clauseAtHand_52 st_X5_94 ?_
        refine z_VB (i_Tape_isWord (Nat.le_of_ble_eq_true rfl) hs h) vk_X9_isWord kt_10 (Nat.le_of_ble_eq_true rfl) rfl ml_X5_87 ⟨Nat.le_of_ble_eq_true rfl, Nat.le_of_ble_eq_true rfl⟩ ⟨Nat.zero_le _, Nat.zero_le _⟩ rfl rfl (Nat.le_of_ble_eq_true rfl) dX5_clauseAtHand_54 (fun r54 μ_4 hs h => ?_)
        refine z_ifeq_b (tgt := 64) dX5_clauseAtHand_57 (by decide) h (fun h => ?_) (fun h => ?_)
        · refine z_iconst dX5_clauseAtHand_60 ?_
          refine z_goto (tgt := 97) dX5_clauseAtHand_61 (by decide) ?_
          exact z_iret rfl dX5_clauseAtHand_97 rfl rfl rfl ⟨_, rfl, hs, h⟩
        · refine z_rload_n dX5_clauseAtHand_64 rfl 0 rfl ?_
          refine z_getR (q := 9064) ff_5_0 dX5_clauseAtHand_65 kt_63 (Nat.le_of_ble_eq_true rfl) fl_X5_9 rfl (hs.1 _ _ sr_9064) ?_
          refine z_ldcS dX5_clauseAtHand_68 st_X5_95 ?_
          refine z_VB (i_Tape_isWord (Nat.le_of_ble_eq_true rfl) hs h) vk_X9_isWord kt_10 (Nat.le_of_ble_eq_true rfl) rfl ml_X5_87 ⟨Nat.le_of_ble_eq_true rfl, Nat.le_of_ble_eq_true rfl⟩ ⟨Nat.zero_le _, Nat.zero_le _⟩ rfl rfl (Nat.le_of_ble_eq_true rfl) dX5_clauseAtHand_70 (fun r70 μ_5 hs h => ?_)
          refine z_ifeq_b (tgt := 80) dX5_clauseAtHand_73 (by decide) h (fun h => ?_) (fun h => ?_)
          · refine z_iconst dX5_clauseAtHand_76 ?_
            refine z_goto (tgt := 97) dX5_clauseAtHand_77 (by decide) ?_
            exact z_iret rfl dX5_clauseAtHand_97 rfl rfl rfl ⟨_, rfl, hs, h⟩
          · refine z_rload_n dX5_clauseAtHand_80 rfl 0 rfl ?_
            refine z_getR (q := 9064) ff_5_0 dX5_clauseAtHand_81 kt_63 (Nat.le_of_ble_eq_true rfl) fl_X5_9 rfl (hs.1 _ _ sr_9064) ?_
            refine z_ldcS dX5_clauseAtHand_84 st_X5_97 ?_
            refine z_VB (i_Tape_isWord (Nat.le_of_ble_eq_true rfl) hs h) vk_X9_isWord kt_10 (Nat.le_of_ble_eq_true rfl) rfl ml_X5_87 ⟨Nat.le_of_ble_eq_true rfl, Nat.le_of_ble_eq_true rfl⟩ ⟨Nat.zero_le _, Nat.zero_le _⟩ rfl rfl (Nat.le_of_ble_eq_true rfl) dX5_clauseAtHand_86 (fun r86 μ_6 hs h => ?_)
            refine z_phi 97 [] (fun V9 hv J9 => ?_) h (fun x97 h => ?_)
            · refine z_ifeq_b (tgt := 96) dX5_clauseAtHand_89 (by decide) (eq_ite hv) (fun hv => ?_) (fun hv => ?_)
              · refine z_iconst dX5_clauseAtHand_92 ?_
                refine z_goto (tgt := 97) dX5_clauseAtHand_93 (by decide) ?_
                exact J9 _ hv.symm
              · refine z_iconst dX5_clauseAtHand_96 ?_
                exact J9 _ hv.symm
            · exact z_iret rfl dX5_clauseAtHand_97 rfl rfl rfl ⟨_, rfl, hs, h⟩
abbrev Y_Rules_addStep : Yt := (3, none, yX8_addStep.name, { frames := 0, cells := 0, slots := 0, locals := 0 }, 175, 0, 0)
def f_Rules_addStep (r0 : Nat) (a1 : Int) (a2 : Int) (μ : Mem) (k : Mem → Prop) : Prop := if w (rI μ (gid r0 3) 0) < 0 then (k μ) else (if w (rI μ (gid r0 3) 0) < w ((300 : Nat) : Int) then (0 ≤ w (rI μ (gid r0 3) 0) ∧ w (rI μ (gid r0 3) 0) < ((300 : Nat) : Int) ∧ ∀ μ_1 : Mem, μ_1 = sI μ (r0 + 1) (w (rI μ (gid r0 3) 0)) ((a2 * 16) + a1) → ∀ μ_2 : Mem, μ_2 = sI μ_1 (gid r0 3) 0 ((rI μ_1 (gid r0 3) 0) + 1) → k μ_2) else (k μ))
theorem i_Rules_addStep {l : Launch} {Γ : Gam} {g : Nat} {r0 : Nat} {a1 : Int} {a2 : Int} {μ : Mem} {k : Mem → Prop} (hr_r0 : isRu r0 = true) (hs : StatR μ.2.2) (h : f_Rules_addStep r0 a1 a2 μ k) : CT l Γ yX8_addStep cX8_addStep 3 none 0 0 0 0 [vr Γ r0, vi a1, vi a2] g 175 μ (pV k) := by
  refine SW.ct (by decide) (Nat.le_of_ble_eq_true rfl) ?_
  refine z_sub (lv' := [(0, vr Γ r0), (1, vi a1), (2, vi a2)]) [0, 1, 2] rfl ?_
  show SW l Γ yX8_addStep.cls cX8_addStep Y_Rules_addStep (pV k) g 175 0 0 μ 0 [(0, vr Γ r0), (1, vi a1), (2, vi a2)] []
  unfold f_Rules_addStep at h
  refine z_rload_n dX8_addStep_0 rfl 0 rfl ?_
  refine z_getI (q := (gid r0 3)) ff_8_3 dX8_addStep_1 (ru_k hr_r0) (ru_l hr_r0) fl_X8_28 rfl ?_
  refine z_if_lt (tgt := 44) dX8_addStep_4 (by decide) h (fun h => ?_) (fun h => ?_)
  · exact z_vret rfl dX8_addStep_44 rfl rfl rfl ⟨rfl, hs, h⟩
  · refine z_rload_n dX8_addStep_7 rfl 0 rfl ?_
    refine z_getI (q := (gid r0 3)) ff_8_3 dX8_addStep_8 (ru_k hr_r0) (ru_l hr_r0) fl_X8_28 rfl ?_
    refine z_rload_n dX8_addStep_11 rfl 0 rfl ?_
    refine z_getR ff_8_0 dX8_addStep_12 (ru_k hr_r0) (ru_l hr_r0) fl_X8_9 rfl (ru_s1 hs hr_r0) ?_
    refine z_alen dX8_addStep_15 (ru_k1 hr_r0) (by decide) (ru_l1 hr_r0) ?_
    refine z_icmp_ge (tgt := 44) dX8_addStep_16 (by decide) h (fun h => ?_) (fun h => ?_)
    · refine z_rload_n dX8_addStep_19 rfl 0 rfl ?_
      refine z_getR ff_8_0 dX8_addStep_20 (ru_k hr_r0) (ru_l hr_r0) fl_X8_9 rfl (ru_s1 hs hr_r0) ?_
      refine z_rload_n dX8_addStep_23 rfl 0 rfl ?_
      refine z_getI (q := (gid r0 3)) ff_8_3 dX8_addStep_24 (ru_k hr_r0) (ru_l hr_r0) fl_X8_28 rfl ?_
      refine z_iload_n dX8_addStep_27 rfl 2 rfl ?_
      refine z_bipush dX8_addStep_28 (by decide) ?_
      refine z_imul dX8_addStep_30 ?_
      refine z_iload_n dX8_addStep_31 rfl 1 rfl ?_
      refine z_iadd dX8_addStep_32 ?_
      obtain ⟨h0, h1, h⟩ := h
      refine z_iast dX8_addStep_33 (ru_k1 hr_r0) (ru_l1 hr_r0) h0 h1 ?_
      refine z_mm (fun μ_1 eμ_1 => ?_)
      replace h := h μ_1 eμ_1
      replace hs : StatR μ_1.2.2 := by rw [eμ_1]; exact hs
      refine z_rload_n dX8_addStep_34 rfl 0 rfl ?_
      refine z_dup dX8_addStep_35 rfl ?_
      refine z_getI (q := (gid r0 3)) ff_8_3 dX8_addStep_36 (ru_k hr_r0) (ru_l hr_r0) fl_X8_28 rfl ?_
      refine z_iconst dX8_addStep_39 ?_
      refine z_iadd dX8_addStep_40 ?_
      refine z_putI (q := (gid r0 3)) ff_8_3 (Or.inl rfl) rfl dX8_addStep_41 (ru_k hr_r0) (ru_l hr_r0) fl_X8_28 rfl ?_
      refine z_mm (fun μ_2 eμ_2 => ?_)
      replace h := h μ_2 eμ_2
      replace hs : StatR μ_2.2.2 := by rw [eμ_2]; exact hs
      exact z_vret rfl dX8_addStep_44 rfl rfl rfl ⟨rfl, hs, h⟩
    · exact z_vret rfl dX8_addStep_44 rfl rfl rfl ⟨rfl, hs, h⟩
abbrev Y_OrdR_skipNots : Yt := (3, (some .boolean), yX5_skipNots.name, { frames := 6, cells := 0, slots := 0, locals := 144 }, 175, 0, 0)
def l_OrdR_skipNots_4 (X_4_46 : Bool → Mem → Prop) : Nat → Bool → Int → Mem → Prop
  | 0, _, _, _ => False
  | fu4 + 1, v1, v2, μ_1 => if w v2 < w 300 then (f_Tape_isWord 10 μ_1 (fun r17 μ_2 => if r17 = true then (f_Tape_next  μ_2 (fun μ_3 => ∀ x39 : Bool, x39 = (if v1 = true then false else true) → (l_OrdR_skipNots_4 X_4_46 fu4) x39 (v2 + 1) μ_3)) else (X_4_46 v1 μ_2))) else (X_4_46 v1 μ_1)
def f_OrdR_skipNots  (μ : Mem) (k : Bool → Mem → Prop) : Prop := ∃ m4 : Nat, l_OrdR_skipNots_4 (fun (v1_1 : Bool) (μ_4 : Mem) => k v1_1 μ_4) m4 false 0 μ
theorem L_OrdR_skipNots_4 {l : Launch} {Γ : Gam} {g : Nat} {X_4_46 : Bool → Mem → Prop} {k : Bool → Mem → Prop} (hX_4_46 : ∀ (u1 : Bool) (ν : Mem), StatR ν.2.2 → X_4_46 u1 ν → SW l Γ yX5_skipNots.cls cX5_skipNots Y_OrdR_skipNots (pB k) g 175 0 0 ν 46 [(1, vi (b2i u1))] []) (n9 : Nat) : ∀ (v1 : Bool) (v2 : Int) (μ_1 : Mem), StatR μ_1.2.2 → l_OrdR_skipNots_4 X_4_46 n9 v1 v2 μ_1 → SW l Γ yX5_skipNots.cls cX5_skipNots Y_OrdR_skipNots (pB k) g 175 0 0 μ_1 4 [(0, vr Γ 63), (1, vi (b2i v1)), (2, vi v2)] [] := by
  induction n9 with
  | zero =>
    intro v1 v2 μ_1 hs h
    exact h.elim
  | succ n9 hR_4 =>
    intro v1 v2 μ_1 hs h
    rw [l_OrdR_skipNots_4] at h
    refine z_iload_n dX5_skipNots_4 rfl 2 rfl ?_
    refine z_sipush dX5_skipNots_5 (by decide) ?_
    refine z_icmp_ge (tgt := 46) dX5_skipNots_8 (by decide) h (fun h => ?_) (fun h => ?_)
    · refine z_rload_n dX5_skipNots_11 rfl 0 rfl ?_
      refine z_getR (q := 9064) ff_5_0 dX5_skipNots_12 kt_63 (Nat.le_of_ble_eq_true rfl) fl_X5_9 rfl (hs.1 _ _ sr_9064) ?_
      refine z_ldcS dX5_skipNots_15 st_X5_140 ?_
      refine z_VB (i_Tape_isWord (Nat.le_of_ble_eq_true rfl) hs h) vk_X9_isWord kt_10 (Nat.le_of_ble_eq_true rfl) rfl ml_X5_87 ⟨Nat.le_of_ble_eq_true rfl, Nat.le_of_ble_eq_true rfl⟩ ⟨Nat.zero_le _, Nat.zero_le _⟩ rfl rfl (Nat.le_of_ble_eq_true rfl) dX5_skipNots_17 (fun r17 μ_2 hs h => ?_)
      refine z_ifeq_b (tgt := 46) dX5_skipNots_20 (by decide) h (fun h => ?_) (fun h => ?_)
      · refine z_rload_n dX5_skipNots_23 rfl 0 rfl ?_
        refine z_getR (q := 9064) ff_5_0 dX5_skipNots_24 kt_63 (Nat.le_of_ble_eq_true rfl) fl_X5_9 rfl (hs.1 _ _ sr_9064) ?_
        refine z_VU (i_Tape_next  hs h) vk_X9_next kt_10 (Nat.le_of_ble_eq_true rfl) rfl ml_X5_44 ⟨Nat.le_of_ble_eq_true rfl, Nat.le_of_ble_eq_true rfl⟩ ⟨Nat.zero_le _, Nat.zero_le _⟩ rfl rfl (Nat.le_of_ble_eq_true rfl) dX5_skipNots_27 (fun μ_3 hs h => ?_)
        refine z_iload_n dX5_skipNots_30 rfl 1 rfl ?_
        refine z_phiB 39 [] (fun V9 hv J9 => ?_) h (fun x39 h => ?_)
        · refine z_ifne_b (tgt := 38) dX5_skipNots_31 (by decide) (eq_ite hv) (fun hv => ?_) (fun hv => ?_)
          · refine z_iconst dX5_skipNots_38 ?_
            exact J9 false hv.symm
          · refine z_iconst dX5_skipNots_34 ?_
            refine z_goto (tgt := 39) dX5_skipNots_35 (by decide) ?_
            exact J9 true hv.symm
        · refine z_istore_n (lv' := [(1, vi (b2i x39)), (0, vr Γ 63), (2, vi v2)]) dX5_skipNots_39 rfl (Nat.le_of_ble_eq_true rfl) rfl ?_
          refine z_iinc (j := 2) (lv' := [(2, vi (v2 + 1)), (1, vi (b2i x39)), (0, vr Γ 63)]) dX5_skipNots_40 rfl (Nat.le_of_ble_eq_true rfl) rfl ?_
          refine z_goto (tgt := 4) dX5_skipNots_43 (by decide) ?_
          refine z_sub (lv' := [(0, vr Γ 63), (1, vi (b2i x39)), (2, vi (v2 + 1))]) [2, 1, 0] rfl ?_
          exact hR_4 x39 (v2 + 1) μ_3 hs h
      · refine z_sub (lv' := [(1, vi (b2i v1))]) [1] rfl ?_
        exact hX_4_46 v1 μ_2 hs h
    · refine z_sub (lv' := [(1, vi (b2i v1))]) [1] rfl ?_
      exact hX_4_46 v1 μ_1 hs h
theorem i_OrdR_skipNots {l : Launch} {Γ : Gam} {g : Nat} {μ : Mem} {k : Bool → Mem → Prop} (hs : StatR μ.2.2) (h : f_OrdR_skipNots  μ k) : CT l Γ yX5_skipNots cX5_skipNots 3 (some .boolean) 6 144 0 0 [vr Γ 63] g 175 μ (pB k) := by
  refine SW.ct (by decide) (Nat.le_of_ble_eq_true rfl) ?_
  refine z_sub (lv' := [(0, vr Γ 63)]) [0] rfl ?_
  show SW l Γ yX5_skipNots.cls cX5_skipNots Y_OrdR_skipNots (pB k) g 175 0 0 μ 0 [(0, vr Γ 63)] []
  unfold f_OrdR_skipNots at h
  refine z_iconst dX5_skipNots_0 ?_
  refine z_istore_n (lv' := [(1, vi 0), (0, vr Γ 63)]) dX5_skipNots_1 rfl (Nat.le_of_ble_eq_true rfl) rfl ?_
  refine z_iconst dX5_skipNots_2 ?_
  refine z_istore_n (lv' := [(2, vi 0), (1, vi 0), (0, vr Γ 63)]) dX5_skipNots_3 rfl (Nat.le_of_ble_eq_true rfl) rfl ?_
  obtain ⟨m4, h⟩ := h
  refine z_sub (lv' := [(0, vr Γ 63), (1, vi (b2i false)), (2, vi 0)]) [2, 1, 0] rfl ?_
  refine L_OrdR_skipNots_4 (fun v1_1 μ_4 hs h => ?_) m4 false 0 μ hs h
  refine z_iload_n dX5_skipNots_46 rfl 0 rfl ?_
  exact z_zret (b := v1_1) rfl dX5_skipNots_47 rfl rfl rfl ⟨_, rfl, hs, h⟩
def v_Tape_isSign (a1 : Int) (μ : Mem) : Bool := if w (rI μ 2282 0) = w 3 then (if w (rI μ 2285 0) = w a1 then true else false) else false
theorem i_Tape_isSign {l : Launch} {Γ : Gam} {g : Nat} {μ : Mem} {a1 : Int} : CT l Γ yX9_isSign cX9_isSign 2 (some .boolean) 0 0 0 0 [vr Γ 10, vi a1] g 175 μ (pE (vi (b2i (v_Tape_isSign a1 μ))) μ) := by
  refine SW.ct (by decide) (Nat.le_of_ble_eq_true rfl) ?_
  refine z_sub (lv' := [(0, vr Γ 10), (1, vi a1)]) [0, 1] rfl ?_
  have hv : v_Tape_isSign a1 μ = v_Tape_isSign a1 μ := rfl
  refine z_rload_n dX9_isSign_0 rfl 0 rfl ?_
  refine z_getI (q := 2282) ff_9_2 dX9_isSign_1 kt_10 (Nat.le_of_ble_eq_true rfl) fl_X9_46 rfl ?_
  refine z_iconst dX9_isSign_4 ?_
  refine z_icmp_ne (tgt := 20) dX9_isSign_5 (by decide) (eq_ite hv) (fun hv => ?_) (fun hv => ?_)
  · refine z_rload_n dX9_isSign_8 rfl 0 rfl ?_
    refine z_getI (q := 2285) ff_9_5 dX9_isSign_9 kt_10 (Nat.le_of_ble_eq_true rfl) fl_X9_49 rfl ?_
    refine z_iload_n dX9_isSign_12 rfl 1 rfl ?_
    refine z_icmp_ne (tgt := 20) dX9_isSign_13 (by decide) (eq_ite hv) (fun hv => ?_) (fun hv => ?_)
    · refine z_iconst dX9_isSign_16 ?_
      refine z_goto (tgt := 21) dX9_isSign_17 (by decide) ?_
      exact z_zret (b := true) rfl dX9_isSign_21 rfl rfl rfl ⟨by first | (rw [hv]; done) | rfl, rfl⟩
    · refine z_iconst dX9_isSign_20 ?_
      exact z_zret (b := false) rfl dX9_isSign_21 rfl rfl rfl ⟨by first | (rw [hv]; done) | rfl, rfl⟩
  · refine z_iconst dX9_isSign_20 ?_
    exact z_zret (b := false) rfl dX9_isSign_21 rfl rfl rfl ⟨by first | (rw [hv]; done) | rfl, rfl⟩
abbrev Y_OrdR_takeComparison : Yt := (2, (some .int), yX5_takeComparison.name, { frames := 2, cells := 0, slots := 0, locals := 41 }, 175, 0, 0)
def f_OrdR_takeComparison  (μ : Mem) (k : Int → Mem → Prop) : Prop := ∀ x52 : Int, x52 = (if (v_Tape_isSign 60 μ) = true then 6 else (if (v_Tape_isSign 62 μ) = true then 7 else (if (v_Tape_isSign 61 μ) = true then 8 else (-1)))) → if w x52 = w (-1) then (f_Tape_fail 1 μ (fun r63 μ_1 => k x52 μ_1)) else (f_Tape_next  μ (fun μ_2 => k x52 μ_2))
theorem i_OrdR_takeComparison {l : Launch} {Γ : Gam} {g : Nat} {μ : Mem} {k : Int → Mem → Prop} (hs : StatR μ.2.2) (h : f_OrdR_takeComparison  μ k) : CT l Γ yX5_takeComparison cX5_takeComparison 2 (some .int) 2 41 0 0 [vr Γ 63] g 175 μ (pI k) := by
  refine SW.ct (by decide) (Nat.le_of_ble_eq_true rfl) ?_
  refine z_sub (lv' := [(0, vr Γ 63)]) [0] rfl ?_
  show SW l Γ yX5_takeComparison.cls cX5_takeComparison Y_OrdR_takeComparison (pI k) g 175 0 0 μ 0 [(0, vr Γ 63)] []
  unfold f_OrdR_takeComparison at h
  refine z_rload_n dX5_takeComparison_0 rfl 0 rfl ?_
  refine z_getR (q := 9064) ff_5_0 dX5_takeComparison_1 kt_63 (Nat.le_of_ble_eq_true rfl) fl_X5_9 rfl (hs.1 _ _ sr_9064) ?_
  refine z_bipush dX5_takeComparison_4 (by decide) ?_
  refine z_VE (i_Tape_isSign ) vk_X9_isSign kt_10 (Nat.le_of_ble_eq_true rfl) rfl ml_X5_131 ⟨Nat.le_of_ble_eq_true rfl, Nat.le_of_ble_eq_true rfl⟩ ⟨Nat.zero_le _, Nat.zero_le _⟩ rfl rfl (Nat.le_of_ble_eq_true rfl) dX5_takeComparison_6 ?_
  refine z_phi 52 [] (fun V9 hv J9 => ?_) h (fun x52 h => ?_)
  · refine z_ifeq_b (tgt := 17) dX5_takeComparison_9 (by decide) (eq_ite hv) (fun hv => ?_) (fun hv => ?_)
    · refine z_bipush dX5_takeComparison_12 (by decide) ?_
      refine z_goto (tgt := 52) dX5_takeComparison_14 (by decide) ?_
      exact J9 _ hv.symm
    · refine z_rload_n dX5_takeComparison_17 rfl 0 rfl ?_
      refine z_getR (q := 9064) ff_5_0 dX5_takeComparison_18 kt_63 (Nat.le_of_ble_eq_true rfl) fl_X5_9 rfl (hs.1 _ _ sr_9064) ?_
      refine z_bipush dX5_takeComparison_21 (by decide) ?_
      refine z_VE (i_Tape_isSign ) vk_X9_isSign kt_10 (Nat.le_of_ble_eq_true rfl) rfl ml_X5_131 ⟨Nat.le_of_ble_eq_true rfl, Nat.le_of_ble_eq_true rfl⟩ ⟨Nat.zero_le _, Nat.zero_le _⟩ rfl rfl (Nat.le_of_ble_eq_true rfl) dX5_takeComparison_23 ?_
      refine z_ifeq_b (tgt := 34) dX5_takeComparison_26 (by decide) (eq_ite hv) (fun hv => ?_) (fun hv => ?_)
      · refine z_bipush dX5_takeComparison_29 (by decide) ?_
        refine z_goto (tgt := 52) dX5_takeComparison_31 (by decide) ?_
        exact J9 _ hv.symm
      · refine z_rload_n dX5_takeComparison_34 rfl 0 rfl ?_
        refine z_getR (q := 9064) ff_5_0 dX5_takeComparison_35 kt_63 (Nat.le_of_ble_eq_true rfl) fl_X5_9 rfl (hs.1 _ _ sr_9064) ?_
        refine z_bipush dX5_takeComparison_38 (by decide) ?_
        refine z_VE (i_Tape_isSign ) vk_X9_isSign kt_10 (Nat.le_of_ble_eq_true rfl) rfl ml_X5_131 ⟨Nat.le_of_ble_eq_true rfl, Nat.le_of_ble_eq_true rfl⟩ ⟨Nat.zero_le _, Nat.zero_le _⟩ rfl rfl (Nat.le_of_ble_eq_true rfl) dX5_takeComparison_40 ?_
        refine z_ifeq_b (tgt := 51) dX5_takeComparison_43 (by decide) (eq_ite hv) (fun hv => ?_) (fun hv => ?_)
        · refine z_bipush dX5_takeComparison_46 (by decide) ?_
          refine z_goto (tgt := 52) dX5_takeComparison_48 (by decide) ?_
          exact J9 _ hv.symm
        · refine z_iconst dX5_takeComparison_51 ?_
          exact J9 _ hv.symm
  · refine z_istore_n (lv' := [(1, vi x52), (0, vr Γ 63)]) dX5_takeComparison_52 rfl (Nat.le_of_ble_eq_true rfl) rfl ?_
    refine z_iload_n dX5_takeComparison_53 rfl 0 rfl ?_
    refine z_iconst dX5_takeComparison_54 ?_
    refine z_icmp_ne (tgt := 70) dX5_takeComparison_55 (by decide) h (fun h => ?_) (fun h => ?_)
    · refine z_rload_n dX5_takeComparison_58 rfl 1 rfl ?_
      refine z_getR (q := 9064) ff_5_0 dX5_takeComparison_59 kt_63 (Nat.le_of_ble_eq_true rfl) fl_X5_9 rfl (hs.1 _ _ sr_9064) ?_
      refine z_iconst dX5_takeComparison_62 ?_
      refine z_VB (i_Tape_fail  hs h) vk_X9_fail kt_10 (Nat.le_of_ble_eq_true rfl) rfl ml_X5_41 ⟨Nat.le_of_ble_eq_true rfl, Nat.le_of_ble_eq_true rfl⟩ ⟨Nat.zero_le _, Nat.zero_le _⟩ rfl rfl (Nat.le_of_ble_eq_true rfl) dX5_takeComparison_63 (fun r63 μ_1 hs h => ?_)
      refine z_pop dX5_takeComparison_66 rfl ?_
      refine z_goto (tgt := 77) dX5_takeComparison_67 (by decide) ?_
      refine z_iload_n dX5_takeComparison_77 rfl 0 rfl ?_
      exact z_iret rfl dX5_takeComparison_78 rfl rfl rfl ⟨_, rfl, hs, h⟩
    · refine z_rload_n dX5_takeComparison_70 rfl 1 rfl ?_
      refine z_getR (q := 9064) ff_5_0 dX5_takeComparison_71 kt_63 (Nat.le_of_ble_eq_true rfl) fl_X5_9 rfl (hs.1 _ _ sr_9064) ?_
      refine z_VU (i_Tape_next  hs h) vk_X9_next kt_10 (Nat.le_of_ble_eq_true rfl) rfl ml_X5_44 ⟨Nat.le_of_ble_eq_true rfl, Nat.le_of_ble_eq_true rfl⟩ ⟨Nat.zero_le _, Nat.zero_le _⟩ rfl rfl (Nat.le_of_ble_eq_true rfl) dX5_takeComparison_74 (fun μ_2 hs h => ?_)
      refine z_iload_n dX5_takeComparison_77 rfl 0 rfl ?_
      exact z_iret rfl dX5_takeComparison_78 rfl rfl rfl ⟨_, rfl, hs, h⟩
abbrev Y_Tape_skipSign : Yt := (2, (some .boolean), yX9_skipSign.name, { frames := 2, cells := 0, slots := 0, locals := 41 }, 175, 0, 0)
def f_Tape_skipSign (a1 : Int) (μ : Mem) (k : Bool → Mem → Prop) : Prop := if (v_Tape_isSign a1 μ) = true then (f_Tape_next  μ (fun μ_1 => k true μ_1)) else (f_Tape_fail 1 μ (fun r10 μ_2 => k r10 μ_2))
theorem i_Tape_skipSign {l : Launch} {Γ : Gam} {g : Nat} {a1 : Int} {μ : Mem} {k : Bool → Mem → Prop} (hs : StatR μ.2.2) (h : f_Tape_skipSign a1 μ k) : CT l Γ yX9_skipSign cX9_skipSign 2 (some .boolean) 2 41 0 0 [vr Γ 10, vi a1] g 175 μ (pB k) := by
  refine SW.ct (by decide) (Nat.le_of_ble_eq_true rfl) ?_
  refine z_sub (lv' := [(0, vr Γ 10), (1, vi a1)]) [0, 1] rfl ?_
  show SW l Γ yX9_skipSign.cls cX9_skipSign Y_Tape_skipSign (pB k) g 175 0 0 μ 0 [(0, vr Γ 10), (1, vi a1)] []
  unfold f_Tape_skipSign at h
  refine z_rload_n dX9_skipSign_0 rfl 0 rfl ?_
  refine z_iload_n dX9_skipSign_1 rfl 1 rfl ?_
  refine z_VE (i_Tape_isSign ) vk_X9_isSign kt_10 (Nat.le_of_ble_eq_true rfl) rfl ml_X9_68 ⟨Nat.le_of_ble_eq_true rfl, Nat.le_of_ble_eq_true rfl⟩ ⟨Nat.zero_le _, Nat.zero_le _⟩ rfl rfl (Nat.le_of_ble_eq_true rfl) dX9_skipSign_2 ?_
  refine z_ifne_b (tgt := 14) dX9_skipSign_5 (by decide) h (fun h => ?_) (fun h => ?_)
  · refine z_rload_n dX9_skipSign_14 rfl 0 rfl ?_
    refine z_VU (i_Tape_next  hs h) vk_X9_next kt_10 (Nat.le_of_ble_eq_true rfl) rfl ml_X9_32 ⟨Nat.le_of_ble_eq_true rfl, Nat.le_of_ble_eq_true rfl⟩ ⟨Nat.zero_le _, Nat.zero_le _⟩ rfl rfl (Nat.le_of_ble_eq_true rfl) dX9_skipSign_15 (fun μ_1 hs h => ?_)
    refine z_iconst dX9_skipSign_18 ?_
    exact z_zret (b := true) rfl dX9_skipSign_19 rfl rfl rfl ⟨_, rfl, hs, h⟩
  · refine z_rload_n dX9_skipSign_8 rfl 0 rfl ?_
    refine z_iconst dX9_skipSign_9 ?_
    refine z_VB (i_Tape_fail  hs h) vk_X9_fail kt_10 (Nat.le_of_ble_eq_true rfl) rfl ml_X9_72 ⟨Nat.le_of_ble_eq_true rfl, Nat.le_of_ble_eq_true rfl⟩ ⟨Nat.zero_le _, Nat.zero_le _⟩ rfl rfl (Nat.le_of_ble_eq_true rfl) dX9_skipSign_10 (fun r10 μ_2 hs h => ?_)
    exact z_zret (b := r10) rfl dX9_skipSign_13 rfl rfl rfl ⟨_, rfl, hs, h⟩
abbrev Y_OrdR_factOfCards : Yt := (1, (some .int), yX5_factOfCards.name, { frames := 6, cells := 0, slots := 0, locals := 144 }, 175, 0, 0)
def f_OrdR_factOfCards  (μ : Mem) (k : Int → Mem → Prop) : Prop := f_Tape_isWord 11 μ (fun r6 μ_1 => if r6 = true then (k 0 μ_1) else (f_Tape_isWord 12 μ_1 (fun r22 μ_2 => if r22 = true then (k 1 μ_2) else (f_Tape_isWord 13 μ_2 (fun r38 μ_3 => if r38 = true then (k 2 μ_3) else (f_Tape_isWord 14 μ_3 (fun r54 μ_4 => ∀ x65 : Int, x65 = (if r54 = true then 3 else (-1)) → k x65 μ_4)))))))
theorem i_OrdR_factOfCards {l : Launch} {Γ : Gam} {g : Nat} {μ : Mem} {k : Int → Mem → Prop} (hs : StatR μ.2.2) (h : f_OrdR_factOfCards  μ k) : CT l Γ yX5_factOfCards cX5_factOfCards 1 (some .int) 6 144 0 0 [vr Γ 63] g 175 μ (pI k) := by
  refine SW.ct (by decide) (Nat.le_of_ble_eq_true rfl) ?_
  refine z_sub (lv' := [(0, vr Γ 63)]) [0] rfl ?_
  show SW l Γ yX5_factOfCards.cls cX5_factOfCards Y_OrdR_factOfCards (pI k) g 175 0 0 μ 0 [(0, vr Γ 63)] []
  unfold f_OrdR_factOfCards at h
  refine z_rload_n dX5_factOfCards_0 rfl 0 rfl ?_
  refine z_getR (q := 9064) ff_5_0 dX5_factOfCards_1 kt_63 (Nat.le_of_ble_eq_true rfl) fl_X5_9 rfl (hs.1 _ _ sr_9064) ?_
  refine z_ldcS dX5_factOfCards_4 st_X5_181 ?_
  refine z_VB (i_Tape_isWord (Nat.le_of_ble_eq_true rfl) hs h) vk_X9_isWord kt_10 (Nat.le_of_ble_eq_true rfl) rfl ml_X5_87 ⟨Nat.le_of_ble_eq_true rfl, Nat.le_of_ble_eq_true rfl⟩ ⟨Nat.zero_le _, Nat.zero_le _⟩ rfl rfl (Nat.le_of_ble_eq_true rfl) dX5_factOfCards_6 (fun r6 μ_1 hs h => ?_)
  refine z_ifeq_b (tgt := 16) dX5_factOfCards_9 (by decide) h (fun h => ?_) (fun h => ?_)
  · refine z_iconst dX5_factOfCards_12 ?_
    refine z_goto (tgt := 65) dX5_factOfCards_13 (by decide) ?_
    exact z_iret rfl dX5_factOfCards_65 rfl rfl rfl ⟨_, rfl, hs, h⟩
  · refine z_rload_n dX5_factOfCards_16 rfl 0 rfl ?_
    refine z_getR (q := 9064) ff_5_0 dX5_factOfCards_17 kt_63 (Nat.le_of_ble_eq_true rfl) fl_X5_9 rfl (hs.1 _ _ sr_9064) ?_
    refine z_ldcS dX5_factOfCards_20 st_X5_183 ?_
    refine z_VB (i_Tape_isWord (Nat.le_of_ble_eq_true rfl) hs h) vk_X9_isWord kt_10 (Nat.le_of_ble_eq_true rfl) rfl ml_X5_87 ⟨Nat.le_of_ble_eq_true rfl, Nat.le_of_ble_eq_true rfl⟩ ⟨Nat.zero_le _, Nat.zero_le _⟩ rfl rfl (Nat.le_of_ble_eq_true rfl) dX5_factOfCards_22 (fun r22 μ_2 hs h => ?_)
    refine z_ifeq_b (tgt := 32) dX5_factOfCards_25 (by decide) h (fun h => ?_) (fun h => ?_)
    · refine z_iconst dX5_factOfCards_28 ?_
      refine z_goto (tgt := 65) dX5_factOfCards_29 (by decide) ?_
      exact z_iret rfl dX5_factOfCards_65 rfl rfl rfl ⟨_, rfl, hs, h⟩
    · refine z_rload_n dX5_factOfCards_32 rfl 0 rfl ?_
      refine z_getR (q := 9064) ff_5_0 dX5_factOfCards_33 kt_63 (Nat.le_of_ble_eq_true rfl) fl_X5_9 rfl (hs.1 _ _ sr_9064) ?_
      refine z_ldcS dX5_factOfCards_36 st_X5_185 ?_
      refine z_VB (i_Tape_isWord (Nat.le_of_ble_eq_true rfl) hs h) vk_X9_isWord kt_10 (Nat.le_of_ble_eq_true rfl) rfl ml_X5_87 ⟨Nat.le_of_ble_eq_true rfl, Nat.le_of_ble_eq_true rfl⟩ ⟨Nat.zero_le _, Nat.zero_le _⟩ rfl rfl (Nat.le_of_ble_eq_true rfl) dX5_factOfCards_38 (fun r38 μ_3 hs h => ?_)
      refine z_ifeq_b (tgt := 48) dX5_factOfCards_41 (by decide) h (fun h => ?_) (fun h => ?_)
      · refine z_iconst dX5_factOfCards_44 ?_
        refine z_goto (tgt := 65) dX5_factOfCards_45 (by decide) ?_
        exact z_iret rfl dX5_factOfCards_65 rfl rfl rfl ⟨_, rfl, hs, h⟩
      · refine z_rload_n dX5_factOfCards_48 rfl 0 rfl ?_
        refine z_getR (q := 9064) ff_5_0 dX5_factOfCards_49 kt_63 (Nat.le_of_ble_eq_true rfl) fl_X5_9 rfl (hs.1 _ _ sr_9064) ?_
        refine z_ldcS dX5_factOfCards_52 st_X5_187 ?_
        refine z_VB (i_Tape_isWord (Nat.le_of_ble_eq_true rfl) hs h) vk_X9_isWord kt_10 (Nat.le_of_ble_eq_true rfl) rfl ml_X5_87 ⟨Nat.le_of_ble_eq_true rfl, Nat.le_of_ble_eq_true rfl⟩ ⟨Nat.zero_le _, Nat.zero_le _⟩ rfl rfl (Nat.le_of_ble_eq_true rfl) dX5_factOfCards_54 (fun r54 μ_4 hs h => ?_)
        refine z_phi 65 [] (fun V9 hv J9 => ?_) h (fun x65 h => ?_)
        · refine z_ifeq_b (tgt := 64) dX5_factOfCards_57 (by decide) (eq_ite hv) (fun hv => ?_) (fun hv => ?_)
          · refine z_iconst dX5_factOfCards_60 ?_
            refine z_goto (tgt := 65) dX5_factOfCards_61 (by decide) ?_
            exact J9 _ hv.symm
          · refine z_iconst dX5_factOfCards_64 ?_
            exact J9 _ hv.symm
        · exact z_iret rfl dX5_factOfCards_65 rfl rfl rfl ⟨_, rfl, hs, h⟩
abbrev Y_OrdR_factOfLate : Yt := (1, (some .int), yX5_factOfLate.name, { frames := 6, cells := 0, slots := 0, locals := 144 }, 175, 0, 0)
def f_OrdR_factOfLate  (μ : Mem) (k : Int → Mem → Prop) : Prop := f_Tape_isWord 11 μ (fun r6 μ_1 => if r6 = true then (k 0 μ_1) else (f_Tape_isWord 15 μ_1 (fun r22 μ_2 => if r22 = true then (k 1 μ_2) else (f_Tape_isWord 16 μ_2 (fun r38 μ_3 => ∀ x49 : Int, x49 = (if r38 = true then 2 else (-1)) → k x49 μ_3)))))
theorem i_OrdR_factOfLate {l : Launch} {Γ : Gam} {g : Nat} {μ : Mem} {k : Int → Mem → Prop} (hs : StatR μ.2.2) (h : f_OrdR_factOfLate  μ k) : CT l Γ yX5_factOfLate cX5_factOfLate 1 (some .int) 6 144 0 0 [vr Γ 63] g 175 μ (pI k) := by
  refine SW.ct (by decide) (Nat.le_of_ble_eq_true rfl) ?_
  refine z_sub (lv' := [(0, vr Γ 63)]) [0] rfl ?_
  show SW l Γ yX5_factOfLate.cls cX5_factOfLate Y_OrdR_factOfLate (pI k) g 175 0 0 μ 0 [(0, vr Γ 63)] []
  unfold f_OrdR_factOfLate at h
  refine z_rload_n dX5_factOfLate_0 rfl 0 rfl ?_
  refine z_getR (q := 9064) ff_5_0 dX5_factOfLate_1 kt_63 (Nat.le_of_ble_eq_true rfl) fl_X5_9 rfl (hs.1 _ _ sr_9064) ?_
  refine z_ldcS dX5_factOfLate_4 st_X5_181 ?_
  refine z_VB (i_Tape_isWord (Nat.le_of_ble_eq_true rfl) hs h) vk_X9_isWord kt_10 (Nat.le_of_ble_eq_true rfl) rfl ml_X5_87 ⟨Nat.le_of_ble_eq_true rfl, Nat.le_of_ble_eq_true rfl⟩ ⟨Nat.zero_le _, Nat.zero_le _⟩ rfl rfl (Nat.le_of_ble_eq_true rfl) dX5_factOfLate_6 (fun r6 μ_1 hs h => ?_)
  refine z_ifeq_b (tgt := 16) dX5_factOfLate_9 (by decide) h (fun h => ?_) (fun h => ?_)
  · refine z_iconst dX5_factOfLate_12 ?_
    refine z_goto (tgt := 49) dX5_factOfLate_13 (by decide) ?_
    exact z_iret rfl dX5_factOfLate_49 rfl rfl rfl ⟨_, rfl, hs, h⟩
  · refine z_rload_n dX5_factOfLate_16 rfl 0 rfl ?_
    refine z_getR (q := 9064) ff_5_0 dX5_factOfLate_17 kt_63 (Nat.le_of_ble_eq_true rfl) fl_X5_9 rfl (hs.1 _ _ sr_9064) ?_
    refine z_ldcS dX5_factOfLate_20 st_X5_189 ?_
    refine z_VB (i_Tape_isWord (Nat.le_of_ble_eq_true rfl) hs h) vk_X9_isWord kt_10 (Nat.le_of_ble_eq_true rfl) rfl ml_X5_87 ⟨Nat.le_of_ble_eq_true rfl, Nat.le_of_ble_eq_true rfl⟩ ⟨Nat.zero_le _, Nat.zero_le _⟩ rfl rfl (Nat.le_of_ble_eq_true rfl) dX5_factOfLate_22 (fun r22 μ_2 hs h => ?_)
    refine z_ifeq_b (tgt := 32) dX5_factOfLate_25 (by decide) h (fun h => ?_) (fun h => ?_)
    · refine z_iconst dX5_factOfLate_28 ?_
      refine z_goto (tgt := 49) dX5_factOfLate_29 (by decide) ?_
      exact z_iret rfl dX5_factOfLate_49 rfl rfl rfl ⟨_, rfl, hs, h⟩
    · refine z_rload_n dX5_factOfLate_32 rfl 0 rfl ?_
      refine z_getR (q := 9064) ff_5_0 dX5_factOfLate_33 kt_63 (Nat.le_of_ble_eq_true rfl) fl_X5_9 rfl (hs.1 _ _ sr_9064) ?_
      refine z_ldcS dX5_factOfLate_36 st_X5_179 ?_
      refine z_VB (i_Tape_isWord (Nat.le_of_ble_eq_true rfl) hs h) vk_X9_isWord kt_10 (Nat.le_of_ble_eq_true rfl) rfl ml_X5_87 ⟨Nat.le_of_ble_eq_true rfl, Nat.le_of_ble_eq_true rfl⟩ ⟨Nat.zero_le _, Nat.zero_le _⟩ rfl rfl (Nat.le_of_ble_eq_true rfl) dX5_factOfLate_38 (fun r38 μ_3 hs h => ?_)
      refine z_phi 49 [] (fun V9 hv J9 => ?_) h (fun x49 h => ?_)
      · refine z_ifeq_b (tgt := 48) dX5_factOfLate_41 (by decide) (eq_ite hv) (fun hv => ?_) (fun hv => ?_)
        · refine z_iconst dX5_factOfLate_44 ?_
          refine z_goto (tgt := 49) dX5_factOfLate_45 (by decide) ?_
          exact J9 _ hv.symm
        · refine z_iconst dX5_factOfLate_48 ?_
          exact J9 _ hv.symm
      · exact z_iret rfl dX5_factOfLate_49 rfl rfl rfl ⟨_, rfl, hs, h⟩
abbrev Y_OrdR_factOfPass : Yt := (1, (some .int), yX5_factOfPass.name, { frames := 6, cells := 0, slots := 0, locals := 144 }, 175, 0, 0)
def f_OrdR_factOfPass  (μ : Mem) (k : Int → Mem → Prop) : Prop := f_Tape_isWord 17 μ (fun r6 μ_1 => if r6 = true then (k 0 μ_1) else (f_Tape_isWord 18 μ_1 (fun r22 μ_2 => if r22 = true then (k 1 μ_2) else (f_Tape_isWord 19 μ_2 (fun r38 μ_3 => if r38 = true then (k 2 μ_3) else (f_Tape_isWord 20 μ_3 (fun r54 μ_4 => if r54 = true then (k 3 μ_4) else (f_Tape_isWord 21 μ_4 (fun r70 μ_5 => if r70 = true then (k 4 μ_5) else (f_Tape_isWord 16 μ_5 (fun r86 μ_6 => ∀ x97 : Int, x97 = (if r86 = true then 5 else (-1)) → k x97 μ_6)))))))))))
theorem i_OrdR_factOfPass {l : Launch} {Γ : Gam} {g : Nat} {μ : Mem} {k : Int → Mem → Prop} (hs : StatR μ.2.2) (h : f_OrdR_factOfPass  μ k) : CT l Γ yX5_factOfPass cX5_factOfPass 1 (some .int) 6 144 0 0 [vr Γ 63] g 175 μ (pI k) := by
  refine SW.ct (by decide) (Nat.le_of_ble_eq_true rfl) ?_
  refine z_sub (lv' := [(0, vr Γ 63)]) [0] rfl ?_
  show SW l Γ yX5_factOfPass.cls cX5_factOfPass Y_OrdR_factOfPass (pI k) g 175 0 0 μ 0 [(0, vr Γ 63)] []
  unfold f_OrdR_factOfPass at h
  refine z_rload_n dX5_factOfPass_0 rfl 0 rfl ?_
  refine z_getR (q := 9064) ff_5_0 dX5_factOfPass_1 kt_63 (Nat.le_of_ble_eq_true rfl) fl_X5_9 rfl (hs.1 _ _ sr_9064) ?_
  refine z_ldcS dX5_factOfPass_4 st_X5_169 ?_
  refine z_VB (i_Tape_isWord (Nat.le_of_ble_eq_true rfl) hs h) vk_X9_isWord kt_10 (Nat.le_of_ble_eq_true rfl) rfl ml_X5_87 ⟨Nat.le_of_ble_eq_true rfl, Nat.le_of_ble_eq_true rfl⟩ ⟨Nat.zero_le _, Nat.zero_le _⟩ rfl rfl (Nat.le_of_ble_eq_true rfl) dX5_factOfPass_6 (fun r6 μ_1 hs h => ?_)
  refine z_ifeq_b (tgt := 16) dX5_factOfPass_9 (by decide) h (fun h => ?_) (fun h => ?_)
  · refine z_iconst dX5_factOfPass_12 ?_
    refine z_goto (tgt := 97) dX5_factOfPass_13 (by decide) ?_
    exact z_iret rfl dX5_factOfPass_97 rfl rfl rfl ⟨_, rfl, hs, h⟩
  · refine z_rload_n dX5_factOfPass_16 rfl 0 rfl ?_
    refine z_getR (q := 9064) ff_5_0 dX5_factOfPass_17 kt_63 (Nat.le_of_ble_eq_true rfl) fl_X5_9 rfl (hs.1 _ _ sr_9064) ?_
    refine z_ldcS dX5_factOfPass_20 st_X5_171 ?_
    refine z_VB (i_Tape_isWord (Nat.le_of_ble_eq_true rfl) hs h) vk_X9_isWord kt_10 (Nat.le_of_ble_eq_true rfl) rfl ml_X5_87 ⟨Nat.le_of_ble_eq_true rfl, Nat.le_of_ble_eq_true rfl⟩ ⟨Nat.zero_le _, Nat.zero_le _⟩ rfl rfl (Nat.le_of_ble_eq_true rfl) dX5_factOfPass_22 (fun r22 μ_2 hs h => ?_)
    refine z_ifeq_b (tgt := 32) dX5_factOfPass_25 (by decide) h (fun h => ?_) (fun h => ?_)
    · refine z_iconst dX5_factOfPass_28 ?_
      refine z_goto (tgt := 97) dX5_factOfPass_29 (by decide) ?_
      exact z_iret rfl dX5_factOfPass_97 rfl rfl rfl ⟨_, rfl, hs, h⟩
    · refine z_rload_n dX5_factOfPass_32 rfl 0 rfl ?_
      refine z_getR (q := 9064) ff_5_0 dX5_factOfPass_33 kt_63 (Nat.le_of_ble_eq_true rfl) fl_X5_9 rfl (hs.1 _ _ sr_9064) ?_
      refine z_ldcS dX5_factOfPass_36 st_X5_173 ?_
      refine z_VB (i_Tape_isWord (Nat.le_of_ble_eq_true rfl) hs h) vk_X9_isWord kt_10 (Nat.le_of_ble_eq_true rfl) rfl ml_X5_87 ⟨Nat.le_of_ble_eq_true rfl, Nat.le_of_ble_eq_true rfl⟩ ⟨Nat.zero_le _, Nat.zero_le _⟩ rfl rfl (Nat.le_of_ble_eq_true rfl) dX5_factOfPass_38 (fun r38 μ_3 hs h => ?_)
      refine z_ifeq_b (tgt := 48) dX5_factOfPass_41 (by decide) h (fun h => ?_) (fun h => ?_)
      · refine z_iconst dX5_factOfPass_44 ?_
        refine z_goto (tgt := 97) dX5_factOfPass_45 (by decide) ?_
        exact z_iret rfl dX5_factOfPass_97 rfl rfl rfl ⟨_, rfl, hs, h⟩
      · refine z_rload_n dX5_factOfPass_48 rfl 0 rfl ?_
        refine z_getR (q := 9064) ff_5_0 dX5_factOfPass_49 kt_63 (Nat.le_of_ble_eq_true rfl) fl_X5_9 rfl (hs.1 _ _ sr_9064) ?_
        refine z_ldcS dX5_factOfPass_52 st_X5_175 ?_
        refine z_VB (i_Tape_isWord (Nat.le_of_ble_eq_true rfl) hs h) vk_X9_isWord kt_10 (Nat.le_of_ble_eq_true rfl) rfl ml_X5_87 ⟨Nat.le_of_ble_eq_true rfl, Nat.le_of_ble_eq_true rfl⟩ ⟨Nat.zero_le _, Nat.zero_le _⟩ rfl rfl (Nat.le_of_ble_eq_true rfl) dX5_factOfPass_54 (fun r54 μ_4 hs h => ?_)
        refine z_ifeq_b (tgt := 64) dX5_factOfPass_57 (by decide) h (fun h => ?_) (fun h => ?_)
        · refine z_iconst dX5_factOfPass_60 ?_
          refine z_goto (tgt := 97) dX5_factOfPass_61 (by decide) ?_
          exact z_iret rfl dX5_factOfPass_97 rfl rfl rfl ⟨_, rfl, hs, h⟩
        · refine z_rload_n dX5_factOfPass_64 rfl 0 rfl ?_
          refine z_getR (q := 9064) ff_5_0 dX5_factOfPass_65 kt_63 (Nat.le_of_ble_eq_true rfl) fl_X5_9 rfl (hs.1 _ _ sr_9064) ?_
          refine z_ldcS dX5_factOfPass_68 st_X5_177 ?_
          refine z_VB (i_Tape_isWord (Nat.le_of_ble_eq_true rfl) hs h) vk_X9_isWord kt_10 (Nat.le_of_ble_eq_true rfl) rfl ml_X5_87 ⟨Nat.le_of_ble_eq_true rfl, Nat.le_of_ble_eq_true rfl⟩ ⟨Nat.zero_le _, Nat.zero_le _⟩ rfl rfl (Nat.le_of_ble_eq_true rfl) dX5_factOfPass_70 (fun r70 μ_5 hs h => ?_)
          refine z_ifeq_b (tgt := 80) dX5_factOfPass_73 (by decide) h (fun h => ?_) (fun h => ?_)
          · refine z_iconst dX5_factOfPass_76 ?_
            refine z_goto (tgt := 97) dX5_factOfPass_77 (by decide) ?_
            exact z_iret rfl dX5_factOfPass_97 rfl rfl rfl ⟨_, rfl, hs, h⟩
          · refine z_rload_n dX5_factOfPass_80 rfl 0 rfl ?_
            refine z_getR (q := 9064) ff_5_0 dX5_factOfPass_81 kt_63 (Nat.le_of_ble_eq_true rfl) fl_X5_9 rfl (hs.1 _ _ sr_9064) ?_
            refine z_ldcS dX5_factOfPass_84 st_X5_179 ?_
            refine z_VB (i_Tape_isWord (Nat.le_of_ble_eq_true rfl) hs h) vk_X9_isWord kt_10 (Nat.le_of_ble_eq_true rfl) rfl ml_X5_87 ⟨Nat.le_of_ble_eq_true rfl, Nat.le_of_ble_eq_true rfl⟩ ⟨Nat.zero_le _, Nat.zero_le _⟩ rfl rfl (Nat.le_of_ble_eq_true rfl) dX5_factOfPass_86 (fun r86 μ_6 hs h => ?_)
            refine z_phi 97 [] (fun V9 hv J9 => ?_) h (fun x97 h => ?_)
            · refine z_ifeq_b (tgt := 96) dX5_factOfPass_89 (by decide) (eq_ite hv) (fun hv => ?_) (fun hv => ?_)
              · refine z_iconst dX5_factOfPass_92 ?_
                refine z_goto (tgt := 97) dX5_factOfPass_93 (by decide) ?_
                exact J9 _ hv.symm
              · refine z_iconst dX5_factOfPass_96 ?_
                exact J9 _ hv.symm
            · exact z_iret rfl dX5_factOfPass_97 rfl rfl rfl ⟨_, rfl, hs, h⟩
