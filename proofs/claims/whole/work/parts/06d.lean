abbrev Y_Tape_begin : Yt := (1, none, yX9_begin.name, { frames := 2, cells := 0, slots := 0, locals := 41 }, 174, 0, 0)
def f_Tape_begin  (μ : Mem) (k : Mem → Prop) : Prop := ∀ μ_1 : Mem, μ_1 = sI μ 2286 0 0 → ∀ μ_2 : Mem, μ_2 = sI μ_1 2287 0 (-1) → ∀ μ_3 : Mem, μ_3 = sI μ_2 2284 0 0 → f_Tape_next  μ_3 (fun μ_4 => k μ_4)
theorem i_Tape_begin {l : Launch} {Γ : Gam} {g : Nat} {μ : Mem} {k : Mem → Prop} (hs : StatR μ.2.2) (h : f_Tape_begin  μ k) : CT l Γ yX9_begin cX9_begin 1 none 2 41 0 0 [vr Γ 10] g 174 μ (pV k) := by
  refine SW.ct (by decide) (Nat.le_of_ble_eq_true rfl) ?_
  refine z_sub (lv' := [(0, vr Γ 10)]) [0] rfl ?_
  show SW l Γ yX9_begin.cls cX9_begin Y_Tape_begin (pV k) g 174 0 0 μ 0 [(0, vr Γ 10)] []
  unfold f_Tape_begin at h
  refine z_rload_n dX9_begin_0 rfl 0 rfl ?_
  refine z_iconst dX9_begin_1 ?_
  refine z_putI (q := 2286) ff_9_6 (Or.inl rfl) rfl dX9_begin_2 kt_10 (Nat.le_of_ble_eq_true rfl) fl_X9_26 rfl ?_
  refine z_mm (fun μ_1 eμ_1 => ?_)
  replace h := h μ_1 eμ_1
  replace hs : StatR μ_1.2.2 := by rw [eμ_1]; exact hs
  refine z_rload_n dX9_begin_5 rfl 0 rfl ?_
  refine z_iconst dX9_begin_6 ?_
  refine z_putI (q := 2287) ff_9_7 (Or.inl rfl) rfl dX9_begin_7 kt_10 (Nat.le_of_ble_eq_true rfl) fl_X9_15 rfl ?_
  refine z_mm (fun μ_2 eμ_2 => ?_)
  replace h := h μ_2 eμ_2
  replace hs : StatR μ_2.2.2 := by rw [eμ_2]; exact hs
  refine z_rload_n dX9_begin_10 rfl 0 rfl ?_
  refine z_iconst dX9_begin_11 ?_
  refine z_putI (q := 2284) ff_9_4 (Or.inl rfl) rfl dX9_begin_12 kt_10 (Nat.le_of_ble_eq_true rfl) fl_X9_29 rfl ?_
  refine z_mm (fun μ_3 eμ_3 => ?_)
  replace h := h μ_3 eμ_3
  replace hs : StatR μ_3.2.2 := by rw [eμ_3]; exact hs
  refine z_rload_n dX9_begin_15 rfl 0 rfl ?_
  refine z_VU (i_Tape_next  hs h) vk_X9_next kt_10 (Nat.le_of_ble_eq_true rfl) rfl ml_X9_32 ⟨Nat.le_of_ble_eq_true rfl, Nat.le_of_ble_eq_true rfl⟩ ⟨Nat.zero_le _, Nat.zero_le _⟩ rfl rfl (Nat.le_of_ble_eq_true rfl) dX9_begin_16 (fun μ_4 hs h => ?_)
  exact z_vret rfl dX9_begin_19 rfl rfl rfl ⟨rfl, hs, h⟩
def v_Tape_isEnd  (μ : Mem) : Bool := if w (rI μ 2282 0) = 0 then true else false
theorem i_Tape_isEnd {l : Launch} {Γ : Gam} {g : Nat} {μ : Mem} : CT l Γ yX9_isEnd cX9_isEnd 1 (some .boolean) 0 0 0 0 [vr Γ 10] g 174 μ (pE (vi (b2i (v_Tape_isEnd μ))) μ) := by
  refine SW.ct (by decide) (Nat.le_of_ble_eq_true rfl) ?_
  refine z_sub (lv' := [(0, vr Γ 10)]) [0] rfl ?_
  have hv : v_Tape_isEnd μ = v_Tape_isEnd μ := rfl
  refine z_rload_n dX9_isEnd_0 rfl 0 rfl ?_
  refine z_getI (q := 2282) ff_9_2 dX9_isEnd_1 kt_10 (Nat.le_of_ble_eq_true rfl) fl_X9_46 rfl ?_
  refine z_if_ne (tgt := 11) dX9_isEnd_4 (by decide) (eq_ite hv) (fun hv => ?_) (fun hv => ?_)
  · refine z_iconst dX9_isEnd_7 ?_
    refine z_goto (tgt := 12) dX9_isEnd_8 (by decide) ?_
    exact z_zret (b := true) rfl dX9_isEnd_12 rfl rfl rfl ⟨by first | (rw [hv]; done) | rfl, rfl⟩
  · refine z_iconst dX9_isEnd_11 ?_
    exact z_zret (b := false) rfl dX9_isEnd_12 rfl rfl rfl ⟨by first | (rw [hv]; done) | rfl, rfl⟩
abbrev Y_OrdR_read : Yt := (3, (some .boolean), yX5_read.name, { frames := 613, cells := 0, slots := 0, locals := 3968 }, 174, 0, 0)
def l_OrdR_read_21 (k : Bool → Mem → Prop) : Nat → Int → Mem → Prop
  | 0, _, _ => False
  | fu21 + 1, v2, μ_4 => if w 15 < w v2 then (k false μ_4) else (if (v_Tape_isEnd μ_4) = true then (k true μ_4) else (f_OrdR_readClause v2 μ_4 (fun r41 μ_5 => if r41 = true then ((l_OrdR_read_21 k fu21) (v2 + 1) μ_5) else (k false μ_5))))
def f_OrdR_read (a1 : Nat) (μ : Mem) (k : Bool → Mem → Prop) : Prop := ∀ μ_1 : Mem, μ_1 = sR μ 9065 0 (some a1) → ∃ r6 : Nat, rR μ_1 9065 0 = some r6 ∧ isRu r6 = true ∧ f_Rules_clear r6 μ_1 (fun μ_2 => f_Tape_begin  μ_2 (fun μ_3 => ∃ m21 : Nat, l_OrdR_read_21 k m21 0 μ_3))
theorem L_OrdR_read_21 {l : Launch} {Γ : Gam} {g : Nat} {k : Bool → Mem → Prop} (n9 : Nat) : ∀ (v2 : Int) (μ_4 : Mem), StatR μ_4.2.2 → l_OrdR_read_21 k n9 v2 μ_4 → SW l Γ yX5_read.cls cX5_read Y_OrdR_read (pB k) g 174 0 0 μ_4 21 [(0, vr Γ 63), (2, vi v2)] [] := by
  induction n9 with
  | zero =>
    intro v2 μ_4 hs h
    exact h.elim
  | succ n9 hR_21 =>
    intro v2 μ_4 hs h
    rw [l_OrdR_read_21] at h
    refine z_iload_n dX5_read_21 rfl 1 rfl ?_
    refine z_bipush dX5_read_22 (by decide) ?_
    refine z_icmp_gt (tgt := 55) dX5_read_24 (by decide) h (fun h => ?_) (fun h => ?_)
    · refine z_iconst dX5_read_55 ?_
      exact z_zret (b := false) rfl dX5_read_56 rfl rfl rfl ⟨_, rfl, hs, h⟩
    · refine z_rload_n dX5_read_27 rfl 0 rfl ?_
      refine z_getR (q := 9064) ff_5_0 dX5_read_28 kt_63 (Nat.le_of_ble_eq_true rfl) fl_X5_9 rfl (hs.1 _ _ sr_9064) ?_
      refine z_VE (i_Tape_isEnd ) vk_X9_isEnd kt_10 (Nat.le_of_ble_eq_true rfl) rfl ml_X5_29 ⟨Nat.le_of_ble_eq_true rfl, Nat.le_of_ble_eq_true rfl⟩ ⟨Nat.zero_le _, Nat.zero_le _⟩ rfl rfl (Nat.le_of_ble_eq_true rfl) dX5_read_31 ?_
      refine z_ifeq_b (tgt := 39) dX5_read_34 (by decide) h (fun h => ?_) (fun h => ?_)
      · refine z_iconst dX5_read_37 ?_
        exact z_zret (b := true) rfl dX5_read_38 rfl rfl rfl ⟨_, rfl, hs, h⟩
      · refine z_rload_n dX5_read_39 rfl 0 rfl ?_
        refine z_iload_n dX5_read_40 rfl 1 rfl ?_
        refine z_VB (i_OrdR_readClause  hs h) vk_X5_readClause kt_63 (Nat.le_of_ble_eq_true rfl) rfl ml_X5_33 ⟨Nat.le_of_ble_eq_true rfl, Nat.le_of_ble_eq_true rfl⟩ ⟨Nat.zero_le _, Nat.zero_le _⟩ rfl rfl (Nat.le_of_ble_eq_true rfl) dX5_read_41 (fun r41 μ_5 hs h => ?_)
        refine z_ifne_b (tgt := 49) dX5_read_44 (by decide) h (fun h => ?_) (fun h => ?_)
        · refine z_iinc (j := 1) (lv' := [(2, vi (v2 + 1)), (0, vr Γ 63)]) dX5_read_49 rfl (Nat.le_of_ble_eq_true rfl) rfl ?_
          refine z_goto (tgt := 21) dX5_read_52 (by decide) ?_
          refine z_sub (lv' := [(0, vr Γ 63), (2, vi (v2 + 1))]) [1, 0] rfl ?_
          exact hR_21 (v2 + 1) μ_5 hs h
        · refine z_iconst dX5_read_47 ?_
          exact z_zret (b := false) rfl dX5_read_48 rfl rfl rfl ⟨_, rfl, hs, h⟩
theorem i_OrdR_read {l : Launch} {Γ : Gam} {g : Nat} {a1 : Nat} {μ : Mem} {k : Bool → Mem → Prop} (hr_a1 : isRu a1 = true) (hs : StatR μ.2.2) (h : f_OrdR_read a1 μ k) : CT l Γ yX5_read cX5_read 3 (some .boolean) 613 3968 0 0 [vr Γ 63, vr Γ a1] g 174 μ (pB k) := by
  refine SW.ct (by decide) (Nat.le_of_ble_eq_true rfl) ?_
  refine z_sub (lv' := [(0, vr Γ 63), (1, vr Γ a1)]) [0, 1] rfl ?_
  show SW l Γ yX5_read.cls cX5_read Y_OrdR_read (pB k) g 174 0 0 μ 0 [(0, vr Γ 63), (1, vr Γ a1)] []
  unfold f_OrdR_read at h
  refine z_rload_n dX5_read_0 rfl 0 rfl ?_
  refine z_rload_n dX5_read_1 rfl 1 rfl ?_
  refine z_putR (q := 9065) ff_5_1 (Or.inl rfl) rfl rfl rfl dX5_read_2 kt_63 (Nat.le_of_ble_eq_true rfl) fl_X5_15 rfl ?_
  refine z_mm (fun μ_1 eμ_1 => ?_)
  replace h := h μ_1 eμ_1
  replace hs : StatR μ_1.2.2 := by rw [eμ_1]; exact (StatR.put hs)
  refine z_rload_n dX5_read_5 rfl 0 rfl ?_
  obtain ⟨r6, h9, hr_r6, h⟩ := h
  refine z_getR (q := 9065) ff_5_1 dX5_read_6 kt_63 (Nat.le_of_ble_eq_true rfl) fl_X5_15 rfl h9 ?_
  refine z_VU (i_Rules_clear hr_r6 hs h) vk_X8_clear (ru_k hr_r6) (ru_l hr_r6) rfl ml_X5_19 ⟨Nat.le_of_ble_eq_true rfl, Nat.le_of_ble_eq_true rfl⟩ ⟨Nat.zero_le _, Nat.zero_le _⟩ rfl rfl (Nat.le_of_ble_eq_true rfl) dX5_read_9 (fun μ_2 hs h => ?_)
  refine z_rload_n dX5_read_12 rfl 0 rfl ?_
  refine z_getR (q := 9064) ff_5_0 dX5_read_13 kt_63 (Nat.le_of_ble_eq_true rfl) fl_X5_9 rfl (hs.1 _ _ sr_9064) ?_
  refine z_VU (i_Tape_begin  hs h) vk_X9_begin kt_10 (Nat.le_of_ble_eq_true rfl) rfl ml_X5_24 ⟨Nat.le_of_ble_eq_true rfl, Nat.le_of_ble_eq_true rfl⟩ ⟨Nat.zero_le _, Nat.zero_le _⟩ rfl rfl (Nat.le_of_ble_eq_true rfl) dX5_read_16 (fun μ_3 hs h => ?_)
  refine z_iconst dX5_read_19 ?_
  refine z_istore_n (lv' := [(2, vi 0), (0, vr Γ 63), (1, vr Γ a1)]) dX5_read_20 rfl (Nat.le_of_ble_eq_true rfl) rfl ?_
  obtain ⟨m21, h⟩ := h
  refine z_sub (lv' := [(0, vr Γ 63), (2, vi 0)]) [1, 0] rfl ?_
  refine L_OrdR_read_21  m21 0 μ_3 hs h
abbrev Y_Papers_draft : Yt := (1, (some (.object "CardHall$Rules")), yX6_draft.name, { frames := 1, cells := 0, slots := 0, locals := 22 }, 174, 0, 0)
def f_Papers_draft  (μ : Mem) (k : Nat → Mem → Prop) : Prop := f_Papers_inForce (rI μ 2545 0) μ (fun r5 μ_1 => isRu r5 = true ∧ k r5 μ_1)
theorem i_Papers_draft {l : Launch} {Γ : Gam} {g : Nat} {μ : Mem} {k : Nat → Mem → Prop} (hs : StatR μ.2.2) (h : f_Papers_draft  μ k) : CT l Γ yX6_draft cX6_draft 1 (some (.object "CardHall$Rules")) 1 22 0 0 [vr Γ 12] g 174 μ (pA Γ k) := by
  refine SW.ct (by decide) (Nat.le_of_ble_eq_true rfl) ?_
  refine z_sub (lv' := [(0, vr Γ 12)]) [0] rfl ?_
  show SW l Γ yX6_draft.cls cX6_draft Y_Papers_draft (pA Γ k) g 174 0 0 μ 0 [(0, vr Γ 12)] []
  unfold f_Papers_draft at h
  refine z_rload_n dX6_draft_0 rfl 0 rfl ?_
  refine z_rload_n dX6_draft_1 rfl 0 rfl ?_
  refine z_getI (q := 2545) ff_6_9 dX6_draft_2 kt_12 (Nat.le_of_ble_eq_true rfl) fl_X6_42 rfl ?_
  refine z_VA (i_Papers_inForce  hs h) vk_X6_inForce kt_12 (Nat.le_of_ble_eq_true rfl) rfl ml_X6_45 ⟨Nat.le_of_ble_eq_true rfl, Nat.le_of_ble_eq_true rfl⟩ ⟨Nat.zero_le _, Nat.zero_le _⟩ rfl rfl (Nat.le_of_ble_eq_true rfl) dX6_draft_5 (fun r5 μ_1 hs h => ?_)
  obtain ⟨hr_r5, h⟩ := h
  exact z_aret rfl (Or.inl ⟨_, rfl⟩) dX6_draft_8 rfl rfl rfl ⟨_, rfl, hs, h⟩
abbrev Y_H_orders : Yt := (3, (some .int), yX11_orders.name, { frames := 614, cells := 0, slots := 0, locals := 3990 }, 174, 0, 0)
def f_H_orders  (μ : Mem) (k : Int → Mem → Prop) : Prop := if w (rI μ 2545 0) < w 10 then (f_Papers_draft  μ (fun r22 μ_1 => isRu r22 = true ∧ f_OrdR_read r22 μ_1 (fun r25 μ_2 => ∀ μ_3 : Mem, μ_3 = sI μ_2 2281 0 0 → if r25 = true then (∀ v2 : Int, v2 = rI μ_3 2545 0 → ∀ μ_4 : Mem, μ_4 = sI μ_3 2545 0 ((rI μ_3 2545 0) + 1) → f_Floor_bring (200 + v2) μ_4 (fun μ_5 => if w v2 = 0 then (f_Floor_put 200 1 μ_5 (fun μ_6 => ∀ μ_7 : Mem, μ_7 = sI μ_6 9584 0 0 → f_Chair_closeLatest  μ_7 (fun μ_8 => k v2 μ_8))) else (f_Chair_closeLatest  μ_5 (fun μ_9 => k v2 μ_9)))) else (k ((-1) - (rI μ_3 2286 0)) μ_3)))) else (k (-1) μ)
theorem i_H_orders {l : Launch} {Γ : Gam} {g : Nat} {μ : Mem} {k : Int → Mem → Prop} (hs : StatR μ.2.2) (h : f_H_orders  μ k) : CT l Γ yX11_orders cX11_orders 3 (some .int) 614 3990 0 0 [vr Γ 0] g 174 μ (pI k) := by
  refine SW.ct (by decide) (Nat.le_of_ble_eq_true rfl) ?_
  refine z_sub (lv' := [(0, vr Γ 0)]) [0] rfl ?_
  show SW l Γ yX11_orders.cls cX11_orders Y_H_orders (pI k) g 174 0 0 μ 0 [(0, vr Γ 0)] []
  unfold f_H_orders at h
  refine z_rload_n dX11_orders_0 rfl 0 rfl ?_
  refine z_getR (q := 1004) ff_11_4 dX11_orders_1 kt_0 (Nat.le_of_ble_eq_true rfl) fl_X11_26 rfl (hs.1 _ _ sr_1004) ?_
  refine z_getI (q := 2545) ff_6_9 dX11_orders_4 kt_12 (Nat.le_of_ble_eq_true rfl) fl_X11_160 rfl ?_
  refine z_bipush dX11_orders_7 (by decide) ?_
  refine z_icmp_lt (tgt := 14) dX11_orders_9 (by decide) h (fun h => ?_) (fun h => ?_)
  · refine z_rload_n dX11_orders_14 rfl 0 rfl ?_
    refine z_getR (q := 1002) ff_11_2 dX11_orders_15 kt_0 (Nat.le_of_ble_eq_true rfl) fl_X11_39 rfl (hs.1 _ _ sr_1002) ?_
    refine z_rload_n dX11_orders_18 rfl 0 rfl ?_
    refine z_getR (q := 1004) ff_11_4 dX11_orders_19 kt_0 (Nat.le_of_ble_eq_true rfl) fl_X11_26 rfl (hs.1 _ _ sr_1004) ?_
    refine z_VA (i_Papers_draft  hs h) vk_X6_draft kt_12 (Nat.le_of_ble_eq_true rfl) rfl ml_X11_163 ⟨Nat.le_of_ble_eq_true rfl, Nat.le_of_ble_eq_true rfl⟩ ⟨Nat.zero_le _, Nat.zero_le _⟩ rfl rfl (Nat.le_of_ble_eq_true rfl) dX11_orders_22 (fun r22 μ_1 hs h => ?_)
    obtain ⟨hr_r22, h⟩ := h
    refine z_VB (i_OrdR_read hr_r22 hs h) vk_X5_read kt_63 (Nat.le_of_ble_eq_true rfl) rfl ml_X11_167 ⟨Nat.le_of_ble_eq_true rfl, Nat.le_of_ble_eq_true rfl⟩ ⟨Nat.zero_le _, Nat.zero_le _⟩ rfl rfl (Nat.le_of_ble_eq_true rfl) dX11_orders_25 (fun r25 μ_2 hs h => ?_)
    refine z_istore_n (lv' := [(1, vi (b2i r25)), (0, vr Γ 0)]) dX11_orders_28 rfl (Nat.le_of_ble_eq_true rfl) rfl ?_
    refine z_rload_n dX11_orders_29 rfl 1 rfl ?_
    refine z_getR (q := 1001) ff_11_1 dX11_orders_30 kt_0 (Nat.le_of_ble_eq_true rfl) fl_X11_19 rfl (hs.1 _ _ sr_1001) ?_
    refine z_iconst dX11_orders_33 ?_
    refine z_putI (q := 2281) ff_9_1 (Or.inl rfl) rfl dX11_orders_34 kt_10 (Nat.le_of_ble_eq_true rfl) fl_X11_153 rfl ?_
    refine z_mm (fun μ_3 eμ_3 => ?_)
    replace h := h μ_3 eμ_3
    replace hs : StatR μ_3.2.2 := by rw [eμ_3]; exact hs
    refine z_iload_n dX11_orders_37 rfl 0 rfl ?_
    refine z_ifne_b (tgt := 51) dX11_orders_38 (by decide) h (fun h => ?_) (fun h => ?_)
    · refine z_rload_n dX11_orders_51 rfl 1 rfl ?_
      refine z_getR (q := 1004) ff_11_4 dX11_orders_52 kt_0 (Nat.le_of_ble_eq_true rfl) fl_X11_26 rfl (hs.1 _ _ sr_1004) ?_
      refine z_getI (q := 2545) ff_6_9 dX11_orders_55 kt_12 (Nat.le_of_ble_eq_true rfl) fl_X11_160 rfl ?_
      refine z_nm (fun v2 ev2 => ?_)
      replace h := h v2 ev2
      refine z_istore_n (lv' := [(2, vi v2), (1, vi (b2i r25)), (0, vr Γ 0)]) dX11_orders_58 rfl (Nat.le_of_ble_eq_true rfl) rfl ?_
      refine z_rload_n dX11_orders_59 rfl 2 rfl ?_
      refine z_getR (q := 1004) ff_11_4 dX11_orders_60 kt_0 (Nat.le_of_ble_eq_true rfl) fl_X11_26 rfl (hs.1 _ _ sr_1004) ?_
      refine z_dup dX11_orders_63 rfl ?_
      refine z_getI (q := 2545) ff_6_9 dX11_orders_64 kt_12 (Nat.le_of_ble_eq_true rfl) fl_X11_160 rfl ?_
      refine z_iconst dX11_orders_67 ?_
      refine z_iadd dX11_orders_68 ?_
      refine z_putI (q := 2545) ff_6_9 (Or.inl rfl) rfl dX11_orders_69 kt_12 (Nat.le_of_ble_eq_true rfl) fl_X11_160 rfl ?_
      refine z_mm (fun μ_4 eμ_4 => ?_)
      replace h := h μ_4 eμ_4
      replace hs : StatR μ_4.2.2 := by rw [eμ_4]; exact hs
      refine z_rload_n dX11_orders_72 rfl 2 rfl ?_
      refine z_getR (q := 1005) ff_11_5 dX11_orders_73 kt_0 (Nat.le_of_ble_eq_true rfl) fl_X11_57 rfl (hs.1 _ _ sr_1005) ?_
      refine z_sipush dX11_orders_76 (by decide) ?_
      refine z_iload_n dX11_orders_79 rfl 0 rfl ?_
      refine z_iadd dX11_orders_80 ?_
      refine z_VU (i_Floor_bring  hs h) vk_X3_bring kt_67 (Nat.le_of_ble_eq_true rfl) rfl ml_X11_174 ⟨Nat.le_of_ble_eq_true rfl, Nat.le_of_ble_eq_true rfl⟩ ⟨Nat.zero_le _, Nat.zero_le _⟩ rfl rfl (Nat.le_of_ble_eq_true rfl) dX11_orders_81 (fun μ_5 hs h => ?_)
      refine z_iload_n dX11_orders_84 rfl 0 rfl ?_
      refine z_if_ne (tgt := 107) dX11_orders_85 (by decide) h (fun h => ?_) (fun h => ?_)
      · refine z_rload_n dX11_orders_88 rfl 2 rfl ?_
        refine z_getR (q := 1005) ff_11_5 dX11_orders_89 kt_0 (Nat.le_of_ble_eq_true rfl) fl_X11_57 rfl (hs.1 _ _ sr_1005) ?_
        refine z_sipush dX11_orders_92 (by decide) ?_
        refine z_iconst dX11_orders_95 ?_
        refine z_VU (i_Floor_put  hs h) vk_X3_put kt_67 (Nat.le_of_ble_eq_true rfl) rfl ml_X11_177 ⟨Nat.le_of_ble_eq_true rfl, Nat.le_of_ble_eq_true rfl⟩ ⟨Nat.zero_le _, Nat.zero_le _⟩ rfl rfl (Nat.le_of_ble_eq_true rfl) dX11_orders_96 (fun μ_6 hs h => ?_)
        refine z_rload_n dX11_orders_99 rfl 2 rfl ?_
        refine z_getR (q := 1005) ff_11_5 dX11_orders_100 kt_0 (Nat.le_of_ble_eq_true rfl) fl_X11_57 rfl (hs.1 _ _ sr_1005) ?_
        refine z_iconst dX11_orders_103 ?_
        refine z_putI (q := 9584) ff_3_8 (Or.inl rfl) rfl dX11_orders_104 kt_67 (Nat.le_of_ble_eq_true rfl) fl_X11_125 rfl ?_
        refine z_mm (fun μ_7 eμ_7 => ?_)
        replace h := h μ_7 eμ_7
        replace hs : StatR μ_7.2.2 := by rw [eμ_7]; exact hs
        refine z_rload_n dX11_orders_107 rfl 2 rfl ?_
        refine z_getR (q := 1007) ff_11_7 dX11_orders_108 kt_0 (Nat.le_of_ble_eq_true rfl) fl_X11_75 rfl (hs.1 _ _ sr_1007) ?_
        refine z_VU (i_Chair_closeLatest  hs h) vk_X0_closeLatest kt_83 (Nat.le_of_ble_eq_true rfl) rfl ml_X11_180 ⟨Nat.le_of_ble_eq_true rfl, Nat.le_of_ble_eq_true rfl⟩ ⟨Nat.zero_le _, Nat.zero_le _⟩ rfl rfl (Nat.le_of_ble_eq_true rfl) dX11_orders_111 (fun μ_8 hs h => ?_)
        refine z_iload_n dX11_orders_114 rfl 0 rfl ?_
        exact z_iret rfl dX11_orders_115 rfl rfl rfl ⟨_, rfl, hs, h⟩
      · refine z_rload_n dX11_orders_107 rfl 2 rfl ?_
        refine z_getR (q := 1007) ff_11_7 dX11_orders_108 kt_0 (Nat.le_of_ble_eq_true rfl) fl_X11_75 rfl (hs.1 _ _ sr_1007) ?_
        refine z_VU (i_Chair_closeLatest  hs h) vk_X0_closeLatest kt_83 (Nat.le_of_ble_eq_true rfl) rfl ml_X11_180 ⟨Nat.le_of_ble_eq_true rfl, Nat.le_of_ble_eq_true rfl⟩ ⟨Nat.zero_le _, Nat.zero_le _⟩ rfl rfl (Nat.le_of_ble_eq_true rfl) dX11_orders_111 (fun μ_9 hs h => ?_)
        refine z_iload_n dX11_orders_114 rfl 0 rfl ?_
        exact z_iret rfl dX11_orders_115 rfl rfl rfl ⟨_, rfl, hs, h⟩
    · refine z_iconst dX11_orders_41 ?_
      refine z_rload_n dX11_orders_42 rfl 1 rfl ?_
      refine z_getR (q := 1001) ff_11_1 dX11_orders_43 kt_0 (Nat.le_of_ble_eq_true rfl) fl_X11_19 rfl (hs.1 _ _ sr_1001) ?_
      refine z_getI (q := 2286) ff_9_6 dX11_orders_46 kt_10 (Nat.le_of_ble_eq_true rfl) fl_X11_171 rfl ?_
      refine z_isub dX11_orders_49 ?_
      exact z_iret rfl dX11_orders_50 rfl rfl rfl ⟨_, rfl, hs, h⟩
  · refine z_iconst dX11_orders_12 ?_
    exact z_iret rfl dX11_orders_13 rfl rfl rfl ⟨_, rfl, hs, h⟩
def v_H_isLate  (μ : Mem) : Bool := if w (rI μ 1140 0) = w (-1) then false else (if w (rI μ 1140 0) < w (rI μ 1139 0) then true else false)
theorem i_H_isLate {l : Launch} {Γ : Gam} {g : Nat} {μ : Mem} (hs : StatR μ.2.2) : CT l Γ yX11_isLate cX11_isLate 1 (some .boolean) 0 0 0 0 [vr Γ 0] g 174 μ (pE (vi (b2i (v_H_isLate μ))) μ) := by
  refine SW.ct (by decide) (Nat.le_of_ble_eq_true rfl) ?_
  refine z_sub (lv' := [(0, vr Γ 0)]) [0] rfl ?_
  have hv : v_H_isLate μ = v_H_isLate μ := rfl
  refine z_rload_n dX11_isLate_0 rfl 0 rfl ?_
  refine z_getR (q := 1000) ff_11_0 dX11_isLate_1 kt_0 (Nat.le_of_ble_eq_true rfl) fl_X11_12 rfl (hs.1 _ _ sr_1000) ?_
  refine z_getI (q := 1140) ff_7_12 dX11_isLate_4 kt_1 (Nat.le_of_ble_eq_true rfl) fl_X11_150 rfl ?_
  refine z_iconst dX11_isLate_7 ?_
  refine z_icmp_eq (tgt := 32) dX11_isLate_8 (by decide) (eq_ite hv) (fun hv => ?_) (fun hv => ?_)
  · refine z_iconst dX11_isLate_32 ?_
    exact z_zret (b := false) rfl dX11_isLate_33 rfl rfl rfl ⟨by first | (rw [hv]; done) | rfl, rfl⟩
  · refine z_rload_n dX11_isLate_11 rfl 0 rfl ?_
    refine z_getR (q := 1000) ff_11_0 dX11_isLate_12 kt_0 (Nat.le_of_ble_eq_true rfl) fl_X11_12 rfl (hs.1 _ _ sr_1000) ?_
    refine z_getI (q := 1139) ff_7_11 dX11_isLate_15 kt_1 (Nat.le_of_ble_eq_true rfl) fl_X11_139 rfl ?_
    refine z_rload_n dX11_isLate_18 rfl 0 rfl ?_
    refine z_getR (q := 1000) ff_11_0 dX11_isLate_19 kt_0 (Nat.le_of_ble_eq_true rfl) fl_X11_12 rfl (hs.1 _ _ sr_1000) ?_
    refine z_getI (q := 1140) ff_7_12 dX11_isLate_22 kt_1 (Nat.le_of_ble_eq_true rfl) fl_X11_150 rfl ?_
    refine z_icmp_le (tgt := 32) dX11_isLate_25 (by decide) (eq_ite hv) (fun hv => ?_) (fun hv => ?_)
    · refine z_iconst dX11_isLate_28 ?_
      refine z_goto (tgt := 33) dX11_isLate_29 (by decide) ?_
      exact z_zret (b := true) rfl dX11_isLate_33 rfl rfl rfl ⟨by first | (rw [hv]; done) | rfl, rfl⟩
    · refine z_iconst dX11_isLate_32 ?_
      exact z_zret (b := false) rfl dX11_isLate_33 rfl rfl rfl ⟨by first | (rw [hv]; done) | rfl, rfl⟩
abbrev Y_Count_paidHeadsOf : Yt := (4, (some .int), yX2_paidHeadsOf.name, { frames := 1, cells := 0, slots := 0, locals := 21 }, 174, 0, 0)
def f_Count_paidHeadsOf (a1 : Int) (a2 : Int) (μ : Mem) (k : Int → Mem → Prop) : Prop := if w a2 = 0 then (k (w_min (at' μ 74 12 a1) 0) μ) else (¬ w a2 = 0 ∧ ∀ v3 : Int, v3 = w_idiv (at' μ 75 12 a1) a2 → k (w_min (at' μ 74 12 a1) v3) μ)
theorem i_Count_paidHeadsOf {l : Launch} {Γ : Gam} {g : Nat} {a1 : Int} {a2 : Int} {μ : Mem} {k : Int → Mem → Prop} (hs : StatR μ.2.2) (h : f_Count_paidHeadsOf a1 a2 μ k) : CT l Γ yX2_paidHeadsOf cX2_paidHeadsOf 4 (some .int) 1 21 0 0 [vr Γ 73, vi a1, vi a2] g 174 μ (pI k) := by
  refine SW.ct (by decide) (Nat.le_of_ble_eq_true rfl) ?_
  refine z_sub (lv' := [(0, vr Γ 73), (1, vi a1), (2, vi a2)]) [0, 1, 2] rfl ?_
  show SW l Γ yX2_paidHeadsOf.cls cX2_paidHeadsOf Y_Count_paidHeadsOf (pI k) g 174 0 0 μ 0 [(0, vr Γ 73), (1, vi a1), (2, vi a2)] []
  unfold f_Count_paidHeadsOf at h
  refine z_iload_n dX2_paidHeadsOf_0 rfl 2 rfl ?_
  refine z_if_ne (tgt := 8) dX2_paidHeadsOf_1 (by decide) h (fun h => ?_) (fun h => ?_)
  · refine z_iconst dX2_paidHeadsOf_4 ?_
    refine z_goto (tgt := 18) dX2_paidHeadsOf_5 (by decide) ?_
    refine z_istore_n (lv' := [(3, vi 0), (0, vr Γ 73), (1, vi a1), (2, vi a2)]) dX2_paidHeadsOf_18 rfl (Nat.le_of_ble_eq_true rfl) rfl ?_
    refine z_rload_n dX2_paidHeadsOf_19 rfl 1 rfl ?_
    refine z_getR (q := 10345) ff_2_1 dX2_paidHeadsOf_20 kt_73 (Nat.le_of_ble_eq_true rfl) fl_X2_9 rfl (hs.1 _ _ sr_10345) ?_
    refine z_iload_n dX2_paidHeadsOf_23 rfl 2 rfl ?_
    refine z_NE (i_X11_at kt_74 (Nat.le_of_ble_eq_true rfl)) ok_X11_at nw_X2_59 ⟨Nat.le_of_ble_eq_true rfl, Nat.le_of_ble_eq_true rfl⟩ ⟨Nat.zero_le _, Nat.zero_le _⟩ rfl rfl (Nat.le_of_ble_eq_true rfl) dX2_paidHeadsOf_24 ?_
    refine z_iload_n dX2_paidHeadsOf_27 rfl 0 rfl ?_
    refine z_min dX2_paidHeadsOf_28 mm_X2_102 ms_min mi_math mc_min ⟨Nat.le_of_ble_eq_true rfl, Nat.le_of_ble_eq_true rfl⟩ ⟨Nat.zero_le _, Nat.zero_le _⟩ ?_
    exact z_iret rfl dX2_paidHeadsOf_31 rfl rfl rfl ⟨_, rfl, hs, h⟩
  · refine z_rload_n dX2_paidHeadsOf_8 rfl 0 rfl ?_
    refine z_getR (q := 10346) ff_2_2 dX2_paidHeadsOf_9 kt_73 (Nat.le_of_ble_eq_true rfl) fl_X2_15 rfl (hs.1 _ _ sr_10346) ?_
    refine z_iload_n dX2_paidHeadsOf_12 rfl 1 rfl ?_
    refine z_NE (i_X11_at kt_75 (Nat.le_of_ble_eq_true rfl)) ok_X11_at nw_X2_59 ⟨Nat.le_of_ble_eq_true rfl, Nat.le_of_ble_eq_true rfl⟩ ⟨Nat.zero_le _, Nat.zero_le _⟩ rfl rfl (Nat.le_of_ble_eq_true rfl) dX2_paidHeadsOf_13 ?_
    refine z_iload_n dX2_paidHeadsOf_16 rfl 2 rfl ?_
    obtain ⟨h0, h⟩ := h
    refine z_idiv dX2_paidHeadsOf_17 h0 ?_
    refine z_nm (fun v3 ev3 => ?_)
    replace h := h v3 ev3
    refine z_istore_n (lv' := [(3, vi v3), (0, vr Γ 73), (1, vi a1), (2, vi a2)]) dX2_paidHeadsOf_18 rfl (Nat.le_of_ble_eq_true rfl) rfl ?_
    refine z_rload_n dX2_paidHeadsOf_19 rfl 1 rfl ?_
    refine z_getR (q := 10345) ff_2_1 dX2_paidHeadsOf_20 kt_73 (Nat.le_of_ble_eq_true rfl) fl_X2_9 rfl (hs.1 _ _ sr_10345) ?_
    refine z_iload_n dX2_paidHeadsOf_23 rfl 2 rfl ?_
    refine z_NE (i_X11_at kt_74 (Nat.le_of_ble_eq_true rfl)) ok_X11_at nw_X2_59 ⟨Nat.le_of_ble_eq_true rfl, Nat.le_of_ble_eq_true rfl⟩ ⟨Nat.zero_le _, Nat.zero_le _⟩ rfl rfl (Nat.le_of_ble_eq_true rfl) dX2_paidHeadsOf_24 ?_
    refine z_iload_n dX2_paidHeadsOf_27 rfl 0 rfl ?_
    refine z_min dX2_paidHeadsOf_28 mm_X2_102 ms_min mi_math mc_min ⟨Nat.le_of_ble_eq_true rfl, Nat.le_of_ble_eq_true rfl⟩ ⟨Nat.zero_le _, Nat.zero_le _⟩ ?_
    exact z_iret rfl dX2_paidHeadsOf_31 rfl rfl rfl ⟨_, rfl, hs, h⟩
def v_Rules_says (r0 : Nat) (a1 : Int) (μ : Mem) : Bool := if w (at' μ (r0 + 2) 5 a1) < w (at' μ (r0 + 3) 5 a1) then true else false
theorem i_Rules_says {l : Launch} {Γ : Gam} {g : Nat} {μ : Mem} {r0 : Nat} {a1 : Int} (hr_r0 : isRu r0 = true) (hs : StatR μ.2.2) : CT l Γ yX8_says cX8_says 2 (some .boolean) 1 21 0 0 [vr Γ r0, vi a1] g 174 μ (pE (vi (b2i (v_Rules_says r0 a1 μ))) μ) := by
  refine SW.ct (by decide) (Nat.le_of_ble_eq_true rfl) ?_
  refine z_sub (lv' := [(0, vr Γ r0), (1, vi a1)]) [0, 1] rfl ?_
  have hv : v_Rules_says r0 a1 μ = v_Rules_says r0 a1 μ := rfl
  refine z_rload_n dX8_says_0 rfl 0 rfl ?_
  refine z_getR ff_8_2 dX8_says_1 (ru_k hr_r0) (ru_l hr_r0) fl_X8_18 rfl (ru_s3 hs hr_r0) ?_
  refine z_iload_n dX8_says_4 rfl 1 rfl ?_
  refine z_NE (i_X11_at (ru_k3 hr_r0) (ru_l3 hr_r0)) ok_X11_at nw_X8_43 ⟨Nat.le_of_ble_eq_true rfl, Nat.le_of_ble_eq_true rfl⟩ ⟨Nat.zero_le _, Nat.zero_le _⟩ rfl rfl (Nat.le_of_ble_eq_true rfl) dX8_says_5 ?_
  refine z_rload_n dX8_says_8 rfl 0 rfl ?_
  refine z_getR ff_8_1 dX8_says_9 (ru_k hr_r0) (ru_l hr_r0) fl_X8_15 rfl (ru_s2 hs hr_r0) ?_
  refine z_iload_n dX8_says_12 rfl 1 rfl ?_
  refine z_NE (i_X11_at (ru_k2 hr_r0) (ru_l2 hr_r0)) ok_X11_at nw_X8_43 ⟨Nat.le_of_ble_eq_true rfl, Nat.le_of_ble_eq_true rfl⟩ ⟨Nat.zero_le _, Nat.zero_le _⟩ rfl rfl (Nat.le_of_ble_eq_true rfl) dX8_says_13 ?_
  refine z_icmp_le (tgt := 23) dX8_says_16 (by decide) (eq_ite hv) (fun hv => ?_) (fun hv => ?_)
  · refine z_iconst dX8_says_19 ?_
    refine z_goto (tgt := 24) dX8_says_20 (by decide) ?_
    exact z_zret (b := true) rfl dX8_says_24 rfl rfl rfl ⟨by first | (rw [hv]; done) | rfl, rfl⟩
  · refine z_iconst dX8_says_23 ?_
    exact z_zret (b := false) rfl dX8_says_24 rfl rfl rfl ⟨by first | (rw [hv]; done) | rfl, rfl⟩
def v_Rules_bounded (a1 : Int64) : Int := if 1000000000 < a1 then 1000000000 else (if a1 < (-1000000000) then (-1000000000) else (w_l2i a1))
theorem i_Rules_bounded {l : Launch} {Γ : Gam} {g : Nat} {μ : Mem} {a1 : Int64} : CT l Γ yX8_bounded cX8_bounded 2 (some .int) 0 0 0 0 [vl a1] g 174 μ (pE (vi (v_Rules_bounded a1)) μ) := by
  refine SW.ct (by decide) (Nat.le_of_ble_eq_true rfl) ?_
  refine z_sub (lv' := [(0, vl a1)]) [0] rfl ?_
  have hv : v_Rules_bounded a1 = v_Rules_bounded a1 := rfl
  refine z_lload_n dX8_bounded_0 rfl 0 rfl ?_
  refine z_ldc2 (v := 1000000000) dX8_bounded_1 cl_X8_55 ?_
  refine z_lcmp_le (tgt := 13) dX8_bounded_4 dX8_bounded_5 (by decide) (eq_ite hv) (fun hv => ?_) (fun hv => ?_)
  · refine z_ldc (x := 1000000000) dX8_bounded_8 cs_X8_57 ?_
    refine z_goto (tgt := 28) dX8_bounded_10 (by decide) ?_
    exact z_iret rfl dX8_bounded_28 rfl rfl rfl ⟨by first | (rw [hv]; done) | rfl, rfl⟩
  · refine z_lload_n dX8_bounded_13 rfl 0 rfl ?_
    refine z_ldc2 (v := (-1000000000)) dX8_bounded_14 cl_X8_58 ?_
    refine z_lcmp_ge (tgt := 26) dX8_bounded_17 dX8_bounded_18 (by decide) (eq_ite hv) (fun hv => ?_) (fun hv => ?_)
    · refine z_ldc (x := (-1000000000)) dX8_bounded_21 cs_X8_60 ?_
      refine z_goto (tgt := 28) dX8_bounded_23 (by decide) ?_
      exact z_iret rfl dX8_bounded_28 rfl rfl rfl ⟨by first | (rw [hv]; done) | rfl, rfl⟩
    · refine z_lload_n dX8_bounded_26 rfl 0 rfl ?_
      refine z_l2i dX8_bounded_27 ?_
      exact z_iret rfl dX8_bounded_28 rfl rfl rfl ⟨by first | (rw [hv]; done) | rfl, rfl⟩
abbrev Y_Rules_joined : Yt := (5, (some .long), yX8_joined.name, { frames := 0, cells := 0, slots := 0, locals := 0 }, 174, 0, 0)
def f_Rules_joined (a1 : Int) (a2 : Int64) (a3 : Int64) (μ : Mem) (k : Int64 → Mem → Prop) : Prop := if w a1 = 2 then (k (a2 + a3) μ) else (if w a1 = 3 then (k (a2 - a3) μ) else (if w a1 = 4 then (k (a2 * a3) μ) else (if w a1 = 5 then (if a3 = 0 then (k 0 μ) else (¬ a3 = 0 ∧ k (a2 / a3) μ)) else (if w a1 = 6 then (∀ x85 : Int64, x85 = (if a2 < a3 then 1 else 0) → k x85 μ) else (if w a1 = 7 then (∀ x97 : Int64, x97 = (if a3 < a2 then 1 else 0) → k x97 μ) else (if w a1 = 8 then (∀ x109 : Int64, x109 = (if a2 = a3 then 1 else 0) → k x109 μ) else (if w a1 = 9 then (k (a2 &&& a3) μ) else (k (a2 ||| a3) μ))))))))
theorem i_Rules_joined {l : Launch} {Γ : Gam} {g : Nat} {a1 : Int} {a2 : Int64} {a3 : Int64} {μ : Mem} {k : Int64 → Mem → Prop} (hs : StatR μ.2.2) (h : f_Rules_joined a1 a2 a3 μ k) : CT l Γ yX8_joined cX8_joined 5 (some .long) 0 0 0 0 [vi a1, vl a2, vl a3] g 174 μ (pL k) := by
  refine SW.ct (by decide) (Nat.le_of_ble_eq_true rfl) ?_
  refine z_sub (lv' := [(0, vi a1), (1, vl a2), (3, vl a3)]) [0, 1, 2] rfl ?_
  show SW l Γ yX8_joined.cls cX8_joined Y_Rules_joined (pL k) g 174 0 0 μ 0 [(0, vi a1), (1, vl a2), (3, vl a3)] []
  unfold f_Rules_joined at h
  refine z_iload_n dX8_joined_0 rfl 0 rfl ?_
  by_cases hc0 : w a1 = 2
  · rw [if_pos hc0] at h
    refine z_tcase (tgt := 48) 2 hc0 dX8_joined_1 (by decide) (by decide) rfl (by decide) ?_
    refine z_lload_n dX8_joined_48 rfl 1 rfl ?_
    refine z_lload_n dX8_joined_49 rfl 2 rfl ?_
    refine z_ladd dX8_joined_50 ?_
    exact z_lret rfl dX8_joined_51 rfl rfl rfl ⟨_, rfl, hs, h⟩
  · rw [if_neg hc0] at h
    by_cases hc1 : w a1 = 3
    · rw [if_pos hc1] at h
      refine z_tcase (tgt := 52) 3 hc1 dX8_joined_1 (by decide) (by decide) rfl (by decide) ?_
      refine z_lload_n dX8_joined_52 rfl 1 rfl ?_
      refine z_lload_n dX8_joined_53 rfl 2 rfl ?_
      refine z_lsub dX8_joined_54 ?_
      exact z_lret rfl dX8_joined_55 rfl rfl rfl ⟨_, rfl, hs, h⟩
    · rw [if_neg hc1] at h
      by_cases hc2 : w a1 = 4
      · rw [if_pos hc2] at h
        refine z_tcase (tgt := 56) 4 hc2 dX8_joined_1 (by decide) (by decide) rfl (by decide) ?_
        refine z_lload_n dX8_joined_56 rfl 1 rfl ?_
        refine z_lload_n dX8_joined_57 rfl 2 rfl ?_
        refine z_lmul dX8_joined_58 ?_
        exact z_lret rfl dX8_joined_59 rfl rfl rfl ⟨_, rfl, hs, h⟩
      · rw [if_neg hc2] at h
        by_cases hc3 : w a1 = 5
        · rw [if_pos hc3] at h
          refine z_tcase (tgt := 60) 5 hc3 dX8_joined_1 (by decide) (by decide) rfl (by decide) ?_
          refine z_lload_n dX8_joined_60 rfl 2 rfl ?_
          refine z_lconst (v := 0) dX8_joined_61 rfl ?_
          refine z_lcmp_ne (tgt := 70) dX8_joined_62 dX8_joined_63 (by decide) h (fun h => ?_) (fun h => ?_)
          · refine z_lconst (v := 0) dX8_joined_66 rfl ?_
            refine z_goto (tgt := 73) dX8_joined_67 (by decide) ?_
            exact z_lret rfl dX8_joined_73 rfl rfl rfl ⟨_, rfl, hs, h⟩
          · refine z_lload_n dX8_joined_70 rfl 1 rfl ?_
            refine z_lload_n dX8_joined_71 rfl 2 rfl ?_
            obtain ⟨h0, h⟩ := h
            refine z_ldiv dX8_joined_72 h0 ?_
            exact z_lret rfl dX8_joined_73 rfl rfl rfl ⟨_, rfl, hs, h⟩
        · rw [if_neg hc3] at h
          by_cases hc4 : w a1 = 6
          · rw [if_pos hc4] at h
            refine z_tcase (tgt := 74) 6 hc4 dX8_joined_1 (by decide) (by decide) rfl (by decide) ?_
            refine z_lload_n dX8_joined_74 rfl 1 rfl ?_
            refine z_lload_n dX8_joined_75 rfl 2 rfl ?_
            refine z_phiL 85 [] (fun V9 hv J9 => ?_) h (fun x85 h => ?_)
            · refine z_lcmp_ge (tgt := 84) dX8_joined_76 dX8_joined_77 (by decide) (eq_ite hv) (fun hv => ?_) (fun hv => ?_)
              · refine z_lconst (v := 1) dX8_joined_80 rfl ?_
                refine z_goto (tgt := 85) dX8_joined_81 (by decide) ?_
                exact J9 _ hv.symm
              · refine z_lconst (v := 0) dX8_joined_84 rfl ?_
                exact J9 _ hv.symm
            · exact z_lret rfl dX8_joined_85 rfl rfl rfl ⟨_, rfl, hs, h⟩
          · rw [if_neg hc4] at h
            by_cases hc5 : w a1 = 7
            · rw [if_pos hc5] at h
              refine z_tcase (tgt := 86) 7 hc5 dX8_joined_1 (by decide) (by decide) rfl (by decide) ?_
              refine z_lload_n dX8_joined_86 rfl 1 rfl ?_
              refine z_lload_n dX8_joined_87 rfl 2 rfl ?_
              refine z_phiL 97 [] (fun V9 hv J9 => ?_) h (fun x97 h => ?_)
              · refine z_lcmp_le (tgt := 96) dX8_joined_88 dX8_joined_89 (by decide) (eq_ite hv) (fun hv => ?_) (fun hv => ?_)
                · refine z_lconst (v := 1) dX8_joined_92 rfl ?_
                  refine z_goto (tgt := 97) dX8_joined_93 (by decide) ?_
                  exact J9 _ hv.symm
                · refine z_lconst (v := 0) dX8_joined_96 rfl ?_
                  exact J9 _ hv.symm
              · exact z_lret rfl dX8_joined_97 rfl rfl rfl ⟨_, rfl, hs, h⟩
            · rw [if_neg hc5] at h
              by_cases hc6 : w a1 = 8
              · rw [if_pos hc6] at h
                refine z_tcase (tgt := 98) 8 hc6 dX8_joined_1 (by decide) (by decide) rfl (by decide) ?_
                refine z_lload_n dX8_joined_98 rfl 1 rfl ?_
                refine z_lload_n dX8_joined_99 rfl 2 rfl ?_
                refine z_phiL 109 [] (fun V9 hv J9 => ?_) h (fun x109 h => ?_)
                · refine z_lcmp_ne (tgt := 108) dX8_joined_100 dX8_joined_101 (by decide) (eq_ite hv) (fun hv => ?_) (fun hv => ?_)
                  · refine z_lconst (v := 1) dX8_joined_104 rfl ?_
                    refine z_goto (tgt := 109) dX8_joined_105 (by decide) ?_
                    exact J9 _ hv.symm
                  · refine z_lconst (v := 0) dX8_joined_108 rfl ?_
                    exact J9 _ hv.symm
                · exact z_lret rfl dX8_joined_109 rfl rfl rfl ⟨_, rfl, hs, h⟩
              · rw [if_neg hc6] at h
                by_cases hc7 : w a1 = 9
                · rw [if_pos hc7] at h
                  refine z_tcase (tgt := 110) 9 hc7 dX8_joined_1 (by decide) (by decide) rfl (by decide) ?_
                  refine z_lload_n dX8_joined_110 rfl 1 rfl ?_
                  refine z_lload_n dX8_joined_111 rfl 2 rfl ?_
                  refine z_land dX8_joined_112 ?_
                  exact z_lret rfl dX8_joined_113 rfl rfl rfl ⟨_, rfl, hs, h⟩
                · rw [if_neg hc7] at h
                  refine z_tdef (tgt := 114) (by omega) dX8_joined_1 (by decide) ?_
                  refine z_lload_n dX8_joined_114 rfl 1 rfl ?_
                  refine z_lload_n dX8_joined_115 rfl 2 rfl ?_
                  refine z_lor dX8_joined_116 ?_
                  exact z_lret rfl dX8_joined_117 rfl rfl rfl ⟨_, rfl, hs, h⟩
abbrev Y_Rules_value : Yt := (9, (some .int), yX8_value.name, { frames := 1, cells := 0, slots := 0, locals := 24 }, 174, 0, 0)
def b_Rules_value_68 (r0 : Nat) (R_23 : Int → Int → Mem → Prop) (v4_1 : Int) (v5_1 : Int) (v6_2 : Int) (v7_1 : Int) (v8_1 : Int) (μ_2 : Mem) : Prop := ∀ x87 : Int, x87 = (if w v7_1 = 0 then v8_1 else (at' μ_2 81 6 v8_1)) → ∀ μ_3 : Mem, μ_3 = set' μ_2 82 32 v4_1 x87 → R_23 (v4_1 + 1) (v6_2 + 1) μ_3
def l_Rules_value_23 (r0 : Nat) (v5 : Int) (X_23_167 : Mem → Prop) : Nat → Int → Int → Mem → Prop
  | 0, _, _, _ => False
  | fu23 + 1, v4, v6_1, μ_1 => if w v6_1 < w v5 then (∀ v7 : Int, v7 = w_iand (at' μ_1 (r0 + 1) 300 v6_1) 15 → ∀ v8 : Int, v8 = w_ishr (at' μ_1 (r0 + 1) 300 v6_1) 4 → if w v7 = 0 then (b_Rules_value_68 r0 (l_Rules_value_23 r0 v5 X_23_167 fu23) v4 v5 v6_1 v7 v8 μ_1) else (if w v7 = w 1 then (b_Rules_value_68 r0 (l_Rules_value_23 r0 v5 X_23_167 fu23) v4 v5 v6_1 v7 v8 μ_1) else (if w v7 = w 11 then (∀ μ_4 : Mem, μ_4 = set' μ_1 82 32 (v4 - 1) (1 - (at' μ_1 82 32 (v4 - 1))) → (l_Rules_value_23 r0 v5 X_23_167 fu23) v4 (v6_1 + 1) μ_4) else (f_Rules_joined v7 (w_i2l (at' μ_1 82 32 (v4 - 2))) (w_i2l (at' μ_1 82 32 (v4 - 1))) μ_1 (fun r149 μ_5 => ∀ μ_6 : Mem, μ_6 = set' μ_5 82 32 (v4 - 2) (v_Rules_bounded r149) → (l_Rules_value_23 r0 v5 X_23_167 fu23) (v4 + (-1)) (v6_1 + 1) μ_6))))) else (X_23_167 μ_1)
def f_Rules_value (r0 : Nat) (a1 : Int) (μ : Mem) (k : Int → Mem → Prop) : Prop := ∀ v5 : Int, v5 = at' μ (r0 + 3) 5 a1 → ∀ v6 : Int, v6 = at' μ (r0 + 2) 5 a1 → ∃ m23 : Nat, l_Rules_value_23 r0 v5 (fun (μ_7 : Mem) => k (at' μ_7 82 32 0) μ_7) m23 0 v6 μ
theorem B_Rules_value_68 {l : Launch} {Γ : Gam} {g : Nat} {r0 : Nat} {R_23 : Int → Int → Mem → Prop} {k : Int → Mem → Prop} {v4_1 : Int} {v5_1 : Int} {v6_2 : Int} {v7_1 : Int} {v8_1 : Int} {μ_2 : Mem} (hr_r0 : isRu r0 = true) (hR_23 : ∀ (u4 : Int) (u6 : Int) (ν : Mem), StatR ν.2.2 → R_23 u4 u6 ν → SW l Γ yX8_value.cls cX8_value Y_Rules_value (pI k) g 174 0 0 ν 23 [(0, vr Γ r0), (2, vr Γ 81), (3, vr Γ 82), (4, vi u4), (5, vi v5_1), (6, vi u6)] []) (hs : StatR μ_2.2.2) (h : b_Rules_value_68 r0 R_23 v4_1 v5_1 v6_2 v7_1 v8_1 μ_2) : SW l Γ yX8_value.cls cX8_value Y_Rules_value (pI k) g 174 0 0 μ_2 68 [(0, vr Γ r0), (2, vr Γ 81), (3, vr Γ 82), (4, vi v4_1), (5, vi v5_1), (6, vi v6_2), (7, vi v7_1), (8, vi v8_1)] [] := by
  unfold b_Rules_value_68 at h
  refine z_rload_n dX8_value_68 rfl 2 rfl ?_
  refine z_iload dX8_value_69 3 rfl ?_
  refine z_iload dX8_value_71 6 rfl ?_
  refine z_phi 87 [vi v4_1, vr Γ 82] (fun V9 hv J9 => ?_) h (fun x87 h => ?_)
  · refine z_if_ne (tgt := 81) dX8_value_73 (by decide) (eq_ite hv) (fun hv => ?_) (fun hv => ?_)
    · refine z_iload dX8_value_76 7 rfl ?_
      refine z_goto (tgt := 87) dX8_value_78 (by decide) ?_
      exact J9 _ hv.symm
    · refine z_rload_n dX8_value_81 rfl 1 rfl ?_
      refine z_iload dX8_value_82 7 rfl ?_
      refine z_NE (i_X11_at kt_81 (Nat.le_of_ble_eq_true rfl)) ok_X11_at nw_X8_43 ⟨Nat.le_of_ble_eq_true rfl, Nat.le_of_ble_eq_true rfl⟩ ⟨Nat.zero_le _, Nat.zero_le _⟩ rfl rfl (Nat.le_of_ble_eq_true rfl) dX8_value_84 ?_
      exact J9 _ hv.symm
  · refine z_NM (i_X11_set kt_82 (Nat.le_of_ble_eq_true rfl)) ok_X11_set nw_X8_39 ⟨Nat.le_of_ble_eq_true rfl, Nat.le_of_ble_eq_true rfl⟩ ⟨Nat.zero_le _, Nat.zero_le _⟩ rfl rfl (Nat.le_of_ble_eq_true rfl) dX8_value_87 ?_
    refine z_mm (fun μ_3 eμ_3 => ?_)
    replace h := h μ_3 eμ_3
    replace hs : StatR μ_3.2.2 := by rw [eμ_3]; exact (StatR.set hs)
    refine z_iinc (j := 3) (lv' := [(4, vi (v4_1 + 1)), (0, vr Γ r0), (2, vr Γ 81), (3, vr Γ 82), (5, vi v5_1), (6, vi v6_2), (7, vi v7_1), (8, vi v8_1)]) dX8_value_90 rfl (Nat.le_of_ble_eq_true rfl) rfl ?_
    refine z_goto (tgt := 161) dX8_value_93 (by decide) ?_
    refine z_iinc (j := 5) (lv' := [(6, vi (v6_2 + 1)), (4, vi (v4_1 + 1)), (0, vr Γ r0), (2, vr Γ 81), (3, vr Γ 82), (5, vi v5_1), (7, vi v7_1), (8, vi v8_1)]) dX8_value_161 rfl (Nat.le_of_ble_eq_true rfl) rfl ?_
    refine z_goto (tgt := 23) dX8_value_164 (by decide) ?_
    refine z_sub (lv' := [(0, vr Γ r0), (2, vr Γ 81), (3, vr Γ 82), (4, vi (v4_1 + 1)), (5, vi v5_1), (6, vi (v6_2 + 1))]) [2, 3, 4, 1, 5, 0] rfl ?_
    exact hR_23 (v4_1 + 1) (v6_2 + 1) μ_3 hs h
theorem L_Rules_value_23 {l : Launch} {Γ : Gam} {g : Nat} {r0 : Nat} {v5 : Int} {X_23_167 : Mem → Prop} {k : Int → Mem → Prop} (hr_r0 : isRu r0 = true) (hX_23_167 : ∀ (ν : Mem), StatR ν.2.2 → X_23_167 ν → SW l Γ yX8_value.cls cX8_value Y_Rules_value (pI k) g 174 0 0 ν 167 [(3, vr Γ 82)] []) (n9 : Nat) : ∀ (v4 : Int) (v6_1 : Int) (μ_1 : Mem), StatR μ_1.2.2 → l_Rules_value_23 r0 v5 X_23_167 n9 v4 v6_1 μ_1 → SW l Γ yX8_value.cls cX8_value Y_Rules_value (pI k) g 174 0 0 μ_1 23 [(0, vr Γ r0), (2, vr Γ 81), (3, vr Γ 82), (4, vi v4), (5, vi v5), (6, vi v6_1)] [] := by
  induction n9 with
  | zero =>
    intro v4 v6_1 μ_1 hs h
    exact h.elim
  | succ n9 hR_23 =>
    intro v4 v6_1 μ_1 hs h
    rw [l_Rules_value_23] at h
    refine z_iload dX8_value_23 5 rfl ?_
    refine z_iload dX8_value_25 4 rfl ?_
    refine z_icmp_ge (tgt := 167) dX8_value_27 (by decide) h (fun h => ?_) (fun h => ?_)
    · refine z_rload_n dX8_value_30 rfl 0 rfl ?_
      refine z_getR ff_8_0 dX8_value_31 (ru_k hr_r0) (ru_l hr_r0) fl_X8_9 rfl (ru_s1 hs hr_r0) ?_
      refine z_iload dX8_value_34 5 rfl ?_
      refine z_NE (i_X11_at (ru_k1 hr_r0) (ru_l1 hr_r0)) ok_X11_at nw_X8_43 ⟨Nat.le_of_ble_eq_true rfl, Nat.le_of_ble_eq_true rfl⟩ ⟨Nat.zero_le _, Nat.zero_le _⟩ rfl rfl (Nat.le_of_ble_eq_true rfl) dX8_value_36 ?_
      refine z_bipush dX8_value_39 (by decide) ?_
      refine z_iand dX8_value_41 ?_
      refine z_nm (fun v7 ev7 => ?_)
      replace h := h v7 ev7
      refine z_istore (lv' := [(7, vi v7), (0, vr Γ r0), (2, vr Γ 81), (3, vr Γ 82), (4, vi v4), (5, vi v5), (6, vi v6_1)]) dX8_value_42 (Nat.le_of_ble_eq_true rfl) rfl ?_
      refine z_rload_n dX8_value_44 rfl 1 rfl ?_
      refine z_getR ff_8_0 dX8_value_45 (ru_k hr_r0) (ru_l hr_r0) fl_X8_9 rfl (ru_s1 hs hr_r0) ?_
      refine z_iload dX8_value_48 6 rfl ?_
      refine z_NE (i_X11_at (ru_k1 hr_r0) (ru_l1 hr_r0)) ok_X11_at nw_X8_43 ⟨Nat.le_of_ble_eq_true rfl, Nat.le_of_ble_eq_true rfl⟩ ⟨Nat.zero_le _, Nat.zero_le _⟩ rfl rfl (Nat.le_of_ble_eq_true rfl) dX8_value_50 ?_
      refine z_iconst dX8_value_53 ?_
      refine z_ishr dX8_value_54 ?_
      refine z_nm (fun v8 ev8 => ?_)
      replace h := h v8 ev8
      refine z_istore (lv' := [(8, vi v8), (7, vi v7), (0, vr Γ r0), (2, vr Γ 81), (3, vr Γ 82), (4, vi v4), (5, vi v5), (6, vi v6_1)]) dX8_value_55 (Nat.le_of_ble_eq_true rfl) rfl ?_
      refine z_iload dX8_value_57 1 rfl ?_
      refine z_if_eq (tgt := 68) dX8_value_59 (by decide) h (fun h => ?_) (fun h => ?_)
      · refine z_sub (lv' := [(0, vr Γ r0), (2, vr Γ 81), (3, vr Γ 82), (4, vi v4), (5, vi v5), (6, vi v6_1), (7, vi v7), (8, vi v8)]) [2, 3, 4, 5, 6, 7, 1, 0] rfl ?_
        exact B_Rules_value_68 hr_r0 hR_23 hs h
      · refine z_iload dX8_value_62 1 rfl ?_
        refine z_iconst dX8_value_64 ?_
        refine z_icmp_ne (tgt := 96) dX8_value_65 (by decide) h (fun h => ?_) (fun h => ?_)
        · refine z_sub (lv' := [(0, vr Γ r0), (2, vr Γ 81), (3, vr Γ 82), (4, vi v4), (5, vi v5), (6, vi v6_1), (7, vi v7), (8, vi v8)]) [2, 3, 4, 5, 6, 7, 1, 0] rfl ?_
          exact B_Rules_value_68 hr_r0 hR_23 hs h
        · refine z_iload dX8_value_96 1 rfl ?_
          refine z_bipush dX8_value_98 (by decide) ?_
          refine z_icmp_ne (tgt := 124) dX8_value_100 (by decide) h (fun h => ?_) (fun h => ?_)
          · refine z_rload_n dX8_value_103 rfl 4 rfl ?_
            refine z_iload dX8_value_104 5 rfl ?_
            refine z_iconst dX8_value_106 ?_
            refine z_isub dX8_value_107 ?_
            refine z_iconst dX8_value_108 ?_
            refine z_rload_n dX8_value_109 rfl 4 rfl ?_
            refine z_iload dX8_value_110 5 rfl ?_
            refine z_iconst dX8_value_112 ?_
            refine z_isub dX8_value_113 ?_
            refine z_NE (i_X11_at kt_82 (Nat.le_of_ble_eq_true rfl)) ok_X11_at nw_X8_43 ⟨Nat.le_of_ble_eq_true rfl, Nat.le_of_ble_eq_true rfl⟩ ⟨Nat.zero_le _, Nat.zero_le _⟩ rfl rfl (Nat.le_of_ble_eq_true rfl) dX8_value_114 ?_
            refine z_isub dX8_value_117 ?_
            refine z_NM (i_X11_set kt_82 (Nat.le_of_ble_eq_true rfl)) ok_X11_set nw_X8_39 ⟨Nat.le_of_ble_eq_true rfl, Nat.le_of_ble_eq_true rfl⟩ ⟨Nat.zero_le _, Nat.zero_le _⟩ rfl rfl (Nat.le_of_ble_eq_true rfl) dX8_value_118 ?_
            refine z_mm (fun μ_4 eμ_4 => ?_)
            replace h := h μ_4 eμ_4
            replace hs : StatR μ_4.2.2 := by rw [eμ_4]; exact (StatR.set hs)
            refine z_goto (tgt := 161) dX8_value_121 (by decide) ?_
            refine z_iinc (j := 7) (lv' := [(6, vi (v6_1 + 1)), (8, vi v8), (7, vi v7), (0, vr Γ r0), (2, vr Γ 81), (3, vr Γ 82), (4, vi v4), (5, vi v5)]) dX8_value_161 rfl (Nat.le_of_ble_eq_true rfl) rfl ?_
            refine z_goto (tgt := 23) dX8_value_164 (by decide) ?_
            refine z_sub (lv' := [(0, vr Γ r0), (2, vr Γ 81), (3, vr Γ 82), (4, vi v4), (5, vi v5), (6, vi (v6_1 + 1))]) [3, 4, 5, 6, 7, 0] rfl ?_
            exact hR_23 v4 (v6_1 + 1) μ_4 hs h
          · refine z_rload_n dX8_value_124 rfl 4 rfl ?_
            refine z_iload dX8_value_125 5 rfl ?_
            refine z_iconst dX8_value_127 ?_
            refine z_isub dX8_value_128 ?_
            refine z_iload dX8_value_129 1 rfl ?_
            refine z_rload_n dX8_value_131 rfl 4 rfl ?_
            refine z_iload dX8_value_132 5 rfl ?_
            refine z_iconst dX8_value_134 ?_
            refine z_isub dX8_value_135 ?_
            refine z_NE (i_X11_at kt_82 (Nat.le_of_ble_eq_true rfl)) ok_X11_at nw_X8_43 ⟨Nat.le_of_ble_eq_true rfl, Nat.le_of_ble_eq_true rfl⟩ ⟨Nat.zero_le _, Nat.zero_le _⟩ rfl rfl (Nat.le_of_ble_eq_true rfl) dX8_value_136 ?_
            refine z_i2l dX8_value_139 ?_
            refine z_rload_n dX8_value_140 rfl 4 rfl ?_
            refine z_iload dX8_value_141 5 rfl ?_
            refine z_iconst dX8_value_143 ?_
            refine z_isub dX8_value_144 ?_
            refine z_NE (i_X11_at kt_82 (Nat.le_of_ble_eq_true rfl)) ok_X11_at nw_X8_43 ⟨Nat.le_of_ble_eq_true rfl, Nat.le_of_ble_eq_true rfl⟩ ⟨Nat.zero_le _, Nat.zero_le _⟩ rfl rfl (Nat.le_of_ble_eq_true rfl) dX8_value_145 ?_
            refine z_i2l dX8_value_148 ?_
            refine z_SL (i_Rules_joined  hs h) sk_X8_joined ml_X8_47 ⟨Nat.le_of_ble_eq_true rfl, Nat.le_of_ble_eq_true rfl⟩ ⟨Nat.zero_le _, Nat.zero_le _⟩ rfl rfl (Nat.le_of_ble_eq_true rfl) dX8_value_149 (fun r149 μ_5 hs h => ?_)
            refine z_SE (i_Rules_bounded ) sk_X8_bounded ml_X8_51 ⟨Nat.le_of_ble_eq_true rfl, Nat.le_of_ble_eq_true rfl⟩ ⟨Nat.zero_le _, Nat.zero_le _⟩ rfl rfl (Nat.le_of_ble_eq_true rfl) dX8_value_152 ?_
            refine z_NM (i_X11_set kt_82 (Nat.le_of_ble_eq_true rfl)) ok_X11_set nw_X8_39 ⟨Nat.le_of_ble_eq_true rfl, Nat.le_of_ble_eq_true rfl⟩ ⟨Nat.zero_le _, Nat.zero_le _⟩ rfl rfl (Nat.le_of_ble_eq_true rfl) dX8_value_155 ?_
            refine z_mm (fun μ_6 eμ_6 => ?_)
            replace h := h μ_6 eμ_6
            replace hs : StatR μ_6.2.2 := by rw [eμ_6]; exact (StatR.set hs)
            refine z_iinc (j := 5) (lv' := [(4, vi (v4 + (-1))), (8, vi v8), (7, vi v7), (0, vr Γ r0), (2, vr Γ 81), (3, vr Γ 82), (5, vi v5), (6, vi v6_1)]) dX8_value_158 rfl (Nat.le_of_ble_eq_true rfl) rfl ?_
            refine z_iinc (j := 7) (lv' := [(6, vi (v6_1 + 1)), (4, vi (v4 + (-1))), (8, vi v8), (7, vi v7), (0, vr Γ r0), (2, vr Γ 81), (3, vr Γ 82), (5, vi v5)]) dX8_value_161 rfl (Nat.le_of_ble_eq_true rfl) rfl ?_
            refine z_goto (tgt := 23) dX8_value_164 (by decide) ?_
            refine z_sub (lv' := [(0, vr Γ r0), (2, vr Γ 81), (3, vr Γ 82), (4, vi (v4 + (-1))), (5, vi v5), (6, vi (v6_1 + 1))]) [4, 5, 6, 1, 7, 0] rfl ?_
            exact hR_23 (v4 + (-1)) (v6_1 + 1) μ_6 hs h
    · refine z_sub (lv' := [(3, vr Γ 82)]) [2] rfl ?_
      exact hX_23_167 μ_1 hs h
theorem i_Rules_value {l : Launch} {Γ : Gam} {g : Nat} {r0 : Nat} {a1 : Int} {μ : Mem} {k : Int → Mem → Prop} (hr_r0 : isRu r0 = true) (hs : StatR μ.2.2) (h : f_Rules_value r0 a1 μ k) : CT l Γ yX8_value cX8_value 9 (some .int) 1 24 0 0 [vr Γ r0, vi a1, vr Γ 81, vr Γ 82] g 174 μ (pI k) := by
  refine SW.ct (by decide) (Nat.le_of_ble_eq_true rfl) ?_
  refine z_sub (lv' := [(0, vr Γ r0), (1, vi a1), (2, vr Γ 81), (3, vr Γ 82)]) [0, 1, 2, 3] rfl ?_
  show SW l Γ yX8_value.cls cX8_value Y_Rules_value (pI k) g 174 0 0 μ 0 [(0, vr Γ r0), (1, vi a1), (2, vr Γ 81), (3, vr Γ 82)] []
  unfold f_Rules_value at h
  refine z_iconst dX8_value_0 ?_
  refine z_istore (lv' := [(4, vi 0), (0, vr Γ r0), (1, vi a1), (2, vr Γ 81), (3, vr Γ 82)]) dX8_value_1 (Nat.le_of_ble_eq_true rfl) rfl ?_
  refine z_rload_n dX8_value_3 rfl 1 rfl ?_
  refine z_getR ff_8_2 dX8_value_4 (ru_k hr_r0) (ru_l hr_r0) fl_X8_18 rfl (ru_s3 hs hr_r0) ?_
  refine z_iload_n dX8_value_7 rfl 2 rfl ?_
  refine z_NE (i_X11_at (ru_k3 hr_r0) (ru_l3 hr_r0)) ok_X11_at nw_X8_43 ⟨Nat.le_of_ble_eq_true rfl, Nat.le_of_ble_eq_true rfl⟩ ⟨Nat.zero_le _, Nat.zero_le _⟩ rfl rfl (Nat.le_of_ble_eq_true rfl) dX8_value_8 ?_
  refine z_nm (fun v5 ev5 => ?_)
  replace h := h v5 ev5
  refine z_istore (lv' := [(5, vi v5), (4, vi 0), (0, vr Γ r0), (1, vi a1), (2, vr Γ 81), (3, vr Γ 82)]) dX8_value_11 (Nat.le_of_ble_eq_true rfl) rfl ?_
  refine z_rload_n dX8_value_13 rfl 2 rfl ?_
  refine z_getR ff_8_1 dX8_value_14 (ru_k hr_r0) (ru_l hr_r0) fl_X8_15 rfl (ru_s2 hs hr_r0) ?_
  refine z_iload_n dX8_value_17 rfl 3 rfl ?_
  refine z_NE (i_X11_at (ru_k2 hr_r0) (ru_l2 hr_r0)) ok_X11_at nw_X8_43 ⟨Nat.le_of_ble_eq_true rfl, Nat.le_of_ble_eq_true rfl⟩ ⟨Nat.zero_le _, Nat.zero_le _⟩ rfl rfl (Nat.le_of_ble_eq_true rfl) dX8_value_18 ?_
  refine z_nm (fun v6 ev6 => ?_)
  replace h := h v6 ev6
  refine z_istore (lv' := [(6, vi v6), (5, vi v5), (4, vi 0), (0, vr Γ r0), (1, vi a1), (2, vr Γ 81), (3, vr Γ 82)]) dX8_value_21 (Nat.le_of_ble_eq_true rfl) rfl ?_
  obtain ⟨m23, h⟩ := h
  refine z_sub (lv' := [(0, vr Γ r0), (2, vr Γ 81), (3, vr Γ 82), (4, vi 0), (5, vi v5), (6, vi v6)]) [3, 5, 6, 2, 1, 0] rfl ?_
  refine L_Rules_value_23 hr_r0 (fun μ_7 hs h => ?_) m23 0 v6 μ hs h
  refine z_rload_n dX8_value_167 rfl 0 rfl ?_
  refine z_iconst dX8_value_168 ?_
  refine z_NE (i_X11_at kt_82 (Nat.le_of_ble_eq_true rfl)) ok_X11_at nw_X8_43 ⟨Nat.le_of_ble_eq_true rfl, Nat.le_of_ble_eq_true rfl⟩ ⟨Nat.zero_le _, Nat.zero_le _⟩ rfl rfl (Nat.le_of_ble_eq_true rfl) dX8_value_169 ?_
  exact z_iret rfl dX8_value_172 rfl rfl rfl ⟨_, rfl, hs, h⟩
abbrev Y_Count_takesLate : Yt := (5, (some .boolean), yX2_takesLate.name, { frames := 2, cells := 0, slots := 0, locals := 52 }, 174, 0, 0)
def f_Count_takesLate (a1 : Nat) (a2 : Int) (a3 : Int) (a4 : Int) (μ : Mem) (k : Bool → Mem → Prop) : Prop := f_Count_paidHeadsOf a2 (rI μ (gid a1 4) 0) μ (fun r11 μ_1 => ∀ μ_2 : Mem, μ_2 = set' μ_1 81 6 0 r11 → ∀ μ_3 : Mem, μ_3 = set' μ_2 81 6 1 a3 → ∀ μ_4 : Mem, μ_4 = set' μ_3 81 6 2 a4 → if (v_Rules_says a1 4 μ_4) = true then (f_Rules_value a1 4 μ_4 (fun r54 μ_5 => ∀ x65 : Bool, x65 = (if w r54 = 0 then false else true) → k x65 μ_5)) else (k false μ_4))
theorem i_Count_takesLate {l : Launch} {Γ : Gam} {g : Nat} {a1 : Nat} {a2 : Int} {a3 : Int} {a4 : Int} {μ : Mem} {k : Bool → Mem → Prop} (hr_a1 : isRu a1 = true) (hs : StatR μ.2.2) (h : f_Count_takesLate a1 a2 a3 a4 μ k) : CT l Γ yX2_takesLate cX2_takesLate 5 (some .boolean) 2 52 0 0 [vr Γ 73, vr Γ a1, vi a2, vi a3, vi a4] g 174 μ (pB k) := by
  refine SW.ct (by decide) (Nat.le_of_ble_eq_true rfl) ?_
  refine z_sub (lv' := [(0, vr Γ 73), (1, vr Γ a1), (2, vi a2), (3, vi a3), (4, vi a4)]) [0, 1, 2, 3, 4] rfl ?_
  show SW l Γ yX2_takesLate.cls cX2_takesLate Y_Count_takesLate (pB k) g 174 0 0 μ 0 [(0, vr Γ 73), (1, vr Γ a1), (2, vi a2), (3, vi a3), (4, vi a4)] []
  unfold f_Count_takesLate at h
  refine z_rload_n dX2_takesLate_0 rfl 0 rfl ?_
  refine z_getR (q := 10352) ff_2_8 dX2_takesLate_1 kt_73 (Nat.le_of_ble_eq_true rfl) fl_X2_34 rfl (hs.1 _ _ sr_10352) ?_
  refine z_iconst dX2_takesLate_4 ?_
  refine z_rload_n dX2_takesLate_5 rfl 0 rfl ?_
  refine z_iload_n dX2_takesLate_6 rfl 2 rfl ?_
  refine z_rload_n dX2_takesLate_7 rfl 1 rfl ?_
  refine z_getI (q := (gid a1 4)) ff_8_4 dX2_takesLate_8 (ru_k hr_a1) (ru_l hr_a1) fl_X2_108 rfl ?_
  refine z_VI (i_Count_paidHeadsOf  hs h) vk_X2_paidHeadsOf kt_73 (Nat.le_of_ble_eq_true rfl) rfl ml_X2_111 ⟨Nat.le_of_ble_eq_true rfl, Nat.le_of_ble_eq_true rfl⟩ ⟨Nat.zero_le _, Nat.zero_le _⟩ rfl rfl (Nat.le_of_ble_eq_true rfl) dX2_takesLate_11 (fun r11 μ_1 hs h => ?_)
  refine z_NM (i_X11_set kt_81 (Nat.le_of_ble_eq_true rfl)) ok_X11_set nw_X2_74 ⟨Nat.le_of_ble_eq_true rfl, Nat.le_of_ble_eq_true rfl⟩ ⟨Nat.zero_le _, Nat.zero_le _⟩ rfl rfl (Nat.le_of_ble_eq_true rfl) dX2_takesLate_14 ?_
  refine z_mm (fun μ_2 eμ_2 => ?_)
  replace h := h μ_2 eμ_2
  replace hs : StatR μ_2.2.2 := by rw [eμ_2]; exact (StatR.set hs)
  refine z_rload_n dX2_takesLate_17 rfl 0 rfl ?_
  refine z_getR (q := 10352) ff_2_8 dX2_takesLate_18 kt_73 (Nat.le_of_ble_eq_true rfl) fl_X2_34 rfl (hs.1 _ _ sr_10352) ?_
  refine z_iconst dX2_takesLate_21 ?_
  refine z_iload_n dX2_takesLate_22 rfl 3 rfl ?_
  refine z_NM (i_X11_set kt_81 (Nat.le_of_ble_eq_true rfl)) ok_X11_set nw_X2_74 ⟨Nat.le_of_ble_eq_true rfl, Nat.le_of_ble_eq_true rfl⟩ ⟨Nat.zero_le _, Nat.zero_le _⟩ rfl rfl (Nat.le_of_ble_eq_true rfl) dX2_takesLate_23 ?_
  refine z_mm (fun μ_3 eμ_3 => ?_)
  replace h := h μ_3 eμ_3
  replace hs : StatR μ_3.2.2 := by rw [eμ_3]; exact (StatR.set hs)
  refine z_rload_n dX2_takesLate_26 rfl 0 rfl ?_
  refine z_getR (q := 10352) ff_2_8 dX2_takesLate_27 kt_73 (Nat.le_of_ble_eq_true rfl) fl_X2_34 rfl (hs.1 _ _ sr_10352) ?_
  refine z_iconst dX2_takesLate_30 ?_
  refine z_iload dX2_takesLate_31 4 rfl ?_
  refine z_NM (i_X11_set kt_81 (Nat.le_of_ble_eq_true rfl)) ok_X11_set nw_X2_74 ⟨Nat.le_of_ble_eq_true rfl, Nat.le_of_ble_eq_true rfl⟩ ⟨Nat.zero_le _, Nat.zero_le _⟩ rfl rfl (Nat.le_of_ble_eq_true rfl) dX2_takesLate_33 ?_
  refine z_mm (fun μ_4 eμ_4 => ?_)
  replace h := h μ_4 eμ_4
  replace hs : StatR μ_4.2.2 := by rw [eμ_4]; exact (StatR.set hs)
  refine z_rload_n dX2_takesLate_36 rfl 1 rfl ?_
  refine z_iconst dX2_takesLate_37 ?_
  refine z_VE (i_Rules_says hr_a1 hs) vk_X8_says (ru_k hr_a1) (ru_l hr_a1) rfl ml_X2_114 ⟨Nat.le_of_ble_eq_true rfl, Nat.le_of_ble_eq_true rfl⟩ ⟨Nat.zero_le _, Nat.zero_le _⟩ rfl rfl (Nat.le_of_ble_eq_true rfl) dX2_takesLate_38 ?_
  refine z_ifeq_b (tgt := 64) dX2_takesLate_41 (by decide) h (fun h => ?_) (fun h => ?_)
  · refine z_rload_n dX2_takesLate_44 rfl 1 rfl ?_
    refine z_iconst dX2_takesLate_45 ?_
    refine z_rload_n dX2_takesLate_46 rfl 0 rfl ?_
    refine z_getR (q := 10352) ff_2_8 dX2_takesLate_47 kt_73 (Nat.le_of_ble_eq_true rfl) fl_X2_34 rfl (hs.1 _ _ sr_10352) ?_
    refine z_rload_n dX2_takesLate_50 rfl 0 rfl ?_
    refine z_getR (q := 10353) ff_2_9 dX2_takesLate_51 kt_73 (Nat.le_of_ble_eq_true rfl) fl_X2_39 rfl (hs.1 _ _ sr_10353) ?_
    refine z_VI (i_Rules_value hr_a1 hs h) vk_X8_value (ru_k hr_a1) (ru_l hr_a1) rfl ml_X2_127 ⟨Nat.le_of_ble_eq_true rfl, Nat.le_of_ble_eq_true rfl⟩ ⟨Nat.zero_le _, Nat.zero_le _⟩ rfl rfl (Nat.le_of_ble_eq_true rfl) dX2_takesLate_54 (fun r54 μ_5 hs h => ?_)
    refine z_phiB 65 [] (fun V9 hv J9 => ?_) h (fun x65 h => ?_)
    · refine z_if_eq (tgt := 64) dX2_takesLate_57 (by decide) (eq_ite hv) (fun hv => ?_) (fun hv => ?_)
      · refine z_iconst dX2_takesLate_64 ?_
        exact J9 false hv.symm
      · refine z_iconst dX2_takesLate_60 ?_
        refine z_goto (tgt := 65) dX2_takesLate_61 (by decide) ?_
        exact J9 true hv.symm
    · exact z_zret (b := x65) rfl dX2_takesLate_65 rfl rfl rfl ⟨_, rfl, hs, h⟩
  · refine z_iconst dX2_takesLate_64 ?_
    exact z_zret (b := false) rfl dX2_takesLate_65 rfl rfl rfl ⟨_, rfl, hs, h⟩
abbrev Y_H_isTakenLate : Yt := (3, (some .boolean), yX11_isTakenLate.name, { frames := 4, cells := 0, slots := 0, locals := 89 }, 174, 0, 0)
def f_H_isTakenLate (a1 : Int) (a2 : Int) (μ : Mem) (k : Bool → Mem → Prop) : Prop := f_Count_take (-1) (rI μ 1139 0) μ (fun μ_1 => f_Papers_inForce (rI μ_1 9584 0) μ_1 (fun r30 μ_2 => isRu r30 = true ∧ f_Count_takesLate r30 a1 a2 (rI μ_2 1139 0) μ_2 (fun r42 μ_3 => k r42 μ_3)))
theorem i_H_isTakenLate {l : Launch} {Γ : Gam} {g : Nat} {a1 : Int} {a2 : Int} {μ : Mem} {k : Bool → Mem → Prop} (hs : StatR μ.2.2) (h : f_H_isTakenLate a1 a2 μ k) : CT l Γ yX11_isTakenLate cX11_isTakenLate 3 (some .boolean) 4 89 0 0 [vr Γ 0, vi a1, vi a2] g 174 μ (pB k) := by
  refine SW.ct (by decide) (Nat.le_of_ble_eq_true rfl) ?_
  refine z_sub (lv' := [(0, vr Γ 0), (1, vi a1), (2, vi a2)]) [0, 1, 2] rfl ?_
  show SW l Γ yX11_isTakenLate.cls cX11_isTakenLate Y_H_isTakenLate (pB k) g 174 0 0 μ 0 [(0, vr Γ 0), (1, vi a1), (2, vi a2)] []
  unfold f_H_isTakenLate at h
  refine z_rload_n dX11_isTakenLate_0 rfl 0 rfl ?_
  refine z_getR (q := 1006) ff_11_6 dX11_isTakenLate_1 kt_0 (Nat.le_of_ble_eq_true rfl) fl_X11_66 rfl (hs.1 _ _ sr_1006) ?_
  refine z_iconst dX11_isTakenLate_4 ?_
  refine z_rload_n dX11_isTakenLate_5 rfl 0 rfl ?_
  refine z_getR (q := 1000) ff_11_0 dX11_isTakenLate_6 kt_0 (Nat.le_of_ble_eq_true rfl) fl_X11_12 rfl (hs.1 _ _ sr_1000) ?_
  refine z_getI (q := 1139) ff_7_11 dX11_isTakenLate_9 kt_1 (Nat.le_of_ble_eq_true rfl) fl_X11_139 rfl ?_
  refine z_VU (i_Count_take  hs h) vk_X2_take kt_73 (Nat.le_of_ble_eq_true rfl) rfl ml_X11_142 ⟨Nat.le_of_ble_eq_true rfl, Nat.le_of_ble_eq_true rfl⟩ ⟨Nat.zero_le _, Nat.zero_le _⟩ rfl rfl (Nat.le_of_ble_eq_true rfl) dX11_isTakenLate_12 (fun μ_1 hs h => ?_)
  refine z_rload_n dX11_isTakenLate_15 rfl 0 rfl ?_
  refine z_getR (q := 1006) ff_11_6 dX11_isTakenLate_16 kt_0 (Nat.le_of_ble_eq_true rfl) fl_X11_66 rfl (hs.1 _ _ sr_1006) ?_
  refine z_rload_n dX11_isTakenLate_19 rfl 0 rfl ?_
  refine z_getR (q := 1004) ff_11_4 dX11_isTakenLate_20 kt_0 (Nat.le_of_ble_eq_true rfl) fl_X11_26 rfl (hs.1 _ _ sr_1004) ?_
  refine z_rload_n dX11_isTakenLate_23 rfl 0 rfl ?_
  refine z_getR (q := 1005) ff_11_5 dX11_isTakenLate_24 kt_0 (Nat.le_of_ble_eq_true rfl) fl_X11_57 rfl (hs.1 _ _ sr_1005) ?_
  refine z_getI (q := 9584) ff_3_8 dX11_isTakenLate_27 kt_67 (Nat.le_of_ble_eq_true rfl) fl_X11_125 rfl ?_
  refine z_VA (i_Papers_inForce  hs h) vk_X6_inForce kt_12 (Nat.le_of_ble_eq_true rfl) rfl ml_X11_129 ⟨Nat.le_of_ble_eq_true rfl, Nat.le_of_ble_eq_true rfl⟩ ⟨Nat.zero_le _, Nat.zero_le _⟩ rfl rfl (Nat.le_of_ble_eq_true rfl) dX11_isTakenLate_30 (fun r30 μ_2 hs h => ?_)
  obtain ⟨hr_r30, h⟩ := h
  refine z_iload_n dX11_isTakenLate_33 rfl 1 rfl ?_
  refine z_iload_n dX11_isTakenLate_34 rfl 2 rfl ?_
  refine z_rload_n dX11_isTakenLate_35 rfl 0 rfl ?_
  refine z_getR (q := 1000) ff_11_0 dX11_isTakenLate_36 kt_0 (Nat.le_of_ble_eq_true rfl) fl_X11_12 rfl (hs.1 _ _ sr_1000) ?_
  refine z_getI (q := 1139) ff_7_11 dX11_isTakenLate_39 kt_1 (Nat.le_of_ble_eq_true rfl) fl_X11_139 rfl ?_
  refine z_VB (i_Count_takesLate hr_r30 hs h) vk_X2_takesLate kt_73 (Nat.le_of_ble_eq_true rfl) rfl ml_X11_218 ⟨Nat.le_of_ble_eq_true rfl, Nat.le_of_ble_eq_true rfl⟩ ⟨Nat.zero_le _, Nat.zero_le _⟩ rfl rfl (Nat.le_of_ble_eq_true rfl) dX11_isTakenLate_42 (fun r42 μ_3 hs h => ?_)
  exact z_zret (b := r42) rfl dX11_isTakenLate_45 rfl rfl rfl ⟨_, rfl, hs, h⟩
abbrev Y_Floor_addLine : Yt := (6, none, yX3_addLine.name, { frames := 1, cells := 0, slots := 0, locals := 22 }, 174, 0, 0)
def f_Floor_addLine (a1 : Int) (a2 : Int) (a3 : Int) (a4 : Int) (μ : Mem) (k : Mem → Prop) : Prop := ∀ v5 : Int, v5 = at' μ 69 25 a1 → if w v5 < w 12 then (∀ μ_1 : Mem, μ_1 = set' μ 70 300 ((a1 * 12) + v5) a2 → ∀ μ_2 : Mem, μ_2 = set' μ_1 71 300 ((a1 * 12) + v5) a3 → ∀ μ_3 : Mem, μ_3 = set' μ_2 72 300 ((a1 * 12) + v5) a4 → ∀ μ_4 : Mem, μ_4 = set' μ_3 69 25 a1 (v5 + 1) → k μ_4) else (k μ)
theorem i_Floor_addLine {l : Launch} {Γ : Gam} {g : Nat} {a1 : Int} {a2 : Int} {a3 : Int} {a4 : Int} {μ : Mem} {k : Mem → Prop} (hs : StatR μ.2.2) (h : f_Floor_addLine a1 a2 a3 a4 μ k) : CT l Γ yX3_addLine cX3_addLine 6 none 1 22 0 0 [vr Γ 67, vi a1, vi a2, vi a3, vi a4] g 174 μ (pV k) := by
  refine SW.ct (by decide) (Nat.le_of_ble_eq_true rfl) ?_
  refine z_sub (lv' := [(0, vr Γ 67), (1, vi a1), (2, vi a2), (3, vi a3), (4, vi a4)]) [0, 1, 2, 3, 4] rfl ?_
  show SW l Γ yX3_addLine.cls cX3_addLine Y_Floor_addLine (pV k) g 174 0 0 μ 0 [(0, vr Γ 67), (1, vi a1), (2, vi a2), (3, vi a3), (4, vi a4)] []
  unfold f_Floor_addLine at h
  refine z_rload_n dX3_addLine_0 rfl 0 rfl ?_
  refine z_getR (q := 9578) ff_3_2 dX3_addLine_1 kt_67 (Nat.le_of_ble_eq_true rfl) fl_X3_15 rfl (hs.1 _ _ sr_9578) ?_
  refine z_iload_n dX3_addLine_4 rfl 1 rfl ?_
  refine z_NE (i_X11_at kt_69 (Nat.le_of_ble_eq_true rfl)) ok_X11_at nw_X3_54 ⟨Nat.le_of_ble_eq_true rfl, Nat.le_of_ble_eq_true rfl⟩ ⟨Nat.zero_le _, Nat.zero_le _⟩ rfl rfl (Nat.le_of_ble_eq_true rfl) dX3_addLine_5 ?_
  refine z_nm (fun v5 ev5 => ?_)
  replace h := h v5 ev5
  refine z_istore (lv' := [(5, vi v5), (0, vr Γ 67), (1, vi a1), (2, vi a2), (3, vi a3), (4, vi a4)]) dX3_addLine_8 (Nat.le_of_ble_eq_true rfl) rfl ?_
  refine z_iload dX3_addLine_10 0 rfl ?_
  refine z_bipush dX3_addLine_12 (by decide) ?_
  refine z_icmp_ge (tgt := 75) dX3_addLine_14 (by decide) h (fun h => ?_) (fun h => ?_)
  · refine z_rload_n dX3_addLine_17 rfl 1 rfl ?_
    refine z_getR (q := 9579) ff_3_3 dX3_addLine_18 kt_67 (Nat.le_of_ble_eq_true rfl) fl_X3_18 rfl (hs.1 _ _ sr_9579) ?_
    refine z_iload_n dX3_addLine_21 rfl 2 rfl ?_
    refine z_bipush dX3_addLine_22 (by decide) ?_
    refine z_imul dX3_addLine_24 ?_
    refine z_iload dX3_addLine_25 0 rfl ?_
    refine z_iadd dX3_addLine_27 ?_
    refine z_iload_n dX3_addLine_28 rfl 3 rfl ?_
    refine z_NM (i_X11_set kt_70 (Nat.le_of_ble_eq_true rfl)) ok_X11_set nw_X3_58 ⟨Nat.le_of_ble_eq_true rfl, Nat.le_of_ble_eq_true rfl⟩ ⟨Nat.zero_le _, Nat.zero_le _⟩ rfl rfl (Nat.le_of_ble_eq_true rfl) dX3_addLine_29 ?_
    refine z_mm (fun μ_1 eμ_1 => ?_)
    replace h := h μ_1 eμ_1
    replace hs : StatR μ_1.2.2 := by rw [eμ_1]; exact (StatR.set hs)
    refine z_rload_n dX3_addLine_32 rfl 1 rfl ?_
    refine z_getR (q := 9580) ff_3_4 dX3_addLine_33 kt_67 (Nat.le_of_ble_eq_true rfl) fl_X3_21 rfl (hs.1 _ _ sr_9580) ?_
    refine z_iload_n dX3_addLine_36 rfl 2 rfl ?_
    refine z_bipush dX3_addLine_37 (by decide) ?_
    refine z_imul dX3_addLine_39 ?_
    refine z_iload dX3_addLine_40 0 rfl ?_
    refine z_iadd dX3_addLine_42 ?_
    refine z_iload_n dX3_addLine_43 rfl 4 rfl ?_
    refine z_NM (i_X11_set kt_71 (Nat.le_of_ble_eq_true rfl)) ok_X11_set nw_X3_58 ⟨Nat.le_of_ble_eq_true rfl, Nat.le_of_ble_eq_true rfl⟩ ⟨Nat.zero_le _, Nat.zero_le _⟩ rfl rfl (Nat.le_of_ble_eq_true rfl) dX3_addLine_44 ?_
    refine z_mm (fun μ_2 eμ_2 => ?_)
    replace h := h μ_2 eμ_2
    replace hs : StatR μ_2.2.2 := by rw [eμ_2]; exact (StatR.set hs)
    refine z_rload_n dX3_addLine_47 rfl 1 rfl ?_
    refine z_getR (q := 9581) ff_3_5 dX3_addLine_48 kt_67 (Nat.le_of_ble_eq_true rfl) fl_X3_24 rfl (hs.1 _ _ sr_9581) ?_
    refine z_iload_n dX3_addLine_51 rfl 2 rfl ?_
    refine z_bipush dX3_addLine_52 (by decide) ?_
    refine z_imul dX3_addLine_54 ?_
    refine z_iload dX3_addLine_55 0 rfl ?_
    refine z_iadd dX3_addLine_57 ?_
    refine z_iload dX3_addLine_58 5 rfl ?_
    refine z_NM (i_X11_set kt_72 (Nat.le_of_ble_eq_true rfl)) ok_X11_set nw_X3_58 ⟨Nat.le_of_ble_eq_true rfl, Nat.le_of_ble_eq_true rfl⟩ ⟨Nat.zero_le _, Nat.zero_le _⟩ rfl rfl (Nat.le_of_ble_eq_true rfl) dX3_addLine_60 ?_
    refine z_mm (fun μ_3 eμ_3 => ?_)
    replace h := h μ_3 eμ_3
    replace hs : StatR μ_3.2.2 := by rw [eμ_3]; exact (StatR.set hs)
    refine z_rload_n dX3_addLine_63 rfl 1 rfl ?_
    refine z_getR (q := 9578) ff_3_2 dX3_addLine_64 kt_67 (Nat.le_of_ble_eq_true rfl) fl_X3_15 rfl (hs.1 _ _ sr_9578) ?_
    refine z_iload_n dX3_addLine_67 rfl 2 rfl ?_
    refine z_iload dX3_addLine_68 0 rfl ?_
    refine z_iconst dX3_addLine_70 ?_
    refine z_iadd dX3_addLine_71 ?_
    refine z_NM (i_X11_set kt_69 (Nat.le_of_ble_eq_true rfl)) ok_X11_set nw_X3_58 ⟨Nat.le_of_ble_eq_true rfl, Nat.le_of_ble_eq_true rfl⟩ ⟨Nat.zero_le _, Nat.zero_le _⟩ rfl rfl (Nat.le_of_ble_eq_true rfl) dX3_addLine_72 ?_
    refine z_mm (fun μ_4 eμ_4 => ?_)
    replace h := h μ_4 eμ_4
    replace hs : StatR μ_4.2.2 := by rw [eμ_4]; exact (StatR.set hs)
    exact z_vret rfl dX3_addLine_75 rfl rfl rfl ⟨rfl, hs, h⟩
  · exact z_vret rfl dX3_addLine_75 rfl rfl rfl ⟨rfl, hs, h⟩
abbrev Y_LineR_keep : Yt := (3, none, yX4_keep.name, { frames := 1, cells := 0, slots := 0, locals := 22 }, 174, 0, 0)
def f_LineR_keep (a1 : Int) (a2 : Int) (μ : Mem) (k : Mem → Prop) : Prop := if w (rI μ 9195 0) < w 12 then (∀ μ_1 : Mem, μ_1 = set' μ 65 12 (rI μ 9195 0) a1 → ∀ μ_2 : Mem, μ_2 = set' μ_1 66 12 (rI μ_1 9195 0) a2 → ∀ μ_3 : Mem, μ_3 = sI μ_2 9195 0 ((rI μ_2 9195 0) + 1) → k μ_3) else (k μ)
theorem i_LineR_keep {l : Launch} {Γ : Gam} {g : Nat} {a1 : Int} {a2 : Int} {μ : Mem} {k : Mem → Prop} (hs : StatR μ.2.2) (h : f_LineR_keep a1 a2 μ k) : CT l Γ yX4_keep cX4_keep 3 none 1 22 0 0 [vr Γ 64, vi a1, vi a2] g 174 μ (pV k) := by
  refine SW.ct (by decide) (Nat.le_of_ble_eq_true rfl) ?_
  refine z_sub (lv' := [(0, vr Γ 64), (1, vi a1), (2, vi a2)]) [0, 1, 2] rfl ?_
  show SW l Γ yX4_keep.cls cX4_keep Y_LineR_keep (pV k) g 174 0 0 μ 0 [(0, vr Γ 64), (1, vi a1), (2, vi a2)] []
  unfold f_LineR_keep at h
  refine z_rload_n dX4_keep_0 rfl 0 rfl ?_
  refine z_getI (q := 9195) ff_4_3 dX4_keep_1 kt_64 (Nat.le_of_ble_eq_true rfl) fl_X4_22 rfl ?_
  refine z_bipush dX4_keep_4 (by decide) ?_
  refine z_icmp_ge (tgt := 43) dX4_keep_6 (by decide) h (fun h => ?_) (fun h => ?_)
  · refine z_rload_n dX4_keep_9 rfl 0 rfl ?_
    refine z_getR (q := 9193) ff_4_1 dX4_keep_10 kt_64 (Nat.le_of_ble_eq_true rfl) fl_X4_9 rfl (hs.1 _ _ sr_9193) ?_
    refine z_rload_n dX4_keep_13 rfl 0 rfl ?_
    refine z_getI (q := 9195) ff_4_3 dX4_keep_14 kt_64 (Nat.le_of_ble_eq_true rfl) fl_X4_22 rfl ?_
    refine z_iload_n dX4_keep_17 rfl 1 rfl ?_
    refine z_NM (i_X11_set kt_65 (Nat.le_of_ble_eq_true rfl)) ok_X11_set nw_X4_80 ⟨Nat.le_of_ble_eq_true rfl, Nat.le_of_ble_eq_true rfl⟩ ⟨Nat.zero_le _, Nat.zero_le _⟩ rfl rfl (Nat.le_of_ble_eq_true rfl) dX4_keep_18 ?_
    refine z_mm (fun μ_1 eμ_1 => ?_)
    replace h := h μ_1 eμ_1
    replace hs : StatR μ_1.2.2 := by rw [eμ_1]; exact (StatR.set hs)
    refine z_rload_n dX4_keep_21 rfl 0 rfl ?_
    refine z_getR (q := 9194) ff_4_2 dX4_keep_22 kt_64 (Nat.le_of_ble_eq_true rfl) fl_X4_15 rfl (hs.1 _ _ sr_9194) ?_
    refine z_rload_n dX4_keep_25 rfl 0 rfl ?_
    refine z_getI (q := 9195) ff_4_3 dX4_keep_26 kt_64 (Nat.le_of_ble_eq_true rfl) fl_X4_22 rfl ?_
    refine z_iload_n dX4_keep_29 rfl 2 rfl ?_
    refine z_NM (i_X11_set kt_66 (Nat.le_of_ble_eq_true rfl)) ok_X11_set nw_X4_80 ⟨Nat.le_of_ble_eq_true rfl, Nat.le_of_ble_eq_true rfl⟩ ⟨Nat.zero_le _, Nat.zero_le _⟩ rfl rfl (Nat.le_of_ble_eq_true rfl) dX4_keep_30 ?_
    refine z_mm (fun μ_2 eμ_2 => ?_)
    replace h := h μ_2 eμ_2
    replace hs : StatR μ_2.2.2 := by rw [eμ_2]; exact (StatR.set hs)
    refine z_rload_n dX4_keep_33 rfl 0 rfl ?_
    refine z_dup dX4_keep_34 rfl ?_
    refine z_getI (q := 9195) ff_4_3 dX4_keep_35 kt_64 (Nat.le_of_ble_eq_true rfl) fl_X4_22 rfl ?_
    refine z_iconst dX4_keep_38 ?_
    refine z_iadd dX4_keep_39 ?_
    refine z_putI (q := 9195) ff_4_3 (Or.inl rfl) rfl dX4_keep_40 kt_64 (Nat.le_of_ble_eq_true rfl) fl_X4_22 rfl ?_
    refine z_mm (fun μ_3 eμ_3 => ?_)
    replace h := h μ_3 eμ_3
    replace hs : StatR μ_3.2.2 := by rw [eμ_3]; exact hs
    exact z_vret rfl dX4_keep_43 rfl rfl rfl ⟨rfl, hs, h⟩
  · exact z_vret rfl dX4_keep_43 rfl rfl rfl ⟨rfl, hs, h⟩
abbrev Y_LineR_takeWord : Yt := (3, (some .boolean), yX4_takeWord.name, { frames := 6, cells := 0, slots := 0, locals := 144 }, 174, 0, 0)
def f_LineR_takeWord (a1 : Nat) (μ : Mem) (k : Bool → Mem → Prop) : Prop := f_Tape_isWord a1 μ (fun r5 μ_1 => if r5 = true then (f_Tape_next  μ_1 (fun μ_2 => k r5 μ_2)) else (k r5 μ_1))
theorem i_LineR_takeWord {l : Launch} {Γ : Gam} {g : Nat} {a1 : Nat} {μ : Mem} {k : Bool → Mem → Prop} (hq_a1 : a1 < 30) (hs : StatR μ.2.2) (h : f_LineR_takeWord a1 μ k) : CT l Γ yX4_takeWord cX4_takeWord 3 (some .boolean) 6 144 0 0 [vr Γ 64, .ref (Γ.2.2.2.2.1 a1)] g 174 μ (pB k) := by
  refine SW.ct (by decide) (Nat.le_of_ble_eq_true rfl) ?_
  refine z_sub (lv' := [(0, vr Γ 64), (1, .ref (Γ.2.2.2.2.1 a1))]) [0, 1] rfl ?_
  show SW l Γ yX4_takeWord.cls cX4_takeWord Y_LineR_takeWord (pB k) g 174 0 0 μ 0 [(0, vr Γ 64), (1, .ref (Γ.2.2.2.2.1 a1))] []
  unfold f_LineR_takeWord at h
  refine z_rload_n dX4_takeWord_0 rfl 0 rfl ?_
  refine z_getR (q := 9192) ff_4_0 dX4_takeWord_1 kt_64 (Nat.le_of_ble_eq_true rfl) fl_X4_18 rfl (hs.1 _ _ sr_9192) ?_
  refine z_aload_n dX4_takeWord_4 rfl 1 rfl ?_
  refine z_VB (i_Tape_isWord hq_a1 hs h) vk_X9_isWord kt_10 (Nat.le_of_ble_eq_true rfl) rfl ml_X4_37 ⟨Nat.le_of_ble_eq_true rfl, Nat.le_of_ble_eq_true rfl⟩ ⟨Nat.zero_le _, Nat.zero_le _⟩ rfl rfl (Nat.le_of_ble_eq_true rfl) dX4_takeWord_5 (fun r5 μ_1 hs h => ?_)
  refine z_istore_n (lv' := [(2, vi (b2i r5)), (0, vr Γ 64), (1, .ref (Γ.2.2.2.2.1 a1))]) dX4_takeWord_8 rfl (Nat.le_of_ble_eq_true rfl) rfl ?_
  refine z_iload_n dX4_takeWord_9 rfl 0 rfl ?_
  refine z_ifeq_b (tgt := 20) dX4_takeWord_10 (by decide) h (fun h => ?_) (fun h => ?_)
  · refine z_rload_n dX4_takeWord_13 rfl 1 rfl ?_
    refine z_getR (q := 9192) ff_4_0 dX4_takeWord_14 kt_64 (Nat.le_of_ble_eq_true rfl) fl_X4_18 rfl (hs.1 _ _ sr_9192) ?_
    refine z_VU (i_Tape_next  hs h) vk_X9_next kt_10 (Nat.le_of_ble_eq_true rfl) rfl ml_X4_49 ⟨Nat.le_of_ble_eq_true rfl, Nat.le_of_ble_eq_true rfl⟩ ⟨Nat.zero_le _, Nat.zero_le _⟩ rfl rfl (Nat.le_of_ble_eq_true rfl) dX4_takeWord_17 (fun μ_2 hs h => ?_)
    refine z_iload_n dX4_takeWord_20 rfl 0 rfl ?_
    exact z_zret (b := r5) rfl dX4_takeWord_21 rfl rfl rfl ⟨_, rfl, hs, h⟩
  · refine z_iload_n dX4_takeWord_20 rfl 0 rfl ?_
    exact z_zret (b := r5) rfl dX4_takeWord_21 rfl rfl rfl ⟨_, rfl, hs, h⟩
abbrev Y_LineR_readLine : Yt := (6, (some .int), yX4_readLine.name, { frames := 7, cells := 0, slots := 0, locals := 166 }, 174, 0, 0)
def f_LineR_readLine (a1 : Int64) (μ : Mem) (k : Int → Mem → Prop) : Prop := f_Tape_next  μ (fun μ_1 => f_LineR_takeWord 10 μ_1 (fun r10 μ_2 => f_Tape_takeN 60 a1 μ_2 (fun r21 μ_3 => if w r21 = 0 then (k 0 μ_3) else (f_LineR_takeWord 25 μ_3 (fun r36 μ_4 => ∀ x47 : Int, x47 = (if r36 = true then 1 else 0) → ∀ x62 : Int, x62 = (if r10 = true then (-r21) else r21) → f_LineR_keep x62 x47 μ_4 (fun μ_5 => f_Tape_skipSign 59 μ_5 (fun r73 μ_6 => ∀ x85 : Int, x85 = (if r73 = true then r21 else 0) → k x85 μ_6)))))))
theorem i_LineR_readLine {l : Launch} {Γ : Gam} {g : Nat} {a1 : Int64} {μ : Mem} {k : Int → Mem → Prop} (hs : StatR μ.2.2) (h : f_LineR_readLine a1 μ k) : CT l Γ yX4_readLine cX4_readLine 6 (some .int) 7 166 0 0 [vr Γ 64, vl a1] g 174 μ (pI k) := by
  refine SW.ct (by decide) (Nat.le_of_ble_eq_true rfl) ?_
  refine z_sub (lv' := [(0, vr Γ 64), (1, vl a1)]) [0, 1] rfl ?_
  show SW l Γ yX4_readLine.cls cX4_readLine Y_LineR_readLine (pI k) g 174 0 0 μ 0 [(0, vr Γ 64), (1, vl a1)] []
  unfold f_LineR_readLine at h
  refine z_rload_n dX4_readLine_0 rfl 0 rfl ?_
  refine z_getR (q := 9192) ff_4_0 dX4_readLine_1 kt_64 (Nat.le_of_ble_eq_true rfl) fl_X4_18 rfl (hs.1 _ _ sr_9192) ?_
  refine z_VU (i_Tape_next  hs h) vk_X9_next kt_10 (Nat.le_of_ble_eq_true rfl) rfl ml_X4_49 ⟨Nat.le_of_ble_eq_true rfl, Nat.le_of_ble_eq_true rfl⟩ ⟨Nat.zero_le _, Nat.zero_le _⟩ rfl rfl (Nat.le_of_ble_eq_true rfl) dX4_readLine_4 (fun μ_1 hs h => ?_)
  refine z_rload_n dX4_readLine_7 rfl 0 rfl ?_
  refine z_ldcS dX4_readLine_8 st_X4_52 ?_
  refine z_VB (i_LineR_takeWord (Nat.le_of_ble_eq_true rfl) hs h) vk_X4_takeWord kt_64 (Nat.le_of_ble_eq_true rfl) rfl ml_X4_54 ⟨Nat.le_of_ble_eq_true rfl, Nat.le_of_ble_eq_true rfl⟩ ⟨Nat.zero_le _, Nat.zero_le _⟩ rfl rfl (Nat.le_of_ble_eq_true rfl) dX4_readLine_10 (fun r10 μ_2 hs h => ?_)
  refine z_istore_n (lv' := [(3, vi (b2i r10)), (0, vr Γ 64), (1, vl a1)]) dX4_readLine_13 rfl (Nat.le_of_ble_eq_true rfl) rfl ?_
  refine z_rload_n dX4_readLine_14 rfl 1 rfl ?_
  refine z_getR (q := 9192) ff_4_0 dX4_readLine_15 kt_64 (Nat.le_of_ble_eq_true rfl) fl_X4_18 rfl (hs.1 _ _ sr_9192) ?_
  refine z_bipush dX4_readLine_18 (by decide) ?_
  refine z_lload_n dX4_readLine_20 rfl 2 rfl ?_
  refine z_VI (i_Tape_takeN  hs h) vk_X9_takeN kt_10 (Nat.le_of_ble_eq_true rfl) rfl ml_X4_57 ⟨Nat.le_of_ble_eq_true rfl, Nat.le_of_ble_eq_true rfl⟩ ⟨Nat.zero_le _, Nat.zero_le _⟩ rfl rfl (Nat.le_of_ble_eq_true rfl) dX4_readLine_21 (fun r21 μ_3 hs h => ?_)
  refine z_istore (lv' := [(4, vi r21), (3, vi (b2i r10)), (0, vr Γ 64), (1, vl a1)]) dX4_readLine_24 (Nat.le_of_ble_eq_true rfl) rfl ?_
  refine z_iload dX4_readLine_26 0 rfl ?_
  refine z_if_ne (tgt := 33) dX4_readLine_28 (by decide) h (fun h => ?_) (fun h => ?_)
  · refine z_iconst dX4_readLine_31 ?_
    exact z_iret rfl dX4_readLine_32 rfl rfl rfl ⟨_, rfl, hs, h⟩
  · refine z_rload_n dX4_readLine_33 rfl 2 rfl ?_
    refine z_ldcS dX4_readLine_34 st_X4_61 ?_
    refine z_VB (i_LineR_takeWord (Nat.le_of_ble_eq_true rfl) hs h) vk_X4_takeWord kt_64 (Nat.le_of_ble_eq_true rfl) rfl ml_X4_54 ⟨Nat.le_of_ble_eq_true rfl, Nat.le_of_ble_eq_true rfl⟩ ⟨Nat.zero_le _, Nat.zero_le _⟩ rfl rfl (Nat.le_of_ble_eq_true rfl) dX4_readLine_36 (fun r36 μ_4 hs h => ?_)
    refine z_phi 47 [] (fun V9 hv J9 => ?_) h (fun x47 h => ?_)
    · refine z_ifeq_b (tgt := 46) dX4_readLine_39 (by decide) (eq_ite hv) (fun hv => ?_) (fun hv => ?_)
      · refine z_iconst dX4_readLine_42 ?_
        refine z_goto (tgt := 47) dX4_readLine_43 (by decide) ?_
        exact J9 _ hv.symm
      · refine z_iconst dX4_readLine_46 ?_
        exact J9 _ hv.symm
    · refine z_istore (lv' := [(5, vi x47), (4, vi r21), (3, vi (b2i r10)), (0, vr Γ 64), (1, vl a1)]) dX4_readLine_47 (Nat.le_of_ble_eq_true rfl) rfl ?_
      refine z_rload_n dX4_readLine_49 rfl 3 rfl ?_
      refine z_iload_n dX4_readLine_50 rfl 2 rfl ?_
      refine z_phi 62 [vr Γ 64] (fun V9 hv J9 => ?_) h (fun x62 h => ?_)
      · refine z_ifeq_b (tgt := 60) dX4_readLine_51 (by decide) (eq_ite hv) (fun hv => ?_) (fun hv => ?_)
        · refine z_iload dX4_readLine_54 1 rfl ?_
          refine z_ineg dX4_readLine_56 ?_
          refine z_goto (tgt := 62) dX4_readLine_57 (by decide) ?_
          exact J9 _ hv.symm
        · refine z_iload dX4_readLine_60 1 rfl ?_
          exact J9 _ hv.symm
      · refine z_iload dX4_readLine_62 0 rfl ?_
        refine z_VU (i_LineR_keep  hs h) vk_X4_keep kt_64 (Nat.le_of_ble_eq_true rfl) rfl ml_X4_63 ⟨Nat.le_of_ble_eq_true rfl, Nat.le_of_ble_eq_true rfl⟩ ⟨Nat.zero_le _, Nat.zero_le _⟩ rfl rfl (Nat.le_of_ble_eq_true rfl) dX4_readLine_64 (fun μ_5 hs h => ?_)
        refine z_rload_n dX4_readLine_67 rfl 3 rfl ?_
        refine z_getR (q := 9192) ff_4_0 dX4_readLine_68 kt_64 (Nat.le_of_ble_eq_true rfl) fl_X4_18 rfl (hs.1 _ _ sr_9192) ?_
        refine z_bipush dX4_readLine_71 (by decide) ?_
        refine z_VB (i_Tape_skipSign  hs h) vk_X9_skipSign kt_10 (Nat.le_of_ble_eq_true rfl) rfl ml_X4_67 ⟨Nat.le_of_ble_eq_true rfl, Nat.le_of_ble_eq_true rfl⟩ ⟨Nat.zero_le _, Nat.zero_le _⟩ rfl rfl (Nat.le_of_ble_eq_true rfl) dX4_readLine_73 (fun r73 μ_6 hs h => ?_)
        refine z_phi 85 [] (fun V9 hv J9 => ?_) h (fun x85 h => ?_)
        · refine z_ifeq_b (tgt := 84) dX4_readLine_76 (by decide) (eq_ite hv) (fun hv => ?_) (fun hv => ?_)
          · refine z_iload dX4_readLine_79 1 rfl ?_
            refine z_goto (tgt := 85) dX4_readLine_81 (by decide) ?_
            exact J9 _ hv.symm
          · refine z_iconst dX4_readLine_84 ?_
            exact J9 _ hv.symm
        · exact z_iret rfl dX4_readLine_85 rfl rfl rfl ⟨_, rfl, hs, h⟩
abbrev Y_LineR_readMotion : Yt := (5, (some .boolean), yX4_readMotion.name, { frames := 8, cells := 0, slots := 0, locals := 191 }, 174, 0, 0)
def b_LineR_readMotion_38 (R_16 : Int64 → Int → Mem → Prop) (X_16_50 : Mem → Prop) (X_16_65 : Mem → Prop) (k : Bool → Mem → Prop) (v1_1 : Int64) (v3_1 : Int) (μ_4 : Mem) : Prop := f_Tape_isWord 24 μ_4 (fun r44 μ_5 => if r44 = true then (if w v3_1 < w 12 then (f_LineR_readLine v1_1 μ_5 (fun r76 μ_6 => if w r76 = 0 then (k false μ_6) else (∀ v1_2 : Int64, v1_2 = v1_1 ||| (w_lshl 1 r76) → R_16 v1_2 (v3_1 + 1) μ_6))) else (X_16_65 μ_5)) else (X_16_50 μ_5))
def l_LineR_readMotion_16 (X_16_50 : Mem → Prop) (X_16_65 : Mem → Prop) (k : Bool → Mem → Prop) : Nat → Int64 → Int → Mem → Prop
  | 0, _, _, _ => False
  | fu16 + 1, v1, v3, μ_3 => if w 12 < w v3 then (k false μ_3) else (if 0 < w v3 then (if (v_Tape_isEnd μ_3) = true then (k true μ_3) else (b_LineR_readMotion_38 (l_LineR_readMotion_16 X_16_50 X_16_65 k fu16) X_16_50 X_16_65 k v1 v3 μ_3)) else (b_LineR_readMotion_38 (l_LineR_readMotion_16 X_16_50 X_16_65 k fu16) X_16_50 X_16_65 k v1 v3 μ_3))
def f_LineR_readMotion  (μ : Mem) (k : Bool → Mem → Prop) : Prop := ∀ μ_1 : Mem, μ_1 = sI μ 9195 0 0 → f_Tape_begin  μ_1 (fun μ_2 => ∃ m16 : Nat, l_LineR_readMotion_16 (fun (μ_7 : Mem) => f_Tape_fail 1 μ_7 (fun r55 μ_8 => k r55 μ_8)) (fun (μ_9 : Mem) => f_Tape_fail 4 μ_9 (fun r70 μ_10 => k r70 μ_10)) k m16 0 0 μ_2)
theorem B_LineR_readMotion_38 {l : Launch} {Γ : Gam} {g : Nat} {R_16 : Int64 → Int → Mem → Prop} {X_16_50 : Mem → Prop} {X_16_65 : Mem → Prop} {k : Bool → Mem → Prop} {v1_1 : Int64} {v3_1 : Int} {μ_4 : Mem} (hR_16 : ∀ (u1 : Int64) (u3 : Int) (ν : Mem), StatR ν.2.2 → R_16 u1 u3 ν → SW l Γ yX4_readMotion.cls cX4_readMotion Y_LineR_readMotion (pB k) g 174 0 0 ν 16 [(0, vr Γ 64), (1, vl u1), (3, vi u3)] []) (hX_16_50 : ∀ (ν : Mem), StatR ν.2.2 → X_16_50 ν → SW l Γ yX4_readMotion.cls cX4_readMotion Y_LineR_readMotion (pB k) g 174 0 0 ν 50 [(0, vr Γ 64)] []) (hX_16_65 : ∀ (ν : Mem), StatR ν.2.2 → X_16_65 ν → SW l Γ yX4_readMotion.cls cX4_readMotion Y_LineR_readMotion (pB k) g 174 0 0 ν 65 [(0, vr Γ 64)] []) (hs : StatR μ_4.2.2) (h : b_LineR_readMotion_38 R_16 X_16_50 X_16_65 k v1_1 v3_1 μ_4) : SW l Γ yX4_readMotion.cls cX4_readMotion Y_LineR_readMotion (pB k) g 174 0 0 μ_4 38 [(0, vr Γ 64), (1, vl v1_1), (3, vi v3_1)] [] := by
  unfold b_LineR_readMotion_38 at h
  refine z_rload_n dX4_readMotion_38 rfl 0 rfl ?_
  refine z_getR (q := 9192) ff_4_0 dX4_readMotion_39 kt_64 (Nat.le_of_ble_eq_true rfl) fl_X4_18 rfl (hs.1 _ _ sr_9192) ?_
  refine z_ldcS dX4_readMotion_42 st_X4_35 ?_
  refine z_VB (i_Tape_isWord (Nat.le_of_ble_eq_true rfl) hs h) vk_X9_isWord kt_10 (Nat.le_of_ble_eq_true rfl) rfl ml_X4_37 ⟨Nat.le_of_ble_eq_true rfl, Nat.le_of_ble_eq_true rfl⟩ ⟨Nat.zero_le _, Nat.zero_le _⟩ rfl rfl (Nat.le_of_ble_eq_true rfl) dX4_readMotion_44 (fun r44 μ_5 hs h => ?_)
  refine z_ifne_b (tgt := 59) dX4_readMotion_47 (by decide) h (fun h => ?_) (fun h => ?_)
  · refine z_iload_n dX4_readMotion_59 rfl 2 rfl ?_
    refine z_bipush dX4_readMotion_60 (by decide) ?_
    refine z_icmp_lt (tgt := 74) dX4_readMotion_62 (by decide) h (fun h => ?_) (fun h => ?_)
    · refine z_rload_n dX4_readMotion_74 rfl 0 rfl ?_
      refine z_lload_n dX4_readMotion_75 rfl 1 rfl ?_
      refine z_VI (i_LineR_readLine  hs h) vk_X4_readLine kt_64 (Nat.le_of_ble_eq_true rfl) rfl ml_X4_45 ⟨Nat.le_of_ble_eq_true rfl, Nat.le_of_ble_eq_true rfl⟩ ⟨Nat.zero_le _, Nat.zero_le _⟩ rfl rfl (Nat.le_of_ble_eq_true rfl) dX4_readMotion_76 (fun r76 μ_6 hs h => ?_)
      refine z_istore (lv' := [(4, vi r76), (0, vr Γ 64), (1, vl v1_1), (3, vi v3_1)]) dX4_readMotion_79 (Nat.le_of_ble_eq_true rfl) rfl ?_
      refine z_iload dX4_readMotion_81 0 rfl ?_
      refine z_if_ne (tgt := 88) dX4_readMotion_83 (by decide) h (fun h => ?_) (fun h => ?_)
      · refine z_iconst dX4_readMotion_86 ?_
        exact z_zret (b := false) rfl dX4_readMotion_87 rfl rfl rfl ⟨_, rfl, hs, h⟩
      · refine z_lload_n dX4_readMotion_88 rfl 2 rfl ?_
        refine z_lconst (v := 1) dX4_readMotion_89 rfl ?_
        refine z_iload dX4_readMotion_90 0 rfl ?_
        refine z_lshl dX4_readMotion_92 ?_
        refine z_lor dX4_readMotion_93 ?_
        refine z_nmL (fun v1_2 ev1_2 => ?_)
        replace h := h v1_2 ev1_2
        refine z_lstore_n (lv' := [(1, vl v1_2), (4, vi r76), (0, vr Γ 64), (3, vi v3_1)]) dX4_readMotion_94 rfl (Nat.le_of_ble_eq_true rfl) rfl ?_
        refine z_iinc (j := 3) (lv' := [(3, vi (v3_1 + 1)), (1, vl v1_2), (4, vi r76), (0, vr Γ 64)]) dX4_readMotion_95 rfl (Nat.le_of_ble_eq_true rfl) rfl ?_
        refine z_goto (tgt := 16) dX4_readMotion_98 (by decide) ?_
        refine z_sub (lv' := [(0, vr Γ 64), (1, vl v1_2), (3, vi (v3_1 + 1))]) [3, 1, 0] rfl ?_
        exact hR_16 v1_2 (v3_1 + 1) μ_6 hs h
    · refine z_sub (lv' := [(0, vr Γ 64)]) [0] rfl ?_
      exact hX_16_65 μ_5 hs h
  · refine z_sub (lv' := [(0, vr Γ 64)]) [0] rfl ?_
    exact hX_16_50 μ_5 hs h
theorem L_LineR_readMotion_16 {l : Launch} {Γ : Gam} {g : Nat} {X_16_50 : Mem → Prop} {X_16_65 : Mem → Prop} {k : Bool → Mem → Prop} (hX_16_50 : ∀ (ν : Mem), StatR ν.2.2 → X_16_50 ν → SW l Γ yX4_readMotion.cls cX4_readMotion Y_LineR_readMotion (pB k) g 174 0 0 ν 50 [(0, vr Γ 64)] []) (hX_16_65 : ∀ (ν : Mem), StatR ν.2.2 → X_16_65 ν → SW l Γ yX4_readMotion.cls cX4_readMotion Y_LineR_readMotion (pB k) g 174 0 0 ν 65 [(0, vr Γ 64)] []) (n9 : Nat) : ∀ (v1 : Int64) (v3 : Int) (μ_3 : Mem), StatR μ_3.2.2 → l_LineR_readMotion_16 X_16_50 X_16_65 k n9 v1 v3 μ_3 → SW l Γ yX4_readMotion.cls cX4_readMotion Y_LineR_readMotion (pB k) g 174 0 0 μ_3 16 [(0, vr Γ 64), (1, vl v1), (3, vi v3)] [] := by
  induction n9 with
  | zero =>
    intro v1 v3 μ_3 hs h
    exact h.elim
  | succ n9 hR_16 =>
    intro v1 v3 μ_3 hs h
    rw [l_LineR_readMotion_16] at h
    refine z_iload_n dX4_readMotion_16 rfl 2 rfl ?_
    refine z_bipush dX4_readMotion_17 (by decide) ?_
    refine z_icmp_gt (tgt := 101) dX4_readMotion_19 (by decide) h (fun h => ?_) (fun h => ?_)
    · refine z_iconst dX4_readMotion_101 ?_
      exact z_zret (b := false) rfl dX4_readMotion_102 rfl rfl rfl ⟨_, rfl, hs, h⟩
    · refine z_iload_n dX4_readMotion_22 rfl 2 rfl ?_
      refine z_if_le (tgt := 38) dX4_readMotion_23 (by decide) h (fun h => ?_) (fun h => ?_)
      · refine z_rload_n dX4_readMotion_26 rfl 0 rfl ?_
        refine z_getR (q := 9192) ff_4_0 dX4_readMotion_27 kt_64 (Nat.le_of_ble_eq_true rfl) fl_X4_18 rfl (hs.1 _ _ sr_9192) ?_
        refine z_VE (i_Tape_isEnd ) vk_X9_isEnd kt_10 (Nat.le_of_ble_eq_true rfl) rfl ml_X4_31 ⟨Nat.le_of_ble_eq_true rfl, Nat.le_of_ble_eq_true rfl⟩ ⟨Nat.zero_le _, Nat.zero_le _⟩ rfl rfl (Nat.le_of_ble_eq_true rfl) dX4_readMotion_30 ?_
        refine z_ifeq_b (tgt := 38) dX4_readMotion_33 (by decide) h (fun h => ?_) (fun h => ?_)
        · refine z_iconst dX4_readMotion_36 ?_
          exact z_zret (b := true) rfl dX4_readMotion_37 rfl rfl rfl ⟨_, rfl, hs, h⟩
        · refine z_sub (lv' := [(0, vr Γ 64), (1, vl v1), (3, vi v3)]) [0, 1, 2] rfl ?_
          exact B_LineR_readMotion_38 hR_16 hX_16_50 hX_16_65 hs h
      · refine z_sub (lv' := [(0, vr Γ 64), (1, vl v1), (3, vi v3)]) [0, 1, 2] rfl ?_
        exact B_LineR_readMotion_38 hR_16 hX_16_50 hX_16_65 hs h
theorem i_LineR_readMotion {l : Launch} {Γ : Gam} {g : Nat} {μ : Mem} {k : Bool → Mem → Prop} (hs : StatR μ.2.2) (h : f_LineR_readMotion  μ k) : CT l Γ yX4_readMotion cX4_readMotion 5 (some .boolean) 8 191 0 0 [vr Γ 64] g 174 μ (pB k) := by
  refine SW.ct (by decide) (Nat.le_of_ble_eq_true rfl) ?_
  refine z_sub (lv' := [(0, vr Γ 64)]) [0] rfl ?_
  show SW l Γ yX4_readMotion.cls cX4_readMotion Y_LineR_readMotion (pB k) g 174 0 0 μ 0 [(0, vr Γ 64)] []
  unfold f_LineR_readMotion at h
  refine z_lconst (v := 0) dX4_readMotion_0 rfl ?_
  refine z_lstore_n (lv' := [(1, vl 0), (0, vr Γ 64)]) dX4_readMotion_1 rfl (Nat.le_of_ble_eq_true rfl) rfl ?_
  refine z_rload_n dX4_readMotion_2 rfl 1 rfl ?_
  refine z_iconst dX4_readMotion_3 ?_
  refine z_putI (q := 9195) ff_4_3 (Or.inl rfl) rfl dX4_readMotion_4 kt_64 (Nat.le_of_ble_eq_true rfl) fl_X4_22 rfl ?_
  refine z_mm (fun μ_1 eμ_1 => ?_)
  replace h := h μ_1 eμ_1
  replace hs : StatR μ_1.2.2 := by rw [eμ_1]; exact hs
  refine z_rload_n dX4_readMotion_7 rfl 1 rfl ?_
  refine z_getR (q := 9192) ff_4_0 dX4_readMotion_8 kt_64 (Nat.le_of_ble_eq_true rfl) fl_X4_18 rfl (hs.1 _ _ sr_9192) ?_
  refine z_VU (i_Tape_begin  hs h) vk_X9_begin kt_10 (Nat.le_of_ble_eq_true rfl) rfl ml_X4_26 ⟨Nat.le_of_ble_eq_true rfl, Nat.le_of_ble_eq_true rfl⟩ ⟨Nat.zero_le _, Nat.zero_le _⟩ rfl rfl (Nat.le_of_ble_eq_true rfl) dX4_readMotion_11 (fun μ_2 hs h => ?_)
  refine z_iconst dX4_readMotion_14 ?_
  refine z_istore_n (lv' := [(3, vi 0), (1, vl 0), (0, vr Γ 64)]) dX4_readMotion_15 rfl (Nat.le_of_ble_eq_true rfl) rfl ?_
  obtain ⟨m16, h⟩ := h
  refine z_sub (lv' := [(0, vr Γ 64), (1, vl 0), (3, vi 0)]) [2, 1, 0] rfl ?_
  refine L_LineR_readMotion_16 (fun μ_7 hs h => ?_) (fun μ_9 hs h => ?_) m16 0 0 μ_2 hs h
  · refine z_rload_n dX4_readMotion_50 rfl 0 rfl ?_
    refine z_getR (q := 9192) ff_4_0 dX4_readMotion_51 kt_64 (Nat.le_of_ble_eq_true rfl) fl_X4_18 rfl (hs.1 _ _ sr_9192) ?_
    refine z_iconst dX4_readMotion_54 ?_
    refine z_VB (i_Tape_fail  hs h) vk_X9_fail kt_10 (Nat.le_of_ble_eq_true rfl) rfl ml_X4_41 ⟨Nat.le_of_ble_eq_true rfl, Nat.le_of_ble_eq_true rfl⟩ ⟨Nat.zero_le _, Nat.zero_le _⟩ rfl rfl (Nat.le_of_ble_eq_true rfl) dX4_readMotion_55 (fun r55 μ_8 hs h => ?_)
    exact z_zret (b := r55) rfl dX4_readMotion_58 rfl rfl rfl ⟨_, rfl, hs, h⟩
  · refine z_rload_n dX4_readMotion_65 rfl 0 rfl ?_
    refine z_getR (q := 9192) ff_4_0 dX4_readMotion_66 kt_64 (Nat.le_of_ble_eq_true rfl) fl_X4_18 rfl (hs.1 _ _ sr_9192) ?_
    refine z_iconst dX4_readMotion_69 ?_
    refine z_VB (i_Tape_fail  hs h) vk_X9_fail kt_10 (Nat.le_of_ble_eq_true rfl) rfl ml_X4_41 ⟨Nat.le_of_ble_eq_true rfl, Nat.le_of_ble_eq_true rfl⟩ ⟨Nat.zero_le _, Nat.zero_le _⟩ rfl rfl (Nat.le_of_ble_eq_true rfl) dX4_readMotion_70 (fun r70 μ_10 hs h => ?_)
    exact z_zret (b := r70) rfl dX4_readMotion_73 rfl rfl rfl ⟨_, rfl, hs, h⟩
abbrev Y_Papers_addMotion : Yt := (2, (some .int), yX6_addMotion.name, { frames := 1, cells := 0, slots := 0, locals := 22 }, 174, 0, 0)
def f_Papers_addMotion (a1 : Int) (μ : Mem) (k : Int → Mem → Prop) : Prop := ∀ μ_1 : Mem, μ_1 = set' μ 13 24 (rI μ 2543 0) a1 → ∀ μ_2 : Mem, μ_2 = sI μ_1 2543 0 ((rI μ_1 2543 0) + 1) → k ((rI μ_2 2543 0) - 1) μ_2
theorem i_Papers_addMotion {l : Launch} {Γ : Gam} {g : Nat} {a1 : Int} {μ : Mem} {k : Int → Mem → Prop} (hs : StatR μ.2.2) (h : f_Papers_addMotion a1 μ k) : CT l Γ yX6_addMotion cX6_addMotion 2 (some .int) 1 22 0 0 [vr Γ 12, vi a1] g 174 μ (pI k) := by
  refine SW.ct (by decide) (Nat.le_of_ble_eq_true rfl) ?_
  refine z_sub (lv' := [(0, vr Γ 12), (1, vi a1)]) [0, 1] rfl ?_
  show SW l Γ yX6_addMotion.cls cX6_addMotion Y_Papers_addMotion (pI k) g 174 0 0 μ 0 [(0, vr Γ 12), (1, vi a1)] []
  unfold f_Papers_addMotion at h
  refine z_rload_n dX6_addMotion_0 rfl 0 rfl ?_
  refine z_getR (q := 2536) ff_6_0 dX6_addMotion_1 kt_12 (Nat.le_of_ble_eq_true rfl) fl_X6_9 rfl (hs.1 _ _ sr_2536) ?_
  refine z_rload_n dX6_addMotion_4 rfl 0 rfl ?_
  refine z_getI (q := 2543) ff_6_7 dX6_addMotion_5 kt_12 (Nat.le_of_ble_eq_true rfl) fl_X6_38 rfl ?_
  refine z_iload_n dX6_addMotion_8 rfl 1 rfl ?_
  refine z_NM (i_X11_set kt_13 (Nat.le_of_ble_eq_true rfl)) ok_X11_set nw_X6_49 ⟨Nat.le_of_ble_eq_true rfl, Nat.le_of_ble_eq_true rfl⟩ ⟨Nat.zero_le _, Nat.zero_le _⟩ rfl rfl (Nat.le_of_ble_eq_true rfl) dX6_addMotion_9 ?_
  refine z_mm (fun μ_1 eμ_1 => ?_)
  replace h := h μ_1 eμ_1
  replace hs : StatR μ_1.2.2 := by rw [eμ_1]; exact (StatR.set hs)
  refine z_rload_n dX6_addMotion_12 rfl 0 rfl ?_
  refine z_dup dX6_addMotion_13 rfl ?_
  refine z_getI (q := 2543) ff_6_7 dX6_addMotion_14 kt_12 (Nat.le_of_ble_eq_true rfl) fl_X6_38 rfl ?_
  refine z_iconst dX6_addMotion_17 ?_
  refine z_iadd dX6_addMotion_18 ?_
  refine z_putI (q := 2543) ff_6_7 (Or.inl rfl) rfl dX6_addMotion_19 kt_12 (Nat.le_of_ble_eq_true rfl) fl_X6_38 rfl ?_
  refine z_mm (fun μ_2 eμ_2 => ?_)
  replace h := h μ_2 eμ_2
  replace hs : StatR μ_2.2.2 := by rw [eμ_2]; exact hs
  refine z_rload_n dX6_addMotion_22 rfl 0 rfl ?_
  refine z_getI (q := 2543) ff_6_7 dX6_addMotion_23 kt_12 (Nat.le_of_ble_eq_true rfl) fl_X6_38 rfl ?_
  refine z_iconst dX6_addMotion_26 ?_
  refine z_isub dX6_addMotion_27 ?_
  exact z_iret rfl dX6_addMotion_28 rfl rfl rfl ⟨_, rfl, hs, h⟩
