abbrev Y_Floor_addLine : Yt := (6, none, yX3_addLine.name, { frames := 1, cells := 0, slots := 0, locals := 22 }, 175, 0, 0)
def f_Floor_addLine (a1 : Int) (a2 : Int) (a3 : Int) (a4 : Int) (μ : Mem) (k : Mem → Prop) : Prop := ∀ v5 : Int, v5 = at' μ 69 25 a1 → if w v5 < w 12 then (∀ μ_1 : Mem, μ_1 = set' μ 70 300 ((a1 * 12) + v5) a2 → ∀ μ_2 : Mem, μ_2 = set' μ_1 71 300 ((a1 * 12) + v5) a3 → ∀ μ_3 : Mem, μ_3 = set' μ_2 72 300 ((a1 * 12) + v5) a4 → ∀ μ_4 : Mem, μ_4 = set' μ_3 69 25 a1 (v5 + 1) → k μ_4) else (k μ)
theorem i_Floor_addLine {l : Launch} {Γ : Gam} {g : Nat} {a1 : Int} {a2 : Int} {a3 : Int} {a4 : Int} {μ : Mem} {k : Mem → Prop} (hs : StatR μ.2.2) (h : f_Floor_addLine a1 a2 a3 a4 μ k) : CT l Γ yX3_addLine cX3_addLine 6 none 1 22 0 0 [vr Γ 67, vi a1, vi a2, vi a3, vi a4] g 175 μ (pV k) := by
  refine SW.ct (by decide) (Nat.le_of_ble_eq_true rfl) ?_
  refine z_sub (lv' := [(0, vr Γ 67), (1, vi a1), (2, vi a2), (3, vi a3), (4, vi a4)]) [0, 1, 2, 3, 4] rfl ?_
  show SW l Γ yX3_addLine.cls cX3_addLine Y_Floor_addLine (pV k) g 175 0 0 μ 0 [(0, vr Γ 67), (1, vi a1), (2, vi a2), (3, vi a3), (4, vi a4)] []
  unfold f_Floor_addLine at h
  refine z_rload_n dX3_addLine_0 rfl 0 rfl ?_
  refine z_getR (q := 9578) ff_3_2 dX3_addLine_1 kt_67 (Nat.le_of_ble_eq_true rfl) fl_X3_15 rfl (hs.1 _ _ sr_9578) ?_
  refine z_iload_n dX3_addLine_4 rfl 1 rfl ?_
  refine z_NE (i_X11_at kt_69 (Nat.le_of_ble_eq_true rfl)) ok_X11_at nw_X3_54 ⟨Nat.le_of_ble_eq_true rfl, Nat.le_of_ble_eq_true rfl⟩ ⟨Nat.zero_le _, Nat.zero_le _⟩ rfl rfl (Nat.le_of_ble_eq_true rfl) dX3_addLine_5 ?_
  refine z_nm (fun v5 ev5 => ?_)
  replace h := h v5 ev5
  refine z_istore (lv' := [(5, vi v5), (0, vr Γ 67), (1, vi a1), (2, vi a2), (3, vi a3), (4, vi a4)]) dX3_addLine_8 (Nat.le_of_ble_eq_true rfl) rfl ?_
  refine z_iload dX3_addLine_10 0 rfl ?_
  refine z_bipush dX3_addLine_12 (by decide) ?_
  refine z_icmp_ge (tgt := 75) dX3_addLine_14 (by decide) h (fun h => ?_) (fun h => ?_)
  · refine z_rload_n dX3_addLine_17 rfl 1 rfl ?_
    refine z_getR (q := 9579) ff_3_3 dX3_addLine_18 kt_67 (Nat.le_of_ble_eq_true rfl) fl_X3_18 rfl (hs.1 _ _ sr_9579) ?_
    refine z_iload_n dX3_addLine_21 rfl 2 rfl ?_
    refine z_bipush dX3_addLine_22 (by decide) ?_
    refine z_imul dX3_addLine_24 ?_
    refine z_iload dX3_addLine_25 0 rfl ?_
    refine z_iadd dX3_addLine_27 ?_
    refine z_iload_n dX3_addLine_28 rfl 3 rfl ?_
    refine z_NM (i_X11_set kt_70 (Nat.le_of_ble_eq_true rfl)) ok_X11_set nw_X3_58 ⟨Nat.le_of_ble_eq_true rfl, Nat.le_of_ble_eq_true rfl⟩ ⟨Nat.zero_le _, Nat.zero_le _⟩ rfl rfl (Nat.le_of_ble_eq_true rfl) dX3_addLine_29 ?_
    refine z_mm (fun μ_1 eμ_1 => ?_)
    replace h := h μ_1 eμ_1
    replace hs : StatR μ_1.2.2 := by rw [eμ_1]; exact (StatR.set hs)
    refine z_rload_n dX3_addLine_32 rfl 1 rfl ?_
    refine z_getR (q := 9580) ff_3_4 dX3_addLine_33 kt_67 (Nat.le_of_ble_eq_true rfl) fl_X3_21 rfl (hs.1 _ _ sr_9580) ?_
    refine z_iload_n dX3_addLine_36 rfl 2 rfl ?_
    refine z_bipush dX3_addLine_37 (by decide) ?_
    refine z_imul dX3_addLine_39 ?_
    refine z_iload dX3_addLine_40 0 rfl ?_
    refine z_iadd dX3_addLine_42 ?_
    refine z_iload_n dX3_addLine_43 rfl 4 rfl ?_
    refine z_NM (i_X11_set kt_71 (Nat.le_of_ble_eq_true rfl)) ok_X11_set nw_X3_58 ⟨Nat.le_of_ble_eq_true rfl, Nat.le_of_ble_eq_true rfl⟩ ⟨Nat.zero_le _, Nat.zero_le _⟩ rfl rfl (Nat.le_of_ble_eq_true rfl) dX3_addLine_44 ?_
    refine z_mm (fun μ_2 eμ_2 => ?_)
    replace h := h μ_2 eμ_2
    replace hs : StatR μ_2.2.2 := by rw [eμ_2]; exact (StatR.set hs)
    refine z_rload_n dX3_addLine_47 rfl 1 rfl ?_
    refine z_getR (q := 9581) ff_3_5 dX3_addLine_48 kt_67 (Nat.le_of_ble_eq_true rfl) fl_X3_24 rfl (hs.1 _ _ sr_9581) ?_
    refine z_iload_n dX3_addLine_51 rfl 2 rfl ?_
    refine z_bipush dX3_addLine_52 (by decide) ?_
    refine z_imul dX3_addLine_54 ?_
    refine z_iload dX3_addLine_55 0 rfl ?_
    refine z_iadd dX3_addLine_57 ?_
    refine z_iload dX3_addLine_58 5 rfl ?_
    refine z_NM (i_X11_set kt_72 (Nat.le_of_ble_eq_true rfl)) ok_X11_set nw_X3_58 ⟨Nat.le_of_ble_eq_true rfl, Nat.le_of_ble_eq_true rfl⟩ ⟨Nat.zero_le _, Nat.zero_le _⟩ rfl rfl (Nat.le_of_ble_eq_true rfl) dX3_addLine_60 ?_
    refine z_mm (fun μ_3 eμ_3 => ?_)
    replace h := h μ_3 eμ_3
    replace hs : StatR μ_3.2.2 := by rw [eμ_3]; exact (StatR.set hs)
    refine z_rload_n dX3_addLine_63 rfl 1 rfl ?_
    refine z_getR (q := 9578) ff_3_2 dX3_addLine_64 kt_67 (Nat.le_of_ble_eq_true rfl) fl_X3_15 rfl (hs.1 _ _ sr_9578) ?_
    refine z_iload_n dX3_addLine_67 rfl 2 rfl ?_
    refine z_iload dX3_addLine_68 0 rfl ?_
    refine z_iconst dX3_addLine_70 ?_
    refine z_iadd dX3_addLine_71 ?_
    refine z_NM (i_X11_set kt_69 (Nat.le_of_ble_eq_true rfl)) ok_X11_set nw_X3_58 ⟨Nat.le_of_ble_eq_true rfl, Nat.le_of_ble_eq_true rfl⟩ ⟨Nat.zero_le _, Nat.zero_le _⟩ rfl rfl (Nat.le_of_ble_eq_true rfl) dX3_addLine_72 ?_
    refine z_mm (fun μ_4 eμ_4 => ?_)
    replace h := h μ_4 eμ_4
    replace hs : StatR μ_4.2.2 := by rw [eμ_4]; exact (StatR.set hs)
    exact z_vret rfl dX3_addLine_75 rfl rfl rfl ⟨rfl, hs, h⟩
  · exact z_vret rfl dX3_addLine_75 rfl rfl rfl ⟨rfl, hs, h⟩
abbrev Y_LineR_keep : Yt := (3, none, yX4_keep.name, { frames := 1, cells := 0, slots := 0, locals := 22 }, 175, 0, 0)
def f_LineR_keep (a1 : Int) (a2 : Int) (μ : Mem) (k : Mem → Prop) : Prop := if w (rI μ 9195 0) < w 12 then (∀ μ_1 : Mem, μ_1 = set' μ 65 12 (rI μ 9195 0) a1 → ∀ μ_2 : Mem, μ_2 = set' μ_1 66 12 (rI μ_1 9195 0) a2 → ∀ μ_3 : Mem, μ_3 = sI μ_2 9195 0 ((rI μ_2 9195 0) + 1) → k μ_3) else (k μ)
theorem i_LineR_keep {l : Launch} {Γ : Gam} {g : Nat} {a1 : Int} {a2 : Int} {μ : Mem} {k : Mem → Prop} (hs : StatR μ.2.2) (h : f_LineR_keep a1 a2 μ k) : CT l Γ yX4_keep cX4_keep 3 none 1 22 0 0 [vr Γ 64, vi a1, vi a2] g 175 μ (pV k) := by
  refine SW.ct (by decide) (Nat.le_of_ble_eq_true rfl) ?_
  refine z_sub (lv' := [(0, vr Γ 64), (1, vi a1), (2, vi a2)]) [0, 1, 2] rfl ?_
  show SW l Γ yX4_keep.cls cX4_keep Y_LineR_keep (pV k) g 175 0 0 μ 0 [(0, vr Γ 64), (1, vi a1), (2, vi a2)] []
  unfold f_LineR_keep at h
  refine z_rload_n dX4_keep_0 rfl 0 rfl ?_
  refine z_getI (q := 9195) ff_4_3 dX4_keep_1 kt_64 (Nat.le_of_ble_eq_true rfl) fl_X4_22 rfl ?_
  refine z_bipush dX4_keep_4 (by decide) ?_
  refine z_icmp_ge (tgt := 43) dX4_keep_6 (by decide) h (fun h => ?_) (fun h => ?_)
  · refine z_rload_n dX4_keep_9 rfl 0 rfl ?_
    refine z_getR (q := 9193) ff_4_1 dX4_keep_10 kt_64 (Nat.le_of_ble_eq_true rfl) fl_X4_9 rfl (hs.1 _ _ sr_9193) ?_
    refine z_rload_n dX4_keep_13 rfl 0 rfl ?_
    refine z_getI (q := 9195) ff_4_3 dX4_keep_14 kt_64 (Nat.le_of_ble_eq_true rfl) fl_X4_22 rfl ?_
    refine z_iload_n dX4_keep_17 rfl 1 rfl ?_
    refine z_NM (i_X11_set kt_65 (Nat.le_of_ble_eq_true rfl)) ok_X11_set nw_X4_80 ⟨Nat.le_of_ble_eq_true rfl, Nat.le_of_ble_eq_true rfl⟩ ⟨Nat.zero_le _, Nat.zero_le _⟩ rfl rfl (Nat.le_of_ble_eq_true rfl) dX4_keep_18 ?_
    refine z_mm (fun μ_1 eμ_1 => ?_)
    replace h := h μ_1 eμ_1
    replace hs : StatR μ_1.2.2 := by rw [eμ_1]; exact (StatR.set hs)
    refine z_rload_n dX4_keep_21 rfl 0 rfl ?_
    refine z_getR (q := 9194) ff_4_2 dX4_keep_22 kt_64 (Nat.le_of_ble_eq_true rfl) fl_X4_15 rfl (hs.1 _ _ sr_9194) ?_
    refine z_rload_n dX4_keep_25 rfl 0 rfl ?_
    refine z_getI (q := 9195) ff_4_3 dX4_keep_26 kt_64 (Nat.le_of_ble_eq_true rfl) fl_X4_22 rfl ?_
    refine z_iload_n dX4_keep_29 rfl 2 rfl ?_
    refine z_NM (i_X11_set kt_66 (Nat.le_of_ble_eq_true rfl)) ok_X11_set nw_X4_80 ⟨Nat.le_of_ble_eq_true rfl, Nat.le_of_ble_eq_true rfl⟩ ⟨Nat.zero_le _, Nat.zero_le _⟩ rfl rfl (Nat.le_of_ble_eq_true rfl) dX4_keep_30 ?_
    refine z_mm (fun μ_2 eμ_2 => ?_)
    replace h := h μ_2 eμ_2
    replace hs : StatR μ_2.2.2 := by rw [eμ_2]; exact (StatR.set hs)
    refine z_rload_n dX4_keep_33 rfl 0 rfl ?_
    refine z_dup dX4_keep_34 rfl ?_
    refine z_getI (q := 9195) ff_4_3 dX4_keep_35 kt_64 (Nat.le_of_ble_eq_true rfl) fl_X4_22 rfl ?_
    refine z_iconst dX4_keep_38 ?_
    refine z_iadd dX4_keep_39 ?_
    refine z_putI (q := 9195) ff_4_3 (Or.inl rfl) rfl dX4_keep_40 kt_64 (Nat.le_of_ble_eq_true rfl) fl_X4_22 rfl ?_
    refine z_mm (fun μ_3 eμ_3 => ?_)
    replace h := h μ_3 eμ_3
    replace hs : StatR μ_3.2.2 := by rw [eμ_3]; exact hs
    exact z_vret rfl dX4_keep_43 rfl rfl rfl ⟨rfl, hs, h⟩
  · exact z_vret rfl dX4_keep_43 rfl rfl rfl ⟨rfl, hs, h⟩
abbrev Y_LineR_takeWord : Yt := (3, (some .boolean), yX4_takeWord.name, { frames := 6, cells := 0, slots := 0, locals := 144 }, 175, 0, 0)
def f_LineR_takeWord (a1 : Nat) (μ : Mem) (k : Bool → Mem → Prop) : Prop := f_Tape_isWord a1 μ (fun r5 μ_1 => if r5 = true then (f_Tape_next  μ_1 (fun μ_2 => k r5 μ_2)) else (k r5 μ_1))
theorem i_LineR_takeWord {l : Launch} {Γ : Gam} {g : Nat} {a1 : Nat} {μ : Mem} {k : Bool → Mem → Prop} (hq_a1 : a1 < 30) (hs : StatR μ.2.2) (h : f_LineR_takeWord a1 μ k) : CT l Γ yX4_takeWord cX4_takeWord 3 (some .boolean) 6 144 0 0 [vr Γ 64, .ref (Γ.2.2.2.2.1 a1)] g 175 μ (pB k) := by
  refine SW.ct (by decide) (Nat.le_of_ble_eq_true rfl) ?_
  refine z_sub (lv' := [(0, vr Γ 64), (1, .ref (Γ.2.2.2.2.1 a1))]) [0, 1] rfl ?_
  show SW l Γ yX4_takeWord.cls cX4_takeWord Y_LineR_takeWord (pB k) g 175 0 0 μ 0 [(0, vr Γ 64), (1, .ref (Γ.2.2.2.2.1 a1))] []
  unfold f_LineR_takeWord at h
  refine z_rload_n dX4_takeWord_0 rfl 0 rfl ?_
  refine z_getR (q := 9192) ff_4_0 dX4_takeWord_1 kt_64 (Nat.le_of_ble_eq_true rfl) fl_X4_18 rfl (hs.1 _ _ sr_9192) ?_
  refine z_aload_n dX4_takeWord_4 rfl 1 rfl ?_
  refine z_VB (i_Tape_isWord hq_a1 hs h) vk_X9_isWord kt_10 (Nat.le_of_ble_eq_true rfl) rfl ml_X4_37 ⟨Nat.le_of_ble_eq_true rfl, Nat.le_of_ble_eq_true rfl⟩ ⟨Nat.zero_le _, Nat.zero_le _⟩ rfl rfl (Nat.le_of_ble_eq_true rfl) dX4_takeWord_5 (fun r5 μ_1 hs h => ?_)
  refine z_istore_n (lv' := [(2, vi (b2i r5)), (0, vr Γ 64), (1, .ref (Γ.2.2.2.2.1 a1))]) dX4_takeWord_8 rfl (Nat.le_of_ble_eq_true rfl) rfl ?_
  refine z_iload_n dX4_takeWord_9 rfl 0 rfl ?_
  refine z_ifeq_b (tgt := 20) dX4_takeWord_10 (by decide) h (fun h => ?_) (fun h => ?_)
  · refine z_rload_n dX4_takeWord_13 rfl 1 rfl ?_
    refine z_getR (q := 9192) ff_4_0 dX4_takeWord_14 kt_64 (Nat.le_of_ble_eq_true rfl) fl_X4_18 rfl (hs.1 _ _ sr_9192) ?_
    refine z_VU (i_Tape_next  hs h) vk_X9_next kt_10 (Nat.le_of_ble_eq_true rfl) rfl ml_X4_49 ⟨Nat.le_of_ble_eq_true rfl, Nat.le_of_ble_eq_true rfl⟩ ⟨Nat.zero_le _, Nat.zero_le _⟩ rfl rfl (Nat.le_of_ble_eq_true rfl) dX4_takeWord_17 (fun μ_2 hs h => ?_)
    refine z_iload_n dX4_takeWord_20 rfl 0 rfl ?_
    exact z_zret (b := r5) rfl dX4_takeWord_21 rfl rfl rfl ⟨_, rfl, hs, h⟩
  · refine z_iload_n dX4_takeWord_20 rfl 0 rfl ?_
    exact z_zret (b := r5) rfl dX4_takeWord_21 rfl rfl rfl ⟨_, rfl, hs, h⟩
abbrev Y_LineR_readLine : Yt := (6, (some .int), yX4_readLine.name, { frames := 7, cells := 0, slots := 0, locals := 166 }, 175, 0, 0)
def f_LineR_readLine (a1 : Int64) (μ : Mem) (k : Int → Mem → Prop) : Prop := f_Tape_next  μ (fun μ_1 => f_LineR_takeWord 10 μ_1 (fun r10 μ_2 => f_Tape_takeN 60 a1 μ_2 (fun r21 μ_3 => if w r21 = 0 then (k 0 μ_3) else (f_LineR_takeWord 25 μ_3 (fun r36 μ_4 => ∀ x47 : Int, x47 = (if r36 = true then 1 else 0) → ∀ x62 : Int, x62 = (if r10 = true then (-r21) else r21) → f_LineR_keep x62 x47 μ_4 (fun μ_5 => f_Tape_skipSign 59 μ_5 (fun r73 μ_6 => ∀ x85 : Int, x85 = (if r73 = true then r21 else 0) → k x85 μ_6)))))))
theorem i_LineR_readLine {l : Launch} {Γ : Gam} {g : Nat} {a1 : Int64} {μ : Mem} {k : Int → Mem → Prop} (hs : StatR μ.2.2) (h : f_LineR_readLine a1 μ k) : CT l Γ yX4_readLine cX4_readLine 6 (some .int) 7 166 0 0 [vr Γ 64, vl a1] g 175 μ (pI k) := by
  refine SW.ct (by decide) (Nat.le_of_ble_eq_true rfl) ?_
  refine z_sub (lv' := [(0, vr Γ 64), (1, vl a1)]) [0, 1] rfl ?_
  show SW l Γ yX4_readLine.cls cX4_readLine Y_LineR_readLine (pI k) g 175 0 0 μ 0 [(0, vr Γ 64), (1, vl a1)] []
  unfold f_LineR_readLine at h
  refine z_rload_n dX4_readLine_0 rfl 0 rfl ?_
  refine z_getR (q := 9192) ff_4_0 dX4_readLine_1 kt_64 (Nat.le_of_ble_eq_true rfl) fl_X4_18 rfl (hs.1 _ _ sr_9192) ?_
  refine z_VU (i_Tape_next  hs h) vk_X9_next kt_10 (Nat.le_of_ble_eq_true rfl) rfl ml_X4_49 ⟨Nat.le_of_ble_eq_true rfl, Nat.le_of_ble_eq_true rfl⟩ ⟨Nat.zero_le _, Nat.zero_le _⟩ rfl rfl (Nat.le_of_ble_eq_true rfl) dX4_readLine_4 (fun μ_1 hs h => ?_)
  refine z_rload_n dX4_readLine_7 rfl 0 rfl ?_
  refine z_ldcS dX4_readLine_8 st_X4_52 ?_
  refine z_VB (i_LineR_takeWord (Nat.le_of_ble_eq_true rfl) hs h) vk_X4_takeWord kt_64 (Nat.le_of_ble_eq_true rfl) rfl ml_X4_54 ⟨Nat.le_of_ble_eq_true rfl, Nat.le_of_ble_eq_true rfl⟩ ⟨Nat.zero_le _, Nat.zero_le _⟩ rfl rfl (Nat.le_of_ble_eq_true rfl) dX4_readLine_10 (fun r10 μ_2 hs h => ?_)
  refine z_istore_n (lv' := [(3, vi (b2i r10)), (0, vr Γ 64), (1, vl a1)]) dX4_readLine_13 rfl (Nat.le_of_ble_eq_true rfl) rfl ?_
  refine z_rload_n dX4_readLine_14 rfl 1 rfl ?_
  refine z_getR (q := 9192) ff_4_0 dX4_readLine_15 kt_64 (Nat.le_of_ble_eq_true rfl) fl_X4_18 rfl (hs.1 _ _ sr_9192) ?_
  refine z_bipush dX4_readLine_18 (by decide) ?_
  refine z_lload_n dX4_readLine_20 rfl 2 rfl ?_
  refine z_VI (i_Tape_takeN  hs h) vk_X9_takeN kt_10 (Nat.le_of_ble_eq_true rfl) rfl ml_X4_57 ⟨Nat.le_of_ble_eq_true rfl, Nat.le_of_ble_eq_true rfl⟩ ⟨Nat.zero_le _, Nat.zero_le _⟩ rfl rfl (Nat.le_of_ble_eq_true rfl) dX4_readLine_21 (fun r21 μ_3 hs h => ?_)
  refine z_istore (lv' := [(4, vi r21), (3, vi (b2i r10)), (0, vr Γ 64), (1, vl a1)]) dX4_readLine_24 (Nat.le_of_ble_eq_true rfl) rfl ?_
  refine z_iload dX4_readLine_26 0 rfl ?_
  refine z_if_ne (tgt := 33) dX4_readLine_28 (by decide) h (fun h => ?_) (fun h => ?_)
  · refine z_iconst dX4_readLine_31 ?_
    exact z_iret rfl dX4_readLine_32 rfl rfl rfl ⟨_, rfl, hs, h⟩
  · refine z_rload_n dX4_readLine_33 rfl 2 rfl ?_
    refine z_ldcS dX4_readLine_34 st_X4_61 ?_
    refine z_VB (i_LineR_takeWord (Nat.le_of_ble_eq_true rfl) hs h) vk_X4_takeWord kt_64 (Nat.le_of_ble_eq_true rfl) rfl ml_X4_54 ⟨Nat.le_of_ble_eq_true rfl, Nat.le_of_ble_eq_true rfl⟩ ⟨Nat.zero_le _, Nat.zero_le _⟩ rfl rfl (Nat.le_of_ble_eq_true rfl) dX4_readLine_36 (fun r36 μ_4 hs h => ?_)
    refine z_phi 47 [] (fun V9 hv J9 => ?_) h (fun x47 h => ?_)
    · refine z_ifeq_b (tgt := 46) dX4_readLine_39 (by decide) (eq_ite hv) (fun hv => ?_) (fun hv => ?_)
      · refine z_iconst dX4_readLine_42 ?_
        refine z_goto (tgt := 47) dX4_readLine_43 (by decide) ?_
        exact J9 _ hv.symm
      · refine z_iconst dX4_readLine_46 ?_
        exact J9 _ hv.symm
    · refine z_istore (lv' := [(5, vi x47), (4, vi r21), (3, vi (b2i r10)), (0, vr Γ 64), (1, vl a1)]) dX4_readLine_47 (Nat.le_of_ble_eq_true rfl) rfl ?_
      refine z_rload_n dX4_readLine_49 rfl 3 rfl ?_
      refine z_iload_n dX4_readLine_50 rfl 2 rfl ?_
      refine z_phi 62 [vr Γ 64] (fun V9 hv J9 => ?_) h (fun x62 h => ?_)
      · refine z_ifeq_b (tgt := 60) dX4_readLine_51 (by decide) (eq_ite hv) (fun hv => ?_) (fun hv => ?_)
        · refine z_iload dX4_readLine_54 1 rfl ?_
          refine z_ineg dX4_readLine_56 ?_
          refine z_goto (tgt := 62) dX4_readLine_57 (by decide) ?_
          exact J9 _ hv.symm
        · refine z_iload dX4_readLine_60 1 rfl ?_
          exact J9 _ hv.symm
      · refine z_iload dX4_readLine_62 0 rfl ?_
        refine z_VU (i_LineR_keep  hs h) vk_X4_keep kt_64 (Nat.le_of_ble_eq_true rfl) rfl ml_X4_63 ⟨Nat.le_of_ble_eq_true rfl, Nat.le_of_ble_eq_true rfl⟩ ⟨Nat.zero_le _, Nat.zero_le _⟩ rfl rfl (Nat.le_of_ble_eq_true rfl) dX4_readLine_64 (fun μ_5 hs h => ?_)
        refine z_rload_n dX4_readLine_67 rfl 3 rfl ?_
        refine z_getR (q := 9192) ff_4_0 dX4_readLine_68 kt_64 (Nat.le_of_ble_eq_true rfl) fl_X4_18 rfl (hs.1 _ _ sr_9192) ?_
        refine z_bipush dX4_readLine_71 (by decide) ?_
        refine z_VB (i_Tape_skipSign  hs h) vk_X9_skipSign kt_10 (Nat.le_of_ble_eq_true rfl) rfl ml_X4_67 ⟨Nat.le_of_ble_eq_true rfl, Nat.le_of_ble_eq_true rfl⟩ ⟨Nat.zero_le _, Nat.zero_le _⟩ rfl rfl (Nat.le_of_ble_eq_true rfl) dX4_readLine_73 (fun r73 μ_6 hs h => ?_)
        refine z_phi 85 [] (fun V9 hv J9 => ?_) h (fun x85 h => ?_)
        · refine z_ifeq_b (tgt := 84) dX4_readLine_76 (by decide) (eq_ite hv) (fun hv => ?_) (fun hv => ?_)
          · refine z_iload dX4_readLine_79 1 rfl ?_
            refine z_goto (tgt := 85) dX4_readLine_81 (by decide) ?_
            exact J9 _ hv.symm
          · refine z_iconst dX4_readLine_84 ?_
            exact J9 _ hv.symm
        · exact z_iret rfl dX4_readLine_85 rfl rfl rfl ⟨_, rfl, hs, h⟩
abbrev Y_LineR_readMotion : Yt := (5, (some .boolean), yX4_readMotion.name, { frames := 8, cells := 0, slots := 0, locals := 191 }, 175, 0, 0)
def b_LineR_readMotion_38 (R_16 : Int64 → Int → Mem → Prop) (X_16_50 : Mem → Prop) (X_16_65 : Mem → Prop) (k : Bool → Mem → Prop) (v1_1 : Int64) (v3_1 : Int) (μ_4 : Mem) : Prop := f_Tape_isWord 24 μ_4 (fun r44 μ_5 => if r44 = true then (if w v3_1 < w 12 then (f_LineR_readLine v1_1 μ_5 (fun r76 μ_6 => if w r76 = 0 then (k false μ_6) else (∀ v1_2 : Int64, v1_2 = v1_1 ||| (w_lshl 1 r76) → R_16 v1_2 (v3_1 + 1) μ_6))) else (X_16_65 μ_5)) else (X_16_50 μ_5))
def l_LineR_readMotion_16 (X_16_50 : Mem → Prop) (X_16_65 : Mem → Prop) (k : Bool → Mem → Prop) : Nat → Int64 → Int → Mem → Prop
  | 0, _, _, _ => False
  | fu16 + 1, v1, v3, μ_3 => if w 12 < w v3 then (k false μ_3) else (if 0 < w v3 then (if (v_Tape_isEnd μ_3) = true then (k true μ_3) else (b_LineR_readMotion_38 (l_LineR_readMotion_16 X_16_50 X_16_65 k fu16) X_16_50 X_16_65 k v1 v3 μ_3)) else (b_LineR_readMotion_38 (l_LineR_readMotion_16 X_16_50 X_16_65 k fu16) X_16_50 X_16_65 k v1 v3 μ_3))
def f_LineR_readMotion  (μ : Mem) (k : Bool → Mem → Prop) : Prop := ∀ μ_1 : Mem, μ_1 = sI μ 9195 0 0 → f_Tape_begin  μ_1 (fun μ_2 => ∃ m16 : Nat, l_LineR_readMotion_16 (fun (μ_7 : Mem) => f_Tape_fail 1 μ_7 (fun r55 μ_8 => k r55 μ_8)) (fun (μ_9 : Mem) => f_Tape_fail 4 μ_9 (fun r70 μ_10 => k r70 μ_10)) k m16 0 0 μ_2)
theorem B_LineR_readMotion_38 {l : Launch} {Γ : Gam} {g : Nat} {R_16 : Int64 → Int → Mem → Prop} {X_16_50 : Mem → Prop} {X_16_65 : Mem → Prop} {k : Bool → Mem → Prop} {v1_1 : Int64} {v3_1 : Int} {μ_4 : Mem} (hR_16 : ∀ (u1 : Int64) (u3 : Int) (ν : Mem), StatR ν.2.2 → R_16 u1 u3 ν → SW l Γ yX4_readMotion.cls cX4_readMotion Y_LineR_readMotion (pB k) g 175 0 0 ν 16 [(0, vr Γ 64), (1, vl u1), (3, vi u3)] []) (hX_16_50 : ∀ (ν : Mem), StatR ν.2.2 → X_16_50 ν → SW l Γ yX4_readMotion.cls cX4_readMotion Y_LineR_readMotion (pB k) g 175 0 0 ν 50 [(0, vr Γ 64)] []) (hX_16_65 : ∀ (ν : Mem), StatR ν.2.2 → X_16_65 ν → SW l Γ yX4_readMotion.cls cX4_readMotion Y_LineR_readMotion (pB k) g 175 0 0 ν 65 [(0, vr Γ 64)] []) (hs : StatR μ_4.2.2) (h : b_LineR_readMotion_38 R_16 X_16_50 X_16_65 k v1_1 v3_1 μ_4) : SW l Γ yX4_readMotion.cls cX4_readMotion Y_LineR_readMotion (pB k) g 175 0 0 μ_4 38 [(0, vr Γ 64), (1, vl v1_1), (3, vi v3_1)] [] := by
  unfold b_LineR_readMotion_38 at h
  refine z_rload_n dX4_readMotion_38 rfl 0 rfl ?_
  refine z_getR (q := 9192) ff_4_0 dX4_readMotion_39 kt_64 (Nat.le_of_ble_eq_true rfl) fl_X4_18 rfl (hs.1 _ _ sr_9192) ?_
  refine z_ldcS dX4_readMotion_42 st_X4_35 ?_
  refine z_VB (i_Tape_isWord (Nat.le_of_ble_eq_true rfl) hs h) vk_X9_isWord kt_10 (Nat.le_of_ble_eq_true rfl) rfl ml_X4_37 ⟨Nat.le_of_ble_eq_true rfl, Nat.le_of_ble_eq_true rfl⟩ ⟨Nat.zero_le _, Nat.zero_le _⟩ rfl rfl (Nat.le_of_ble_eq_true rfl) dX4_readMotion_44 (fun r44 μ_5 hs h => ?_)
  refine z_ifne_b (tgt := 59) dX4_readMotion_47 (by decide) h (fun h => ?_) (fun h => ?_)
  · refine z_iload_n dX4_readMotion_59 rfl 2 rfl ?_
    refine z_bipush dX4_readMotion_60 (by decide) ?_
    refine z_icmp_lt (tgt := 74) dX4_readMotion_62 (by decide) h (fun h => ?_) (fun h => ?_)
    · refine z_rload_n dX4_readMotion_74 rfl 0 rfl ?_
      refine z_lload_n dX4_readMotion_75 rfl 1 rfl ?_
      refine z_VI (i_LineR_readLine  hs h) vk_X4_readLine kt_64 (Nat.le_of_ble_eq_true rfl) rfl ml_X4_45 ⟨Nat.le_of_ble_eq_true rfl, Nat.le_of_ble_eq_true rfl⟩ ⟨Nat.zero_le _, Nat.zero_le _⟩ rfl rfl (Nat.le_of_ble_eq_true rfl) dX4_readMotion_76 (fun r76 μ_6 hs h => ?_)
      refine z_istore (lv' := [(4, vi r76), (0, vr Γ 64), (1, vl v1_1), (3, vi v3_1)]) dX4_readMotion_79 (Nat.le_of_ble_eq_true rfl) rfl ?_
      refine z_iload dX4_readMotion_81 0 rfl ?_
      refine z_if_ne (tgt := 88) dX4_readMotion_83 (by decide) h (fun h => ?_) (fun h => ?_)
      · refine z_iconst dX4_readMotion_86 ?_
        exact z_zret (b := false) rfl dX4_readMotion_87 rfl rfl rfl ⟨_, rfl, hs, h⟩
      · refine z_lload_n dX4_readMotion_88 rfl 2 rfl ?_
        refine z_lconst (v := 1) dX4_readMotion_89 rfl ?_
        refine z_iload dX4_readMotion_90 0 rfl ?_
        refine z_lshl dX4_readMotion_92 ?_
        refine z_lor dX4_readMotion_93 ?_
        refine z_nmL (fun v1_2 ev1_2 => ?_)
        replace h := h v1_2 ev1_2
        refine z_lstore_n (lv' := [(1, vl v1_2), (4, vi r76), (0, vr Γ 64), (3, vi v3_1)]) dX4_readMotion_94 rfl (Nat.le_of_ble_eq_true rfl) rfl ?_
        refine z_iinc (j := 3) (lv' := [(3, vi (v3_1 + 1)), (1, vl v1_2), (4, vi r76), (0, vr Γ 64)]) dX4_readMotion_95 rfl (Nat.le_of_ble_eq_true rfl) rfl ?_
        refine z_goto (tgt := 16) dX4_readMotion_98 (by decide) ?_
        refine z_sub (lv' := [(0, vr Γ 64), (1, vl v1_2), (3, vi (v3_1 + 1))]) [3, 1, 0] rfl ?_
        exact hR_16 v1_2 (v3_1 + 1) μ_6 hs h
    · refine z_sub (lv' := [(0, vr Γ 64)]) [0] rfl ?_
      exact hX_16_65 μ_5 hs h
  · refine z_sub (lv' := [(0, vr Γ 64)]) [0] rfl ?_
    exact hX_16_50 μ_5 hs h
theorem L_LineR_readMotion_16 {l : Launch} {Γ : Gam} {g : Nat} {X_16_50 : Mem → Prop} {X_16_65 : Mem → Prop} {k : Bool → Mem → Prop} (hX_16_50 : ∀ (ν : Mem), StatR ν.2.2 → X_16_50 ν → SW l Γ yX4_readMotion.cls cX4_readMotion Y_LineR_readMotion (pB k) g 175 0 0 ν 50 [(0, vr Γ 64)] []) (hX_16_65 : ∀ (ν : Mem), StatR ν.2.2 → X_16_65 ν → SW l Γ yX4_readMotion.cls cX4_readMotion Y_LineR_readMotion (pB k) g 175 0 0 ν 65 [(0, vr Γ 64)] []) (n9 : Nat) : ∀ (v1 : Int64) (v3 : Int) (μ_3 : Mem), StatR μ_3.2.2 → l_LineR_readMotion_16 X_16_50 X_16_65 k n9 v1 v3 μ_3 → SW l Γ yX4_readMotion.cls cX4_readMotion Y_LineR_readMotion (pB k) g 175 0 0 μ_3 16 [(0, vr Γ 64), (1, vl v1), (3, vi v3)] [] := by
  induction n9 with
  | zero =>
    intro v1 v3 μ_3 hs h
    exact h.elim
  | succ n9 hR_16 =>
    intro v1 v3 μ_3 hs h
    rw [l_LineR_readMotion_16] at h
    refine z_iload_n dX4_readMotion_16 rfl 2 rfl ?_
    refine z_bipush dX4_readMotion_17 (by decide) ?_
    refine z_icmp_gt (tgt := 101) dX4_readMotion_19 (by decide) h (fun h => ?_) (fun h => ?_)
    · refine z_iconst dX4_readMotion_101 ?_
      exact z_zret (b := false) rfl dX4_readMotion_102 rfl rfl rfl ⟨_, rfl, hs, h⟩
    · refine z_iload_n dX4_readMotion_22 rfl 2 rfl ?_
      refine z_if_le (tgt := 38) dX4_readMotion_23 (by decide) h (fun h => ?_) (fun h => ?_)
      · refine z_rload_n dX4_readMotion_26 rfl 0 rfl ?_
        refine z_getR (q := 9192) ff_4_0 dX4_readMotion_27 kt_64 (Nat.le_of_ble_eq_true rfl) fl_X4_18 rfl (hs.1 _ _ sr_9192) ?_
        refine z_VE (i_Tape_isEnd ) vk_X9_isEnd kt_10 (Nat.le_of_ble_eq_true rfl) rfl ml_X4_31 ⟨Nat.le_of_ble_eq_true rfl, Nat.le_of_ble_eq_true rfl⟩ ⟨Nat.zero_le _, Nat.zero_le _⟩ rfl rfl (Nat.le_of_ble_eq_true rfl) dX4_readMotion_30 ?_
        refine z_ifeq_b (tgt := 38) dX4_readMotion_33 (by decide) h (fun h => ?_) (fun h => ?_)
        · refine z_iconst dX4_readMotion_36 ?_
          exact z_zret (b := true) rfl dX4_readMotion_37 rfl rfl rfl ⟨_, rfl, hs, h⟩
        · refine z_sub (lv' := [(0, vr Γ 64), (1, vl v1), (3, vi v3)]) [0, 1, 2] rfl ?_
          exact B_LineR_readMotion_38 hR_16 hX_16_50 hX_16_65 hs h
      · refine z_sub (lv' := [(0, vr Γ 64), (1, vl v1), (3, vi v3)]) [0, 1, 2] rfl ?_
        exact B_LineR_readMotion_38 hR_16 hX_16_50 hX_16_65 hs h
theorem i_LineR_readMotion {l : Launch} {Γ : Gam} {g : Nat} {μ : Mem} {k : Bool → Mem → Prop} (hs : StatR μ.2.2) (h : f_LineR_readMotion  μ k) : CT l Γ yX4_readMotion cX4_readMotion 5 (some .boolean) 8 191 0 0 [vr Γ 64] g 175 μ (pB k) := by
  refine SW.ct (by decide) (Nat.le_of_ble_eq_true rfl) ?_
  refine z_sub (lv' := [(0, vr Γ 64)]) [0] rfl ?_
  show SW l Γ yX4_readMotion.cls cX4_readMotion Y_LineR_readMotion (pB k) g 175 0 0 μ 0 [(0, vr Γ 64)] []
  unfold f_LineR_readMotion at h
  refine z_lconst (v := 0) dX4_readMotion_0 rfl ?_
  refine z_lstore_n (lv' := [(1, vl 0), (0, vr Γ 64)]) dX4_readMotion_1 rfl (Nat.le_of_ble_eq_true rfl) rfl ?_
  refine z_rload_n dX4_readMotion_2 rfl 1 rfl ?_
  refine z_iconst dX4_readMotion_3 ?_
  refine z_putI (q := 9195) ff_4_3 (Or.inl rfl) rfl dX4_readMotion_4 kt_64 (Nat.le_of_ble_eq_true rfl) fl_X4_22 rfl ?_
  refine z_mm (fun μ_1 eμ_1 => ?_)
  replace h := h μ_1 eμ_1
  replace hs : StatR μ_1.2.2 := by rw [eμ_1]; exact hs
  refine z_rload_n dX4_readMotion_7 rfl 1 rfl ?_
  refine z_getR (q := 9192) ff_4_0 dX4_readMotion_8 kt_64 (Nat.le_of_ble_eq_true rfl) fl_X4_18 rfl (hs.1 _ _ sr_9192) ?_
  refine z_VU (i_Tape_begin  hs h) vk_X9_begin kt_10 (Nat.le_of_ble_eq_true rfl) rfl ml_X4_26 ⟨Nat.le_of_ble_eq_true rfl, Nat.le_of_ble_eq_true rfl⟩ ⟨Nat.zero_le _, Nat.zero_le _⟩ rfl rfl (Nat.le_of_ble_eq_true rfl) dX4_readMotion_11 (fun μ_2 hs h => ?_)
  refine z_iconst dX4_readMotion_14 ?_
  refine z_istore_n (lv' := [(3, vi 0), (1, vl 0), (0, vr Γ 64)]) dX4_readMotion_15 rfl (Nat.le_of_ble_eq_true rfl) rfl ?_
  obtain ⟨m16, h⟩ := h
  refine z_sub (lv' := [(0, vr Γ 64), (1, vl 0), (3, vi 0)]) [2, 1, 0] rfl ?_
  refine L_LineR_readMotion_16 (fun μ_7 hs h => ?_) (fun μ_9 hs h => ?_) m16 0 0 μ_2 hs h
  · refine z_rload_n dX4_readMotion_50 rfl 0 rfl ?_
    refine z_getR (q := 9192) ff_4_0 dX4_readMotion_51 kt_64 (Nat.le_of_ble_eq_true rfl) fl_X4_18 rfl (hs.1 _ _ sr_9192) ?_
    refine z_iconst dX4_readMotion_54 ?_
    refine z_VB (i_Tape_fail  hs h) vk_X9_fail kt_10 (Nat.le_of_ble_eq_true rfl) rfl ml_X4_41 ⟨Nat.le_of_ble_eq_true rfl, Nat.le_of_ble_eq_true rfl⟩ ⟨Nat.zero_le _, Nat.zero_le _⟩ rfl rfl (Nat.le_of_ble_eq_true rfl) dX4_readMotion_55 (fun r55 μ_8 hs h => ?_)
    exact z_zret (b := r55) rfl dX4_readMotion_58 rfl rfl rfl ⟨_, rfl, hs, h⟩
  · refine z_rload_n dX4_readMotion_65 rfl 0 rfl ?_
    refine z_getR (q := 9192) ff_4_0 dX4_readMotion_66 kt_64 (Nat.le_of_ble_eq_true rfl) fl_X4_18 rfl (hs.1 _ _ sr_9192) ?_
    refine z_iconst dX4_readMotion_69 ?_
    refine z_VB (i_Tape_fail  hs h) vk_X9_fail kt_10 (Nat.le_of_ble_eq_true rfl) rfl ml_X4_41 ⟨Nat.le_of_ble_eq_true rfl, Nat.le_of_ble_eq_true rfl⟩ ⟨Nat.zero_le _, Nat.zero_le _⟩ rfl rfl (Nat.le_of_ble_eq_true rfl) dX4_readMotion_70 (fun r70 μ_10 hs h => ?_)
    exact z_zret (b := r70) rfl dX4_readMotion_73 rfl rfl rfl ⟨_, rfl, hs, h⟩
abbrev Y_Papers_addMotion : Yt := (2, (some .int), yX6_addMotion.name, { frames := 1, cells := 0, slots := 0, locals := 22 }, 175, 0, 0)
def f_Papers_addMotion (a1 : Int) (μ : Mem) (k : Int → Mem → Prop) : Prop := ∀ μ_1 : Mem, μ_1 = set' μ 13 24 (rI μ 2543 0) a1 → ∀ μ_2 : Mem, μ_2 = sI μ_1 2543 0 ((rI μ_1 2543 0) + 1) → k ((rI μ_2 2543 0) - 1) μ_2
theorem i_Papers_addMotion {l : Launch} {Γ : Gam} {g : Nat} {a1 : Int} {μ : Mem} {k : Int → Mem → Prop} (hs : StatR μ.2.2) (h : f_Papers_addMotion a1 μ k) : CT l Γ yX6_addMotion cX6_addMotion 2 (some .int) 1 22 0 0 [vr Γ 12, vi a1] g 175 μ (pI k) := by
  refine SW.ct (by decide) (Nat.le_of_ble_eq_true rfl) ?_
  refine z_sub (lv' := [(0, vr Γ 12), (1, vi a1)]) [0, 1] rfl ?_
  show SW l Γ yX6_addMotion.cls cX6_addMotion Y_Papers_addMotion (pI k) g 175 0 0 μ 0 [(0, vr Γ 12), (1, vi a1)] []
  unfold f_Papers_addMotion at h
  refine z_rload_n dX6_addMotion_0 rfl 0 rfl ?_
  refine z_getR (q := 2536) ff_6_0 dX6_addMotion_1 kt_12 (Nat.le_of_ble_eq_true rfl) fl_X6_9 rfl (hs.1 _ _ sr_2536) ?_
  refine z_rload_n dX6_addMotion_4 rfl 0 rfl ?_
  refine z_getI (q := 2543) ff_6_7 dX6_addMotion_5 kt_12 (Nat.le_of_ble_eq_true rfl) fl_X6_38 rfl ?_
  refine z_iload_n dX6_addMotion_8 rfl 1 rfl ?_
  refine z_NM (i_X11_set kt_13 (Nat.le_of_ble_eq_true rfl)) ok_X11_set nw_X6_49 ⟨Nat.le_of_ble_eq_true rfl, Nat.le_of_ble_eq_true rfl⟩ ⟨Nat.zero_le _, Nat.zero_le _⟩ rfl rfl (Nat.le_of_ble_eq_true rfl) dX6_addMotion_9 ?_
  refine z_mm (fun μ_1 eμ_1 => ?_)
  replace h := h μ_1 eμ_1
  replace hs : StatR μ_1.2.2 := by rw [eμ_1]; exact (StatR.set hs)
  refine z_rload_n dX6_addMotion_12 rfl 0 rfl ?_
  refine z_dup dX6_addMotion_13 rfl ?_
  refine z_getI (q := 2543) ff_6_7 dX6_addMotion_14 kt_12 (Nat.le_of_ble_eq_true rfl) fl_X6_38 rfl ?_
  refine z_iconst dX6_addMotion_17 ?_
  refine z_iadd dX6_addMotion_18 ?_
  refine z_putI (q := 2543) ff_6_7 (Or.inl rfl) rfl dX6_addMotion_19 kt_12 (Nat.le_of_ble_eq_true rfl) fl_X6_38 rfl ?_
  refine z_mm (fun μ_2 eμ_2 => ?_)
  replace h := h μ_2 eμ_2
  replace hs : StatR μ_2.2.2 := by rw [eμ_2]; exact hs
  refine z_rload_n dX6_addMotion_22 rfl 0 rfl ?_
  refine z_getI (q := 2543) ff_6_7 dX6_addMotion_23 kt_12 (Nat.le_of_ble_eq_true rfl) fl_X6_38 rfl ?_
  refine z_iconst dX6_addMotion_26 ?_
  refine z_isub dX6_addMotion_27 ?_
  exact z_iret rfl dX6_addMotion_28 rfl rfl rfl ⟨_, rfl, hs, h⟩
abbrev Y_H_motion : Yt := (5, (some .int), yX11_motion.name, { frames := 9, cells := 0, slots := 0, locals := 215 }, 175, 0, 0)
def l_H_motion_100 (r85 : Int) (X_100_151 : Mem → Prop) : Nat → Int → Mem → Prop
  | 0, _, _ => False
  | fu100 + 1, v4, μ_7 => if w v4 < w (rI μ_7 9195 0) then (f_Floor_addLine r85 (at' μ_7 65 12 v4) (at' μ_7 66 12 v4) (-1) μ_7 (fun μ_8 => (l_H_motion_100 r85 X_100_151 fu100) (v4 + 1) μ_8)) else (X_100_151 μ_7)
def b_H_motion_80 (k : Int → Mem → Prop) (v1 : Int) (μ_4 : Mem) : Prop := f_Papers_addMotion v1 μ_4 (fun r85 μ_5 => f_Floor_bring r85 μ_5 (fun μ_6 => ∃ m100 : Nat, l_H_motion_100 r85 (fun (μ_9 : Mem) => f_Chair_closeLatest  μ_9 (fun μ_10 => k r85 μ_10)) m100 0 μ_6))
def f_H_motion (a1 : Int) (μ : Mem) (k : Int → Mem → Prop) : Prop := if (v_Reg_hasAffiliate a1 μ) = true then (if w (rI μ 2543 0) < w 24 then (f_LineR_readMotion  μ (fun r29 μ_1 => ∀ μ_2 : Mem, μ_2 = sI μ_1 2281 0 0 → if r29 = true then (if (v_H_isLate μ_2) = true then (f_H_isTakenLate a1 (rI μ_2 9195 0) μ_2 (fun r71 μ_3 => if r71 = true then (b_H_motion_80 k a1 μ_3) else (k (-6) μ_3))) else (b_H_motion_80 k a1 μ_2)) else (k ((-1) - (rI μ_2 2286 0)) μ_2))) else (k (-1) μ)) else (k (-1) μ)
theorem L_H_motion_100 {l : Launch} {Γ : Gam} {g : Nat} {r85 : Int} {X_100_151 : Mem → Prop} {k : Int → Mem → Prop} (hX_100_151 : ∀ (ν : Mem), StatR ν.2.2 → X_100_151 ν → SW l Γ yX11_motion.cls cX11_motion Y_H_motion (pI k) g 175 0 0 ν 151 [(0, vr Γ 0), (3, vi r85)] []) (n9 : Nat) : ∀ (v4 : Int) (μ_7 : Mem), StatR μ_7.2.2 → l_H_motion_100 r85 X_100_151 n9 v4 μ_7 → SW l Γ yX11_motion.cls cX11_motion Y_H_motion (pI k) g 175 0 0 μ_7 100 [(0, vr Γ 0), (3, vi r85), (4, vi v4)] [] := by
  induction n9 with
  | zero =>
    intro v4 μ_7 hs h
    exact h.elim
  | succ n9 hR_100 =>
    intro v4 μ_7 hs h
    rw [l_H_motion_100] at h
    refine z_iload dX11_motion_100 2 rfl ?_
    refine z_rload_n dX11_motion_102 rfl 0 rfl ?_
    refine z_getR (q := 1003) ff_11_3 dX11_motion_103 kt_0 (Nat.le_of_ble_eq_true rfl) fl_X11_48 rfl (hs.1 _ _ sr_1003) ?_
    refine z_getI (q := 9195) ff_4_3 dX11_motion_106 kt_64 (Nat.le_of_ble_eq_true rfl) fl_X11_193 rfl ?_
    refine z_icmp_ge (tgt := 151) dX11_motion_109 (by decide) h (fun h => ?_) (fun h => ?_)
    · refine z_rload_n dX11_motion_112 rfl 0 rfl ?_
      refine z_getR (q := 1005) ff_11_5 dX11_motion_113 kt_0 (Nat.le_of_ble_eq_true rfl) fl_X11_57 rfl (hs.1 _ _ sr_1005) ?_
      refine z_iload_n dX11_motion_116 rfl 1 rfl ?_
      refine z_rload_n dX11_motion_117 rfl 0 rfl ?_
      refine z_getR (q := 1003) ff_11_3 dX11_motion_118 kt_0 (Nat.le_of_ble_eq_true rfl) fl_X11_48 rfl (hs.1 _ _ sr_1003) ?_
      refine z_getR (q := 9193) ff_4_1 dX11_motion_121 kt_64 (Nat.le_of_ble_eq_true rfl) fl_X11_203 rfl (hs.1 _ _ sr_9193) ?_
      refine z_iload dX11_motion_124 2 rfl ?_
      refine z_SE (i_X11_at kt_65 (Nat.le_of_ble_eq_true rfl)) ok_X11_at ml_X11_207 ⟨Nat.le_of_ble_eq_true rfl, Nat.le_of_ble_eq_true rfl⟩ ⟨Nat.zero_le _, Nat.zero_le _⟩ rfl rfl (Nat.le_of_ble_eq_true rfl) dX11_motion_126 ?_
      refine z_rload_n dX11_motion_129 rfl 0 rfl ?_
      refine z_getR (q := 1003) ff_11_3 dX11_motion_130 kt_0 (Nat.le_of_ble_eq_true rfl) fl_X11_48 rfl (hs.1 _ _ sr_1003) ?_
      refine z_getR (q := 9194) ff_4_2 dX11_motion_133 kt_64 (Nat.le_of_ble_eq_true rfl) fl_X11_211 rfl (hs.1 _ _ sr_9194) ?_
      refine z_iload dX11_motion_136 2 rfl ?_
      refine z_SE (i_X11_at kt_66 (Nat.le_of_ble_eq_true rfl)) ok_X11_at ml_X11_207 ⟨Nat.le_of_ble_eq_true rfl, Nat.le_of_ble_eq_true rfl⟩ ⟨Nat.zero_le _, Nat.zero_le _⟩ rfl rfl (Nat.le_of_ble_eq_true rfl) dX11_motion_138 ?_
      refine z_iconst dX11_motion_141 ?_
      refine z_VU (i_Floor_addLine  hs h) vk_X3_addLine kt_67 (Nat.le_of_ble_eq_true rfl) rfl ml_X11_214 ⟨Nat.le_of_ble_eq_true rfl, Nat.le_of_ble_eq_true rfl⟩ ⟨Nat.zero_le _, Nat.zero_le _⟩ rfl rfl (Nat.le_of_ble_eq_true rfl) dX11_motion_142 (fun μ_8 hs h => ?_)
      refine z_iinc (j := 2) (lv' := [(4, vi (v4 + 1)), (0, vr Γ 0), (3, vi r85)]) dX11_motion_145 rfl (Nat.le_of_ble_eq_true rfl) rfl ?_
      refine z_goto (tgt := 100) dX11_motion_148 (by decide) ?_
      refine z_sub (lv' := [(0, vr Γ 0), (3, vi r85), (4, vi (v4 + 1))]) [1, 2, 0] rfl ?_
      exact hR_100 (v4 + 1) μ_8 hs h
    · refine z_sub (lv' := [(0, vr Γ 0), (3, vi r85)]) [0, 1] rfl ?_
      exact hX_100_151 μ_7 hs h
theorem B_H_motion_80 {l : Launch} {Γ : Gam} {g : Nat} {k : Int → Mem → Prop} {v1 : Int} {μ_4 : Mem} (hs : StatR μ_4.2.2) (h : b_H_motion_80 k v1 μ_4) : SW l Γ yX11_motion.cls cX11_motion Y_H_motion (pI k) g 175 0 0 μ_4 80 [(0, vr Γ 0), (1, vi v1)] [] := by
  unfold b_H_motion_80 at h
  refine z_rload_n dX11_motion_80 rfl 0 rfl ?_
  refine z_getR (q := 1004) ff_11_4 dX11_motion_81 kt_0 (Nat.le_of_ble_eq_true rfl) fl_X11_26 rfl (hs.1 _ _ sr_1004) ?_
  refine z_iload_n dX11_motion_84 rfl 1 rfl ?_
  refine z_VI (i_Papers_addMotion  hs h) vk_X6_addMotion kt_12 (Nat.le_of_ble_eq_true rfl) rfl ml_X11_200 ⟨Nat.le_of_ble_eq_true rfl, Nat.le_of_ble_eq_true rfl⟩ ⟨Nat.zero_le _, Nat.zero_le _⟩ rfl rfl (Nat.le_of_ble_eq_true rfl) dX11_motion_85 (fun r85 μ_5 hs h => ?_)
  refine z_istore_n (lv' := [(3, vi r85), (0, vr Γ 0), (1, vi v1)]) dX11_motion_88 rfl (Nat.le_of_ble_eq_true rfl) rfl ?_
  refine z_rload_n dX11_motion_89 rfl 1 rfl ?_
  refine z_getR (q := 1005) ff_11_5 dX11_motion_90 kt_0 (Nat.le_of_ble_eq_true rfl) fl_X11_57 rfl (hs.1 _ _ sr_1005) ?_
  refine z_iload_n dX11_motion_93 rfl 0 rfl ?_
  refine z_VU (i_Floor_bring  hs h) vk_X3_bring kt_67 (Nat.le_of_ble_eq_true rfl) rfl ml_X11_174 ⟨Nat.le_of_ble_eq_true rfl, Nat.le_of_ble_eq_true rfl⟩ ⟨Nat.zero_le _, Nat.zero_le _⟩ rfl rfl (Nat.le_of_ble_eq_true rfl) dX11_motion_94 (fun μ_6 hs h => ?_)
  refine z_iconst dX11_motion_97 ?_
  refine z_istore (lv' := [(4, vi 0), (3, vi r85), (0, vr Γ 0), (1, vi v1)]) dX11_motion_98 (Nat.le_of_ble_eq_true rfl) rfl ?_
  obtain ⟨m100, h⟩ := h
  refine z_sub (lv' := [(0, vr Γ 0), (3, vi r85), (4, vi 0)]) [2, 1, 0] rfl ?_
  refine L_H_motion_100 (fun μ_9 hs h => ?_) m100 0 μ_6 hs h
  refine z_rload_n dX11_motion_151 rfl 0 rfl ?_
  refine z_getR (q := 1007) ff_11_7 dX11_motion_152 kt_0 (Nat.le_of_ble_eq_true rfl) fl_X11_75 rfl (hs.1 _ _ sr_1007) ?_
  refine z_VU (i_Chair_closeLatest  hs h) vk_X0_closeLatest kt_83 (Nat.le_of_ble_eq_true rfl) rfl ml_X11_180 ⟨Nat.le_of_ble_eq_true rfl, Nat.le_of_ble_eq_true rfl⟩ ⟨Nat.zero_le _, Nat.zero_le _⟩ rfl rfl (Nat.le_of_ble_eq_true rfl) dX11_motion_155 (fun μ_10 hs h => ?_)
  refine z_iload_n dX11_motion_158 rfl 1 rfl ?_
  exact z_iret rfl dX11_motion_159 rfl rfl rfl ⟨_, rfl, hs, h⟩
theorem i_H_motion {l : Launch} {Γ : Gam} {g : Nat} {a1 : Int} {μ : Mem} {k : Int → Mem → Prop} (hs : StatR μ.2.2) (h : f_H_motion a1 μ k) : CT l Γ yX11_motion cX11_motion 5 (some .int) 9 215 0 0 [vr Γ 0, vi a1] g 175 μ (pI k) := by
  refine SW.ct (by decide) (Nat.le_of_ble_eq_true rfl) ?_
  refine z_sub (lv' := [(0, vr Γ 0), (1, vi a1)]) [0, 1] rfl ?_
  show SW l Γ yX11_motion.cls cX11_motion Y_H_motion (pI k) g 175 0 0 μ 0 [(0, vr Γ 0), (1, vi a1)] []
  unfold f_H_motion at h
  refine z_rload_n dX11_motion_0 rfl 0 rfl ?_
  refine z_getR (q := 1000) ff_11_0 dX11_motion_1 kt_0 (Nat.le_of_ble_eq_true rfl) fl_X11_12 rfl (hs.1 _ _ sr_1000) ?_
  refine z_iload_n dX11_motion_4 rfl 1 rfl ?_
  refine z_VE (i_Reg_hasAffiliate ) vk_X7_hasAffiliate kt_1 (Nat.le_of_ble_eq_true rfl) rfl ml_X11_103 ⟨Nat.le_of_ble_eq_true rfl, Nat.le_of_ble_eq_true rfl⟩ ⟨Nat.zero_le _, Nat.zero_le _⟩ rfl rfl (Nat.le_of_ble_eq_true rfl) dX11_motion_5 ?_
  refine z_ifeq_b (tgt := 23) dX11_motion_8 (by decide) h (fun h => ?_) (fun h => ?_)
  · refine z_rload_n dX11_motion_11 rfl 0 rfl ?_
    refine z_getR (q := 1004) ff_11_4 dX11_motion_12 kt_0 (Nat.le_of_ble_eq_true rfl) fl_X11_26 rfl (hs.1 _ _ sr_1004) ?_
    refine z_getI (q := 2543) ff_6_7 dX11_motion_15 kt_12 (Nat.le_of_ble_eq_true rfl) fl_X11_183 rfl ?_
    refine z_bipush dX11_motion_18 (by decide) ?_
    refine z_icmp_lt (tgt := 25) dX11_motion_20 (by decide) h (fun h => ?_) (fun h => ?_)
    · refine z_rload_n dX11_motion_25 rfl 0 rfl ?_
      refine z_getR (q := 1003) ff_11_3 dX11_motion_26 kt_0 (Nat.le_of_ble_eq_true rfl) fl_X11_48 rfl (hs.1 _ _ sr_1003) ?_
      refine z_VB (i_LineR_readMotion  hs h) vk_X4_readMotion kt_64 (Nat.le_of_ble_eq_true rfl) rfl ml_X11_186 ⟨Nat.le_of_ble_eq_true rfl, Nat.le_of_ble_eq_true rfl⟩ ⟨Nat.zero_le _, Nat.zero_le _⟩ rfl rfl (Nat.le_of_ble_eq_true rfl) dX11_motion_29 (fun r29 μ_1 hs h => ?_)
      refine z_istore_n (lv' := [(2, vi (b2i r29)), (0, vr Γ 0), (1, vi a1)]) dX11_motion_32 rfl (Nat.le_of_ble_eq_true rfl) rfl ?_
      refine z_rload_n dX11_motion_33 rfl 1 rfl ?_
      refine z_getR (q := 1001) ff_11_1 dX11_motion_34 kt_0 (Nat.le_of_ble_eq_true rfl) fl_X11_19 rfl (hs.1 _ _ sr_1001) ?_
      refine z_iconst dX11_motion_37 ?_
      refine z_putI (q := 2281) ff_9_1 (Or.inl rfl) rfl dX11_motion_38 kt_10 (Nat.le_of_ble_eq_true rfl) fl_X11_153 rfl ?_
      refine z_mm (fun μ_2 eμ_2 => ?_)
      replace h := h μ_2 eμ_2
      replace hs : StatR μ_2.2.2 := by rw [eμ_2]; exact hs
      refine z_iload_n dX11_motion_41 rfl 0 rfl ?_
      refine z_ifne_b (tgt := 55) dX11_motion_42 (by decide) h (fun h => ?_) (fun h => ?_)
      · refine z_rload_n dX11_motion_55 rfl 1 rfl ?_
        refine z_VE (i_H_isLate hs) vk_X11_isLate kt_0 (Nat.le_of_ble_eq_true rfl) rfl ml_X11_190 ⟨Nat.le_of_ble_eq_true rfl, Nat.le_of_ble_eq_true rfl⟩ ⟨Nat.zero_le _, Nat.zero_le _⟩ rfl rfl (Nat.le_of_ble_eq_true rfl) dX11_motion_56 ?_
        refine z_ifeq_b (tgt := 80) dX11_motion_59 (by decide) h (fun h => ?_) (fun h => ?_)
        · refine z_rload_n dX11_motion_62 rfl 1 rfl ?_
          refine z_iload_n dX11_motion_63 rfl 2 rfl ?_
          refine z_rload_n dX11_motion_64 rfl 1 rfl ?_
          refine z_getR (q := 1003) ff_11_3 dX11_motion_65 kt_0 (Nat.le_of_ble_eq_true rfl) fl_X11_48 rfl (hs.1 _ _ sr_1003) ?_
          refine z_getI (q := 9195) ff_4_3 dX11_motion_68 kt_64 (Nat.le_of_ble_eq_true rfl) fl_X11_193 rfl ?_
          refine z_VB (i_H_isTakenLate  hs h) vk_X11_isTakenLate kt_0 (Nat.le_of_ble_eq_true rfl) rfl ml_X11_196 ⟨Nat.le_of_ble_eq_true rfl, Nat.le_of_ble_eq_true rfl⟩ ⟨Nat.zero_le _, Nat.zero_le _⟩ rfl rfl (Nat.le_of_ble_eq_true rfl) dX11_motion_71 (fun r71 μ_3 hs h => ?_)
          refine z_ifne_b (tgt := 80) dX11_motion_74 (by decide) h (fun h => ?_) (fun h => ?_)
          · refine z_sub (lv' := [(0, vr Γ 0), (1, vi a1)]) [1, 2] rfl ?_
            exact B_H_motion_80 hs h
          · refine z_bipush dX11_motion_77 (by decide) ?_
            exact z_iret rfl dX11_motion_79 rfl rfl rfl ⟨_, rfl, hs, h⟩
        · refine z_sub (lv' := [(0, vr Γ 0), (1, vi a1)]) [1, 2] rfl ?_
          exact B_H_motion_80 hs h
      · refine z_iconst dX11_motion_45 ?_
        refine z_rload_n dX11_motion_46 rfl 1 rfl ?_
        refine z_getR (q := 1001) ff_11_1 dX11_motion_47 kt_0 (Nat.le_of_ble_eq_true rfl) fl_X11_19 rfl (hs.1 _ _ sr_1001) ?_
        refine z_getI (q := 2286) ff_9_6 dX11_motion_50 kt_10 (Nat.le_of_ble_eq_true rfl) fl_X11_171 rfl ?_
        refine z_isub dX11_motion_53 ?_
        exact z_iret rfl dX11_motion_54 rfl rfl rfl ⟨_, rfl, hs, h⟩
    · refine z_iconst dX11_motion_23 ?_
      exact z_iret rfl dX11_motion_24 rfl rfl rfl ⟨_, rfl, hs, h⟩
  · refine z_iconst dX11_motion_23 ?_
    exact z_iret rfl dX11_motion_24 rfl rfl rfl ⟨_, rfl, hs, h⟩
abbrev Y_LineR_readChange : Yt := (4, (some .boolean), yX4_readChange.name, { frames := 7, cells := 0, slots := 0, locals := 166 }, 175, 0, 0)
def b_LineR_readChange_26 (k : Bool → Mem → Prop) (v1_1 : Int) (s0 : Bool) (μ_7 : Mem) : Prop := f_Tape_takeN 60 0 μ_7 (fun r34_1 μ_8 => if w r34_1 = 0 then (k false μ_8) else (∀ x55_1 : Int, x55_1 = (if s0 = true then (-r34_1) else r34_1) → f_LineR_keep x55_1 v1_1 μ_8 (fun μ_9 => f_Tape_skipSign 59 μ_9 (fun r65_1 μ_10 => k r65_1 μ_10))))
def b_LineR_readChange_25 (k : Bool → Mem → Prop) (v1 : Int) (μ_6 : Mem) : Prop := b_LineR_readChange_26 k v1 false μ_6
def f_LineR_readChange (a1 : Int) (μ : Mem) (k : Bool → Mem → Prop) : Prop := f_Tape_next  μ (fun μ_1 => if w a1 = w 1 then (f_LineR_takeWord 10 μ_1 (fun r15 μ_2 => ∀ x26 : Bool, x26 = (if r15 = true then true else false) → f_Tape_takeN 60 0 μ_2 (fun r34 μ_3 => if w r34 = 0 then (k false μ_3) else (∀ x55 : Int, x55 = (if x26 = true then (-r34) else r34) → f_LineR_keep x55 a1 μ_3 (fun μ_4 => f_Tape_skipSign 59 μ_4 (fun r65 μ_5 => k r65 μ_5)))))) else (b_LineR_readChange_25 k a1 μ_1))
theorem B_LineR_readChange_26 {l : Launch} {Γ : Gam} {g : Nat} {k : Bool → Mem → Prop} {v1_1 : Int} {s0 : Bool} {μ_7 : Mem} (hs : StatR μ_7.2.2) (h : b_LineR_readChange_26 k v1_1 s0 μ_7) : SW l Γ yX4_readChange.cls cX4_readChange Y_LineR_readChange (pB k) g 175 0 0 μ_7 26 [(0, vr Γ 64), (1, vi v1_1)] [vi (b2i s0)] := by
  unfold b_LineR_readChange_26 at h
  refine z_istore_n (lv' := [(2, vi (b2i s0)), (0, vr Γ 64), (1, vi v1_1)]) dX4_readChange_26 rfl (Nat.le_of_ble_eq_true rfl) rfl ?_
  refine z_rload_n dX4_readChange_27 rfl 1 rfl ?_
  refine z_getR (q := 9192) ff_4_0 dX4_readChange_28 kt_64 (Nat.le_of_ble_eq_true rfl) fl_X4_18 rfl (hs.1 _ _ sr_9192) ?_
  refine z_bipush dX4_readChange_31 (by decide) ?_
  refine z_lconst (v := 0) dX4_readChange_33 rfl ?_
  refine z_VI (i_Tape_takeN  hs h) vk_X9_takeN kt_10 (Nat.le_of_ble_eq_true rfl) rfl ml_X4_57 ⟨Nat.le_of_ble_eq_true rfl, Nat.le_of_ble_eq_true rfl⟩ ⟨Nat.zero_le _, Nat.zero_le _⟩ rfl rfl (Nat.le_of_ble_eq_true rfl) dX4_readChange_34 (fun r34_1 μ_8 hs h => ?_)
  refine z_istore_n (lv' := [(3, vi r34_1), (2, vi (b2i s0)), (0, vr Γ 64), (1, vi v1_1)]) dX4_readChange_37 rfl (Nat.le_of_ble_eq_true rfl) rfl ?_
  refine z_iload_n dX4_readChange_38 rfl 0 rfl ?_
  refine z_if_ne (tgt := 44) dX4_readChange_39 (by decide) h (fun h => ?_) (fun h => ?_)
  · refine z_iconst dX4_readChange_42 ?_
    exact z_zret (b := false) rfl dX4_readChange_43 rfl rfl rfl ⟨_, rfl, hs, h⟩
  · refine z_rload_n dX4_readChange_44 rfl 2 rfl ?_
    refine z_iload_n dX4_readChange_45 rfl 1 rfl ?_
    refine z_phi 55 [vr Γ 64] (fun V9 hv J9 => ?_) h (fun x55_1 h => ?_)
    · refine z_ifeq_b (tgt := 54) dX4_readChange_46 (by decide) (eq_ite hv) (fun hv => ?_) (fun hv => ?_)
      · refine z_iload_n dX4_readChange_49 rfl 0 rfl ?_
        refine z_ineg dX4_readChange_50 ?_
        refine z_goto (tgt := 55) dX4_readChange_51 (by decide) ?_
        exact J9 _ hv.symm
      · refine z_iload_n dX4_readChange_54 rfl 0 rfl ?_
        exact J9 _ hv.symm
    · refine z_iload_n dX4_readChange_55 rfl 3 rfl ?_
      refine z_VU (i_LineR_keep  hs h) vk_X4_keep kt_64 (Nat.le_of_ble_eq_true rfl) rfl ml_X4_63 ⟨Nat.le_of_ble_eq_true rfl, Nat.le_of_ble_eq_true rfl⟩ ⟨Nat.zero_le _, Nat.zero_le _⟩ rfl rfl (Nat.le_of_ble_eq_true rfl) dX4_readChange_56 (fun μ_9 hs h => ?_)
      refine z_rload_n dX4_readChange_59 rfl 2 rfl ?_
      refine z_getR (q := 9192) ff_4_0 dX4_readChange_60 kt_64 (Nat.le_of_ble_eq_true rfl) fl_X4_18 rfl (hs.1 _ _ sr_9192) ?_
      refine z_bipush dX4_readChange_63 (by decide) ?_
      refine z_VB (i_Tape_skipSign  hs h) vk_X9_skipSign kt_10 (Nat.le_of_ble_eq_true rfl) rfl ml_X4_67 ⟨Nat.le_of_ble_eq_true rfl, Nat.le_of_ble_eq_true rfl⟩ ⟨Nat.zero_le _, Nat.zero_le _⟩ rfl rfl (Nat.le_of_ble_eq_true rfl) dX4_readChange_65 (fun r65_1 μ_10 hs h => ?_)
      exact z_zret (b := r65_1) rfl dX4_readChange_68 rfl rfl rfl ⟨_, rfl, hs, h⟩
theorem B_LineR_readChange_25 {l : Launch} {Γ : Gam} {g : Nat} {k : Bool → Mem → Prop} {v1 : Int} {μ_6 : Mem} (hs : StatR μ_6.2.2) (h : b_LineR_readChange_25 k v1 μ_6) : SW l Γ yX4_readChange.cls cX4_readChange Y_LineR_readChange (pB k) g 175 0 0 μ_6 25 [(0, vr Γ 64), (1, vi v1)] [] := by
  unfold b_LineR_readChange_25 at h
  refine z_iconst dX4_readChange_25 ?_
  refine z_sub (lv' := [(0, vr Γ 64), (1, vi v1)]) [0, 1] rfl ?_
  exact B_LineR_readChange_26 hs h
theorem i_LineR_readChange {l : Launch} {Γ : Gam} {g : Nat} {a1 : Int} {μ : Mem} {k : Bool → Mem → Prop} (hs : StatR μ.2.2) (h : f_LineR_readChange a1 μ k) : CT l Γ yX4_readChange cX4_readChange 4 (some .boolean) 7 166 0 0 [vr Γ 64, vi a1] g 175 μ (pB k) := by
  refine SW.ct (by decide) (Nat.le_of_ble_eq_true rfl) ?_
  refine z_sub (lv' := [(0, vr Γ 64), (1, vi a1)]) [0, 1] rfl ?_
  show SW l Γ yX4_readChange.cls cX4_readChange Y_LineR_readChange (pB k) g 175 0 0 μ 0 [(0, vr Γ 64), (1, vi a1)] []
  unfold f_LineR_readChange at h
  refine z_rload_n dX4_readChange_0 rfl 0 rfl ?_
  refine z_getR (q := 9192) ff_4_0 dX4_readChange_1 kt_64 (Nat.le_of_ble_eq_true rfl) fl_X4_18 rfl (hs.1 _ _ sr_9192) ?_
  refine z_VU (i_Tape_next  hs h) vk_X9_next kt_10 (Nat.le_of_ble_eq_true rfl) rfl ml_X4_49 ⟨Nat.le_of_ble_eq_true rfl, Nat.le_of_ble_eq_true rfl⟩ ⟨Nat.zero_le _, Nat.zero_le _⟩ rfl rfl (Nat.le_of_ble_eq_true rfl) dX4_readChange_4 (fun μ_1 hs h => ?_)
  refine z_iload_n dX4_readChange_7 rfl 1 rfl ?_
  refine z_iconst dX4_readChange_8 ?_
  refine z_icmp_ne (tgt := 25) dX4_readChange_9 (by decide) h (fun h => ?_) (fun h => ?_)
  · refine z_rload_n dX4_readChange_12 rfl 0 rfl ?_
    refine z_ldcS dX4_readChange_13 st_X4_52 ?_
    refine z_VB (i_LineR_takeWord (Nat.le_of_ble_eq_true rfl) hs h) vk_X4_takeWord kt_64 (Nat.le_of_ble_eq_true rfl) rfl ml_X4_54 ⟨Nat.le_of_ble_eq_true rfl, Nat.le_of_ble_eq_true rfl⟩ ⟨Nat.zero_le _, Nat.zero_le _⟩ rfl rfl (Nat.le_of_ble_eq_true rfl) dX4_readChange_15 (fun r15 μ_2 hs h => ?_)
    refine z_phiB 26 [] (fun V9 hv J9 => ?_) h (fun x26 h => ?_)
    · refine z_ifeq_b (tgt := 25) dX4_readChange_18 (by decide) (eq_ite hv) (fun hv => ?_) (fun hv => ?_)
      · refine z_iconst dX4_readChange_21 ?_
        refine z_goto (tgt := 26) dX4_readChange_22 (by decide) ?_
        exact J9 true hv.symm
      · refine z_iconst dX4_readChange_25 ?_
        exact J9 false hv.symm
    · refine z_istore_n (lv' := [(2, vi (b2i x26)), (0, vr Γ 64), (1, vi a1)]) dX4_readChange_26 rfl (Nat.le_of_ble_eq_true rfl) rfl ?_
      refine z_rload_n dX4_readChange_27 rfl 1 rfl ?_
      refine z_getR (q := 9192) ff_4_0 dX4_readChange_28 kt_64 (Nat.le_of_ble_eq_true rfl) fl_X4_18 rfl (hs.1 _ _ sr_9192) ?_
      refine z_bipush dX4_readChange_31 (by decide) ?_
      refine z_lconst (v := 0) dX4_readChange_33 rfl ?_
      refine z_VI (i_Tape_takeN  hs h) vk_X9_takeN kt_10 (Nat.le_of_ble_eq_true rfl) rfl ml_X4_57 ⟨Nat.le_of_ble_eq_true rfl, Nat.le_of_ble_eq_true rfl⟩ ⟨Nat.zero_le _, Nat.zero_le _⟩ rfl rfl (Nat.le_of_ble_eq_true rfl) dX4_readChange_34 (fun r34 μ_3 hs h => ?_)
      refine z_istore_n (lv' := [(3, vi r34), (2, vi (b2i x26)), (0, vr Γ 64), (1, vi a1)]) dX4_readChange_37 rfl (Nat.le_of_ble_eq_true rfl) rfl ?_
      refine z_iload_n dX4_readChange_38 rfl 0 rfl ?_
      refine z_if_ne (tgt := 44) dX4_readChange_39 (by decide) h (fun h => ?_) (fun h => ?_)
      · refine z_iconst dX4_readChange_42 ?_
        exact z_zret (b := false) rfl dX4_readChange_43 rfl rfl rfl ⟨_, rfl, hs, h⟩
      · refine z_rload_n dX4_readChange_44 rfl 2 rfl ?_
        refine z_iload_n dX4_readChange_45 rfl 1 rfl ?_
        refine z_phi 55 [vr Γ 64] (fun V9 hv J9 => ?_) h (fun x55 h => ?_)
        · refine z_ifeq_b (tgt := 54) dX4_readChange_46 (by decide) (eq_ite hv) (fun hv => ?_) (fun hv => ?_)
          · refine z_iload_n dX4_readChange_49 rfl 0 rfl ?_
            refine z_ineg dX4_readChange_50 ?_
            refine z_goto (tgt := 55) dX4_readChange_51 (by decide) ?_
            exact J9 _ hv.symm
          · refine z_iload_n dX4_readChange_54 rfl 0 rfl ?_
            exact J9 _ hv.symm
        · refine z_iload_n dX4_readChange_55 rfl 3 rfl ?_
          refine z_VU (i_LineR_keep  hs h) vk_X4_keep kt_64 (Nat.le_of_ble_eq_true rfl) rfl ml_X4_63 ⟨Nat.le_of_ble_eq_true rfl, Nat.le_of_ble_eq_true rfl⟩ ⟨Nat.zero_le _, Nat.zero_le _⟩ rfl rfl (Nat.le_of_ble_eq_true rfl) dX4_readChange_56 (fun μ_4 hs h => ?_)
          refine z_rload_n dX4_readChange_59 rfl 2 rfl ?_
          refine z_getR (q := 9192) ff_4_0 dX4_readChange_60 kt_64 (Nat.le_of_ble_eq_true rfl) fl_X4_18 rfl (hs.1 _ _ sr_9192) ?_
          refine z_bipush dX4_readChange_63 (by decide) ?_
          refine z_VB (i_Tape_skipSign  hs h) vk_X9_skipSign kt_10 (Nat.le_of_ble_eq_true rfl) rfl ml_X4_67 ⟨Nat.le_of_ble_eq_true rfl, Nat.le_of_ble_eq_true rfl⟩ ⟨Nat.zero_le _, Nat.zero_le _⟩ rfl rfl (Nat.le_of_ble_eq_true rfl) dX4_readChange_65 (fun r65 μ_5 hs h => ?_)
          exact z_zret (b := r65) rfl dX4_readChange_68 rfl rfl rfl ⟨_, rfl, hs, h⟩
  · refine z_sub (lv' := [(0, vr Γ 64), (1, vi a1)]) [0, 1] rfl ?_
    exact B_LineR_readChange_25 hs h
abbrev Y_LineR_readAmendment : Yt := (3, (some .boolean), yX4_readAmendment.name, { frames := 8, cells := 0, slots := 0, locals := 189 }, 175, 0, 0)
def b_LineR_readAmendment_85 (R_14 : Int → Mem → Prop) (X_14_106 : Mem → Prop) (X_14_91 : Mem → Prop) (k : Bool → Mem → Prop) (v1_2 : Int) (s0 : Int) (μ_6 : Mem) : Prop := if w s0 = w (-1) then (X_14_91 μ_6) else (if w v1_2 < w 6 then (f_LineR_readChange s0 μ_6 (fun r117 μ_7 => if r117 = true then (R_14 (v1_2 + 1) μ_7) else (k false μ_7))) else (X_14_106 μ_6))
def b_LineR_readAmendment_36 (R_14 : Int → Mem → Prop) (X_14_106 : Mem → Prop) (X_14_91 : Mem → Prop) (k : Bool → Mem → Prop) (v1_1 : Int) (μ_4 : Mem) : Prop := f_Tape_isWord 26 μ_4 (fun r42 μ_5 => if r42 = true then (b_LineR_readAmendment_85 R_14 X_14_106 X_14_91 k v1_1 0 μ_5) else (f_Tape_isWord 27 μ_5 (fun r58 μ_8 => if r58 = true then (b_LineR_readAmendment_85 R_14 X_14_106 X_14_91 k v1_1 1 μ_8) else (f_Tape_isWord 28 μ_8 (fun r74 μ_9 => ∀ x85 : Int, x85 = (if r74 = true then 2 else (-1)) → if w x85 = w (-1) then (X_14_91 μ_9) else (if w v1_1 < w 6 then (f_LineR_readChange x85 μ_9 (fun r117_1 μ_10 => if r117_1 = true then (R_14 (v1_1 + 1) μ_10) else (k false μ_10))) else (X_14_106 μ_9)))))))
def l_LineR_readAmendment_14 (X_14_106 : Mem → Prop) (X_14_91 : Mem → Prop) (k : Bool → Mem → Prop) : Nat → Int → Mem → Prop
  | 0, _, _ => False
  | fu14 + 1, v1, μ_3 => if w 6 < w v1 then (k false μ_3) else (if 0 < w v1 then (if (v_Tape_isEnd μ_3) = true then (k true μ_3) else (b_LineR_readAmendment_36 (l_LineR_readAmendment_14 X_14_106 X_14_91 k fu14) X_14_106 X_14_91 k v1 μ_3)) else (b_LineR_readAmendment_36 (l_LineR_readAmendment_14 X_14_106 X_14_91 k fu14) X_14_106 X_14_91 k v1 μ_3))
def f_LineR_readAmendment  (μ : Mem) (k : Bool → Mem → Prop) : Prop := ∀ μ_1 : Mem, μ_1 = sI μ 9195 0 0 → f_Tape_begin  μ_1 (fun μ_2 => ∃ m14 : Nat, l_LineR_readAmendment_14 (fun (μ_11 : Mem) => f_Tape_fail 4 μ_11 (fun r111 μ_12 => k r111 μ_12)) (fun (μ_13 : Mem) => f_Tape_fail 1 μ_13 (fun r96 μ_14 => k r96 μ_14)) k m14 0 μ_2)
theorem B_LineR_readAmendment_85 {l : Launch} {Γ : Gam} {g : Nat} {R_14 : Int → Mem → Prop} {X_14_106 : Mem → Prop} {X_14_91 : Mem → Prop} {k : Bool → Mem → Prop} {v1_2 : Int} {s0 : Int} {μ_6 : Mem} (hR_14 : ∀ (u1 : Int) (ν : Mem), StatR ν.2.2 → R_14 u1 ν → SW l Γ yX4_readAmendment.cls cX4_readAmendment Y_LineR_readAmendment (pB k) g 175 0 0 ν 14 [(0, vr Γ 64), (1, vi u1)] []) (hX_14_106 : ∀ (ν : Mem), StatR ν.2.2 → X_14_106 ν → SW l Γ yX4_readAmendment.cls cX4_readAmendment Y_LineR_readAmendment (pB k) g 175 0 0 ν 106 [(0, vr Γ 64)] []) (hX_14_91 : ∀ (ν : Mem), StatR ν.2.2 → X_14_91 ν → SW l Γ yX4_readAmendment.cls cX4_readAmendment Y_LineR_readAmendment (pB k) g 175 0 0 ν 91 [(0, vr Γ 64)] []) (hs : StatR μ_6.2.2) (h : b_LineR_readAmendment_85 R_14 X_14_106 X_14_91 k v1_2 s0 μ_6) : SW l Γ yX4_readAmendment.cls cX4_readAmendment Y_LineR_readAmendment (pB k) g 175 0 0 μ_6 85 [(0, vr Γ 64), (1, vi v1_2)] [vi s0] := by
  unfold b_LineR_readAmendment_85 at h
  refine z_istore_n (lv' := [(2, vi s0), (0, vr Γ 64), (1, vi v1_2)]) dX4_readAmendment_85 rfl (Nat.le_of_ble_eq_true rfl) rfl ?_
  refine z_iload_n dX4_readAmendment_86 rfl 0 rfl ?_
  refine z_iconst dX4_readAmendment_87 ?_
  refine z_icmp_ne (tgt := 100) dX4_readAmendment_88 (by decide) h (fun h => ?_) (fun h => ?_)
  · refine z_sub (lv' := [(0, vr Γ 64)]) [1] rfl ?_
    exact hX_14_91 μ_6 hs h
  · refine z_iload_n dX4_readAmendment_100 rfl 2 rfl ?_
    refine z_bipush dX4_readAmendment_101 (by decide) ?_
    refine z_icmp_lt (tgt := 115) dX4_readAmendment_103 (by decide) h (fun h => ?_) (fun h => ?_)
    · refine z_rload_n dX4_readAmendment_115 rfl 1 rfl ?_
      refine z_iload_n dX4_readAmendment_116 rfl 0 rfl ?_
      refine z_VB (i_LineR_readChange  hs h) vk_X4_readChange kt_64 (Nat.le_of_ble_eq_true rfl) rfl ml_X4_77 ⟨Nat.le_of_ble_eq_true rfl, Nat.le_of_ble_eq_true rfl⟩ ⟨Nat.zero_le _, Nat.zero_le _⟩ rfl rfl (Nat.le_of_ble_eq_true rfl) dX4_readAmendment_117 (fun r117 μ_7 hs h => ?_)
      refine z_ifne_b (tgt := 125) dX4_readAmendment_120 (by decide) h (fun h => ?_) (fun h => ?_)
      · refine z_iinc (j := 2) (lv' := [(1, vi (v1_2 + 1)), (2, vi s0), (0, vr Γ 64)]) dX4_readAmendment_125 rfl (Nat.le_of_ble_eq_true rfl) rfl ?_
        refine z_goto (tgt := 14) dX4_readAmendment_128 (by decide) ?_
        refine z_sub (lv' := [(0, vr Γ 64), (1, vi (v1_2 + 1))]) [2, 0] rfl ?_
        exact hR_14 (v1_2 + 1) μ_7 hs h
      · refine z_iconst dX4_readAmendment_123 ?_
        exact z_zret (b := false) rfl dX4_readAmendment_124 rfl rfl rfl ⟨_, rfl, hs, h⟩
    · refine z_sub (lv' := [(0, vr Γ 64)]) [1] rfl ?_
      exact hX_14_106 μ_6 hs h
theorem B_LineR_readAmendment_36 {l : Launch} {Γ : Gam} {g : Nat} {R_14 : Int → Mem → Prop} {X_14_106 : Mem → Prop} {X_14_91 : Mem → Prop} {k : Bool → Mem → Prop} {v1_1 : Int} {μ_4 : Mem} (hR_14 : ∀ (u1 : Int) (ν : Mem), StatR ν.2.2 → R_14 u1 ν → SW l Γ yX4_readAmendment.cls cX4_readAmendment Y_LineR_readAmendment (pB k) g 175 0 0 ν 14 [(0, vr Γ 64), (1, vi u1)] []) (hX_14_106 : ∀ (ν : Mem), StatR ν.2.2 → X_14_106 ν → SW l Γ yX4_readAmendment.cls cX4_readAmendment Y_LineR_readAmendment (pB k) g 175 0 0 ν 106 [(0, vr Γ 64)] []) (hX_14_91 : ∀ (ν : Mem), StatR ν.2.2 → X_14_91 ν → SW l Γ yX4_readAmendment.cls cX4_readAmendment Y_LineR_readAmendment (pB k) g 175 0 0 ν 91 [(0, vr Γ 64)] []) (hs : StatR μ_4.2.2) (h : b_LineR_readAmendment_36 R_14 X_14_106 X_14_91 k v1_1 μ_4) : SW l Γ yX4_readAmendment.cls cX4_readAmendment Y_LineR_readAmendment (pB k) g 175 0 0 μ_4 36 [(0, vr Γ 64), (1, vi v1_1)] [] := by
  unfold b_LineR_readAmendment_36 at h
  refine z_rload_n dX4_readAmendment_36 rfl 0 rfl ?_
  refine z_getR (q := 9192) ff_4_0 dX4_readAmendment_37 kt_64 (Nat.le_of_ble_eq_true rfl) fl_X4_18 rfl (hs.1 _ _ sr_9192) ?_
  refine z_ldcS dX4_readAmendment_40 st_X4_71 ?_
  refine z_VB (i_Tape_isWord (Nat.le_of_ble_eq_true rfl) hs h) vk_X9_isWord kt_10 (Nat.le_of_ble_eq_true rfl) rfl ml_X4_37 ⟨Nat.le_of_ble_eq_true rfl, Nat.le_of_ble_eq_true rfl⟩ ⟨Nat.zero_le _, Nat.zero_le _⟩ rfl rfl (Nat.le_of_ble_eq_true rfl) dX4_readAmendment_42 (fun r42 μ_5 hs h => ?_)
  refine z_ifeq_b (tgt := 52) dX4_readAmendment_45 (by decide) h (fun h => ?_) (fun h => ?_)
  · refine z_iconst dX4_readAmendment_48 ?_
    refine z_goto (tgt := 85) dX4_readAmendment_49 (by decide) ?_
    refine z_sub (lv' := [(0, vr Γ 64), (1, vi v1_1)]) [0, 1] rfl ?_
    exact B_LineR_readAmendment_85 hR_14 hX_14_106 hX_14_91 hs h
  · refine z_rload_n dX4_readAmendment_52 rfl 0 rfl ?_
    refine z_getR (q := 9192) ff_4_0 dX4_readAmendment_53 kt_64 (Nat.le_of_ble_eq_true rfl) fl_X4_18 rfl (hs.1 _ _ sr_9192) ?_
    refine z_ldcS dX4_readAmendment_56 st_X4_73 ?_
    refine z_VB (i_Tape_isWord (Nat.le_of_ble_eq_true rfl) hs h) vk_X9_isWord kt_10 (Nat.le_of_ble_eq_true rfl) rfl ml_X4_37 ⟨Nat.le_of_ble_eq_true rfl, Nat.le_of_ble_eq_true rfl⟩ ⟨Nat.zero_le _, Nat.zero_le _⟩ rfl rfl (Nat.le_of_ble_eq_true rfl) dX4_readAmendment_58 (fun r58 μ_8 hs h => ?_)
    refine z_ifeq_b (tgt := 68) dX4_readAmendment_61 (by decide) h (fun h => ?_) (fun h => ?_)
    · refine z_iconst dX4_readAmendment_64 ?_
      refine z_goto (tgt := 85) dX4_readAmendment_65 (by decide) ?_
      refine z_sub (lv' := [(0, vr Γ 64), (1, vi v1_1)]) [0, 1] rfl ?_
      exact B_LineR_readAmendment_85 hR_14 hX_14_106 hX_14_91 hs h
    · refine z_rload_n dX4_readAmendment_68 rfl 0 rfl ?_
      refine z_getR (q := 9192) ff_4_0 dX4_readAmendment_69 kt_64 (Nat.le_of_ble_eq_true rfl) fl_X4_18 rfl (hs.1 _ _ sr_9192) ?_
      refine z_ldcS dX4_readAmendment_72 st_X4_75 ?_
      refine z_VB (i_Tape_isWord (Nat.le_of_ble_eq_true rfl) hs h) vk_X9_isWord kt_10 (Nat.le_of_ble_eq_true rfl) rfl ml_X4_37 ⟨Nat.le_of_ble_eq_true rfl, Nat.le_of_ble_eq_true rfl⟩ ⟨Nat.zero_le _, Nat.zero_le _⟩ rfl rfl (Nat.le_of_ble_eq_true rfl) dX4_readAmendment_74 (fun r74 μ_9 hs h => ?_)
      refine z_phi 85 [] (fun V9 hv J9 => ?_) h (fun x85 h => ?_)
      · refine z_ifeq_b (tgt := 84) dX4_readAmendment_77 (by decide) (eq_ite hv) (fun hv => ?_) (fun hv => ?_)
        · refine z_iconst dX4_readAmendment_80 ?_
          refine z_goto (tgt := 85) dX4_readAmendment_81 (by decide) ?_
          exact J9 _ hv.symm
        · refine z_iconst dX4_readAmendment_84 ?_
          exact J9 _ hv.symm
      · refine z_istore_n (lv' := [(2, vi x85), (0, vr Γ 64), (1, vi v1_1)]) dX4_readAmendment_85 rfl (Nat.le_of_ble_eq_true rfl) rfl ?_
        refine z_iload_n dX4_readAmendment_86 rfl 0 rfl ?_
        refine z_iconst dX4_readAmendment_87 ?_
        refine z_icmp_ne (tgt := 100) dX4_readAmendment_88 (by decide) h (fun h => ?_) (fun h => ?_)
        · refine z_sub (lv' := [(0, vr Γ 64)]) [1] rfl ?_
          exact hX_14_91 μ_9 hs h
        · refine z_iload_n dX4_readAmendment_100 rfl 2 rfl ?_
          refine z_bipush dX4_readAmendment_101 (by decide) ?_
          refine z_icmp_lt (tgt := 115) dX4_readAmendment_103 (by decide) h (fun h => ?_) (fun h => ?_)
          · refine z_rload_n dX4_readAmendment_115 rfl 1 rfl ?_
            refine z_iload_n dX4_readAmendment_116 rfl 0 rfl ?_
            refine z_VB (i_LineR_readChange  hs h) vk_X4_readChange kt_64 (Nat.le_of_ble_eq_true rfl) rfl ml_X4_77 ⟨Nat.le_of_ble_eq_true rfl, Nat.le_of_ble_eq_true rfl⟩ ⟨Nat.zero_le _, Nat.zero_le _⟩ rfl rfl (Nat.le_of_ble_eq_true rfl) dX4_readAmendment_117 (fun r117_1 μ_10 hs h => ?_)
            refine z_ifne_b (tgt := 125) dX4_readAmendment_120 (by decide) h (fun h => ?_) (fun h => ?_)
            · refine z_iinc (j := 2) (lv' := [(1, vi (v1_1 + 1)), (2, vi x85), (0, vr Γ 64)]) dX4_readAmendment_125 rfl (Nat.le_of_ble_eq_true rfl) rfl ?_
              refine z_goto (tgt := 14) dX4_readAmendment_128 (by decide) ?_
              refine z_sub (lv' := [(0, vr Γ 64), (1, vi (v1_1 + 1))]) [2, 0] rfl ?_
              exact hR_14 (v1_1 + 1) μ_10 hs h
            · refine z_iconst dX4_readAmendment_123 ?_
              exact z_zret (b := false) rfl dX4_readAmendment_124 rfl rfl rfl ⟨_, rfl, hs, h⟩
          · refine z_sub (lv' := [(0, vr Γ 64)]) [1] rfl ?_
            exact hX_14_106 μ_9 hs h
theorem L_LineR_readAmendment_14 {l : Launch} {Γ : Gam} {g : Nat} {X_14_106 : Mem → Prop} {X_14_91 : Mem → Prop} {k : Bool → Mem → Prop} (hX_14_106 : ∀ (ν : Mem), StatR ν.2.2 → X_14_106 ν → SW l Γ yX4_readAmendment.cls cX4_readAmendment Y_LineR_readAmendment (pB k) g 175 0 0 ν 106 [(0, vr Γ 64)] []) (hX_14_91 : ∀ (ν : Mem), StatR ν.2.2 → X_14_91 ν → SW l Γ yX4_readAmendment.cls cX4_readAmendment Y_LineR_readAmendment (pB k) g 175 0 0 ν 91 [(0, vr Γ 64)] []) (n9 : Nat) : ∀ (v1 : Int) (μ_3 : Mem), StatR μ_3.2.2 → l_LineR_readAmendment_14 X_14_106 X_14_91 k n9 v1 μ_3 → SW l Γ yX4_readAmendment.cls cX4_readAmendment Y_LineR_readAmendment (pB k) g 175 0 0 μ_3 14 [(0, vr Γ 64), (1, vi v1)] [] := by
  induction n9 with
  | zero =>
    intro v1 μ_3 hs h
    exact h.elim
  | succ n9 hR_14 =>
    intro v1 μ_3 hs h
    rw [l_LineR_readAmendment_14] at h
    refine z_iload_n dX4_readAmendment_14 rfl 1 rfl ?_
    refine z_bipush dX4_readAmendment_15 (by decide) ?_
    refine z_icmp_gt (tgt := 131) dX4_readAmendment_17 (by decide) h (fun h => ?_) (fun h => ?_)
    · refine z_iconst dX4_readAmendment_131 ?_
      exact z_zret (b := false) rfl dX4_readAmendment_132 rfl rfl rfl ⟨_, rfl, hs, h⟩
    · refine z_iload_n dX4_readAmendment_20 rfl 1 rfl ?_
      refine z_if_le (tgt := 36) dX4_readAmendment_21 (by decide) h (fun h => ?_) (fun h => ?_)
      · refine z_rload_n dX4_readAmendment_24 rfl 0 rfl ?_
        refine z_getR (q := 9192) ff_4_0 dX4_readAmendment_25 kt_64 (Nat.le_of_ble_eq_true rfl) fl_X4_18 rfl (hs.1 _ _ sr_9192) ?_
        refine z_VE (i_Tape_isEnd ) vk_X9_isEnd kt_10 (Nat.le_of_ble_eq_true rfl) rfl ml_X4_31 ⟨Nat.le_of_ble_eq_true rfl, Nat.le_of_ble_eq_true rfl⟩ ⟨Nat.zero_le _, Nat.zero_le _⟩ rfl rfl (Nat.le_of_ble_eq_true rfl) dX4_readAmendment_28 ?_
        refine z_ifeq_b (tgt := 36) dX4_readAmendment_31 (by decide) h (fun h => ?_) (fun h => ?_)
        · refine z_iconst dX4_readAmendment_34 ?_
          exact z_zret (b := true) rfl dX4_readAmendment_35 rfl rfl rfl ⟨_, rfl, hs, h⟩
        · refine z_sub (lv' := [(0, vr Γ 64), (1, vi v1)]) [0, 1] rfl ?_
          exact B_LineR_readAmendment_36 hR_14 hX_14_106 hX_14_91 hs h
      · refine z_sub (lv' := [(0, vr Γ 64), (1, vi v1)]) [0, 1] rfl ?_
        exact B_LineR_readAmendment_36 hR_14 hX_14_106 hX_14_91 hs h
theorem i_LineR_readAmendment {l : Launch} {Γ : Gam} {g : Nat} {μ : Mem} {k : Bool → Mem → Prop} (hs : StatR μ.2.2) (h : f_LineR_readAmendment  μ k) : CT l Γ yX4_readAmendment cX4_readAmendment 3 (some .boolean) 8 189 0 0 [vr Γ 64] g 175 μ (pB k) := by
  refine SW.ct (by decide) (Nat.le_of_ble_eq_true rfl) ?_
  refine z_sub (lv' := [(0, vr Γ 64)]) [0] rfl ?_
  show SW l Γ yX4_readAmendment.cls cX4_readAmendment Y_LineR_readAmendment (pB k) g 175 0 0 μ 0 [(0, vr Γ 64)] []
  unfold f_LineR_readAmendment at h
  refine z_rload_n dX4_readAmendment_0 rfl 0 rfl ?_
  refine z_iconst dX4_readAmendment_1 ?_
  refine z_putI (q := 9195) ff_4_3 (Or.inl rfl) rfl dX4_readAmendment_2 kt_64 (Nat.le_of_ble_eq_true rfl) fl_X4_22 rfl ?_
  refine z_mm (fun μ_1 eμ_1 => ?_)
  replace h := h μ_1 eμ_1
  replace hs : StatR μ_1.2.2 := by rw [eμ_1]; exact hs
  refine z_rload_n dX4_readAmendment_5 rfl 0 rfl ?_
  refine z_getR (q := 9192) ff_4_0 dX4_readAmendment_6 kt_64 (Nat.le_of_ble_eq_true rfl) fl_X4_18 rfl (hs.1 _ _ sr_9192) ?_
  refine z_VU (i_Tape_begin  hs h) vk_X9_begin kt_10 (Nat.le_of_ble_eq_true rfl) rfl ml_X4_26 ⟨Nat.le_of_ble_eq_true rfl, Nat.le_of_ble_eq_true rfl⟩ ⟨Nat.zero_le _, Nat.zero_le _⟩ rfl rfl (Nat.le_of_ble_eq_true rfl) dX4_readAmendment_9 (fun μ_2 hs h => ?_)
  refine z_iconst dX4_readAmendment_12 ?_
  refine z_istore_n (lv' := [(1, vi 0), (0, vr Γ 64)]) dX4_readAmendment_13 rfl (Nat.le_of_ble_eq_true rfl) rfl ?_
  obtain ⟨m14, h⟩ := h
  refine z_sub (lv' := [(0, vr Γ 64), (1, vi 0)]) [1, 0] rfl ?_
  refine L_LineR_readAmendment_14 (fun μ_11 hs h => ?_) (fun μ_13 hs h => ?_) m14 0 μ_2 hs h
  · refine z_rload_n dX4_readAmendment_106 rfl 0 rfl ?_
    refine z_getR (q := 9192) ff_4_0 dX4_readAmendment_107 kt_64 (Nat.le_of_ble_eq_true rfl) fl_X4_18 rfl (hs.1 _ _ sr_9192) ?_
    refine z_iconst dX4_readAmendment_110 ?_
    refine z_VB (i_Tape_fail  hs h) vk_X9_fail kt_10 (Nat.le_of_ble_eq_true rfl) rfl ml_X4_41 ⟨Nat.le_of_ble_eq_true rfl, Nat.le_of_ble_eq_true rfl⟩ ⟨Nat.zero_le _, Nat.zero_le _⟩ rfl rfl (Nat.le_of_ble_eq_true rfl) dX4_readAmendment_111 (fun r111 μ_12 hs h => ?_)
    exact z_zret (b := r111) rfl dX4_readAmendment_114 rfl rfl rfl ⟨_, rfl, hs, h⟩
  · refine z_rload_n dX4_readAmendment_91 rfl 0 rfl ?_
    refine z_getR (q := 9192) ff_4_0 dX4_readAmendment_92 kt_64 (Nat.le_of_ble_eq_true rfl) fl_X4_18 rfl (hs.1 _ _ sr_9192) ?_
    refine z_iconst dX4_readAmendment_95 ?_
    refine z_VB (i_Tape_fail  hs h) vk_X9_fail kt_10 (Nat.le_of_ble_eq_true rfl) rfl ml_X4_41 ⟨Nat.le_of_ble_eq_true rfl, Nat.le_of_ble_eq_true rfl⟩ ⟨Nat.zero_le _, Nat.zero_le _⟩ rfl rfl (Nat.le_of_ble_eq_true rfl) dX4_readAmendment_96 (fun r96 μ_14 hs h => ?_)
    exact z_zret (b := r96) rfl dX4_readAmendment_99 rfl rfl rfl ⟨_, rfl, hs, h⟩
abbrev Y_Papers_addAmendment : Yt := (4, (some .int), yX6_addAmendment.name, { frames := 1, cells := 0, slots := 0, locals := 22 }, 175, 0, 0)
def l_Papers_addAmendment_29 (X_29_91 : Mem → Prop) : Nat → Int → Mem → Prop
  | 0, _, _ => False
  | fu29 + 1, v3, μ_3 => if w v3 < w (rI μ_3 9195 0) then (∀ μ_4 : Mem, μ_4 = set' μ_3 16 240 (((rI μ_3 2544 0) * 6) + v3) (at' μ_3 66 12 v3) → ∀ μ_5 : Mem, μ_5 = set' μ_4 17 240 (((rI μ_4 2544 0) * 6) + v3) (at' μ_4 65 12 v3) → (l_Papers_addAmendment_29 X_29_91 fu29) (v3 + 1) μ_5) else (X_29_91 μ_3)
def f_Papers_addAmendment (a1 : Int) (μ : Mem) (k : Int → Mem → Prop) : Prop := ∀ μ_1 : Mem, μ_1 = set' μ 14 40 (rI μ 2544 0) a1 → ∀ μ_2 : Mem, μ_2 = set' μ_1 15 40 (rI μ_1 2544 0) (rI μ_1 9195 0) → ∃ m29 : Nat, l_Papers_addAmendment_29 (fun (μ_6 : Mem) => ∀ μ_7 : Mem, μ_7 = sI μ_6 2544 0 ((rI μ_6 2544 0) + 1) → k ((rI μ_7 2544 0) - 1) μ_7) m29 0 μ_2
theorem L_Papers_addAmendment_29 {l : Launch} {Γ : Gam} {g : Nat} {X_29_91 : Mem → Prop} {k : Int → Mem → Prop} (hX_29_91 : ∀ (ν : Mem), StatR ν.2.2 → X_29_91 ν → SW l Γ yX6_addAmendment.cls cX6_addAmendment Y_Papers_addAmendment (pI k) g 175 0 0 ν 91 [(0, vr Γ 12)] []) (n9 : Nat) : ∀ (v3 : Int) (μ_3 : Mem), StatR μ_3.2.2 → l_Papers_addAmendment_29 X_29_91 n9 v3 μ_3 → SW l Γ yX6_addAmendment.cls cX6_addAmendment Y_Papers_addAmendment (pI k) g 175 0 0 μ_3 29 [(0, vr Γ 12), (2, vr Γ 64), (3, vi v3)] [] := by
  induction n9 with
  | zero =>
    intro v3 μ_3 hs h
    exact h.elim
  | succ n9 hR_29 =>
    intro v3 μ_3 hs h
    rw [l_Papers_addAmendment_29] at h
    refine z_iload_n dX6_addAmendment_29 rfl 2 rfl ?_
    refine z_rload_n dX6_addAmendment_30 rfl 1 rfl ?_
    refine z_getI (q := 9195) ff_4_3 dX6_addAmendment_31 kt_64 (Nat.le_of_ble_eq_true rfl) fl_X6_56 rfl ?_
    refine z_icmp_ge (tgt := 91) dX6_addAmendment_34 (by decide) h (fun h => ?_) (fun h => ?_)
    · refine z_rload_n dX6_addAmendment_37 rfl 0 rfl ?_
      refine z_getR (q := 2539) ff_6_3 dX6_addAmendment_38 kt_12 (Nat.le_of_ble_eq_true rfl) fl_X6_21 rfl (hs.1 _ _ sr_2539) ?_
      refine z_rload_n dX6_addAmendment_41 rfl 0 rfl ?_
      refine z_getI (q := 2544) ff_6_8 dX6_addAmendment_42 kt_12 (Nat.le_of_ble_eq_true rfl) fl_X6_53 rfl ?_
      refine z_bipush dX6_addAmendment_45 (by decide) ?_
      refine z_imul dX6_addAmendment_47 ?_
      refine z_iload_n dX6_addAmendment_48 rfl 2 rfl ?_
      refine z_iadd dX6_addAmendment_49 ?_
      refine z_rload_n dX6_addAmendment_50 rfl 1 rfl ?_
      refine z_getR (q := 9194) ff_4_2 dX6_addAmendment_51 kt_64 (Nat.le_of_ble_eq_true rfl) fl_X6_61 rfl (hs.1 _ _ sr_9194) ?_
      refine z_iload_n dX6_addAmendment_54 rfl 2 rfl ?_
      refine z_NE (i_X11_at kt_66 (Nat.le_of_ble_eq_true rfl)) ok_X11_at nw_X6_64 ⟨Nat.le_of_ble_eq_true rfl, Nat.le_of_ble_eq_true rfl⟩ ⟨Nat.zero_le _, Nat.zero_le _⟩ rfl rfl (Nat.le_of_ble_eq_true rfl) dX6_addAmendment_55 ?_
      refine z_NM (i_X11_set kt_16 (Nat.le_of_ble_eq_true rfl)) ok_X11_set nw_X6_49 ⟨Nat.le_of_ble_eq_true rfl, Nat.le_of_ble_eq_true rfl⟩ ⟨Nat.zero_le _, Nat.zero_le _⟩ rfl rfl (Nat.le_of_ble_eq_true rfl) dX6_addAmendment_58 ?_
      refine z_mm (fun μ_4 eμ_4 => ?_)
      replace h := h μ_4 eμ_4
      replace hs : StatR μ_4.2.2 := by rw [eμ_4]; exact (StatR.set hs)
      refine z_rload_n dX6_addAmendment_61 rfl 0 rfl ?_
      refine z_getR (q := 2540) ff_6_4 dX6_addAmendment_62 kt_12 (Nat.le_of_ble_eq_true rfl) fl_X6_24 rfl (hs.1 _ _ sr_2540) ?_
      refine z_rload_n dX6_addAmendment_65 rfl 0 rfl ?_
      refine z_getI (q := 2544) ff_6_8 dX6_addAmendment_66 kt_12 (Nat.le_of_ble_eq_true rfl) fl_X6_53 rfl ?_
      refine z_bipush dX6_addAmendment_69 (by decide) ?_
      refine z_imul dX6_addAmendment_71 ?_
      refine z_iload_n dX6_addAmendment_72 rfl 2 rfl ?_
      refine z_iadd dX6_addAmendment_73 ?_
      refine z_rload_n dX6_addAmendment_74 rfl 1 rfl ?_
      refine z_getR (q := 9193) ff_4_1 dX6_addAmendment_75 kt_64 (Nat.le_of_ble_eq_true rfl) fl_X6_68 rfl (hs.1 _ _ sr_9193) ?_
      refine z_iload_n dX6_addAmendment_78 rfl 2 rfl ?_
      refine z_NE (i_X11_at kt_65 (Nat.le_of_ble_eq_true rfl)) ok_X11_at nw_X6_64 ⟨Nat.le_of_ble_eq_true rfl, Nat.le_of_ble_eq_true rfl⟩ ⟨Nat.zero_le _, Nat.zero_le _⟩ rfl rfl (Nat.le_of_ble_eq_true rfl) dX6_addAmendment_79 ?_
      refine z_NM (i_X11_set kt_17 (Nat.le_of_ble_eq_true rfl)) ok_X11_set nw_X6_49 ⟨Nat.le_of_ble_eq_true rfl, Nat.le_of_ble_eq_true rfl⟩ ⟨Nat.zero_le _, Nat.zero_le _⟩ rfl rfl (Nat.le_of_ble_eq_true rfl) dX6_addAmendment_82 ?_
      refine z_mm (fun μ_5 eμ_5 => ?_)
      replace h := h μ_5 eμ_5
      replace hs : StatR μ_5.2.2 := by rw [eμ_5]; exact (StatR.set hs)
      refine z_iinc (j := 2) (lv' := [(3, vi (v3 + 1)), (0, vr Γ 12), (2, vr Γ 64)]) dX6_addAmendment_85 rfl (Nat.le_of_ble_eq_true rfl) rfl ?_
      refine z_goto (tgt := 29) dX6_addAmendment_88 (by decide) ?_
      refine z_sub (lv' := [(0, vr Γ 12), (2, vr Γ 64), (3, vi (v3 + 1))]) [1, 2, 0] rfl ?_
      exact hR_29 (v3 + 1) μ_5 hs h
    · refine z_sub (lv' := [(0, vr Γ 12)]) [0] rfl ?_
      exact hX_29_91 μ_3 hs h
theorem i_Papers_addAmendment {l : Launch} {Γ : Gam} {g : Nat} {a1 : Int} {μ : Mem} {k : Int → Mem → Prop} (hs : StatR μ.2.2) (h : f_Papers_addAmendment a1 μ k) : CT l Γ yX6_addAmendment cX6_addAmendment 4 (some .int) 1 22 0 0 [vr Γ 12, vi a1, vr Γ 64] g 175 μ (pI k) := by
  refine SW.ct (by decide) (Nat.le_of_ble_eq_true rfl) ?_
  refine z_sub (lv' := [(0, vr Γ 12), (1, vi a1), (2, vr Γ 64)]) [0, 1, 2] rfl ?_
  show SW l Γ yX6_addAmendment.cls cX6_addAmendment Y_Papers_addAmendment (pI k) g 175 0 0 μ 0 [(0, vr Γ 12), (1, vi a1), (2, vr Γ 64)] []
  unfold f_Papers_addAmendment at h
  refine z_rload_n dX6_addAmendment_0 rfl 0 rfl ?_
  refine z_getR (q := 2537) ff_6_1 dX6_addAmendment_1 kt_12 (Nat.le_of_ble_eq_true rfl) fl_X6_15 rfl (hs.1 _ _ sr_2537) ?_
  refine z_rload_n dX6_addAmendment_4 rfl 0 rfl ?_
  refine z_getI (q := 2544) ff_6_8 dX6_addAmendment_5 kt_12 (Nat.le_of_ble_eq_true rfl) fl_X6_53 rfl ?_
  refine z_iload_n dX6_addAmendment_8 rfl 1 rfl ?_
  refine z_NM (i_X11_set kt_14 (Nat.le_of_ble_eq_true rfl)) ok_X11_set nw_X6_49 ⟨Nat.le_of_ble_eq_true rfl, Nat.le_of_ble_eq_true rfl⟩ ⟨Nat.zero_le _, Nat.zero_le _⟩ rfl rfl (Nat.le_of_ble_eq_true rfl) dX6_addAmendment_9 ?_
  refine z_mm (fun μ_1 eμ_1 => ?_)
  replace h := h μ_1 eμ_1
  replace hs : StatR μ_1.2.2 := by rw [eμ_1]; exact (StatR.set hs)
  refine z_rload_n dX6_addAmendment_12 rfl 0 rfl ?_
  refine z_getR (q := 2538) ff_6_2 dX6_addAmendment_13 kt_12 (Nat.le_of_ble_eq_true rfl) fl_X6_18 rfl (hs.1 _ _ sr_2538) ?_
  refine z_rload_n dX6_addAmendment_16 rfl 0 rfl ?_
  refine z_getI (q := 2544) ff_6_8 dX6_addAmendment_17 kt_12 (Nat.le_of_ble_eq_true rfl) fl_X6_53 rfl ?_
  refine z_rload_n dX6_addAmendment_20 rfl 2 rfl ?_
  refine z_getI (q := 9195) ff_4_3 dX6_addAmendment_21 kt_64 (Nat.le_of_ble_eq_true rfl) fl_X6_56 rfl ?_
  refine z_NM (i_X11_set kt_15 (Nat.le_of_ble_eq_true rfl)) ok_X11_set nw_X6_49 ⟨Nat.le_of_ble_eq_true rfl, Nat.le_of_ble_eq_true rfl⟩ ⟨Nat.zero_le _, Nat.zero_le _⟩ rfl rfl (Nat.le_of_ble_eq_true rfl) dX6_addAmendment_24 ?_
  refine z_mm (fun μ_2 eμ_2 => ?_)
  replace h := h μ_2 eμ_2
  replace hs : StatR μ_2.2.2 := by rw [eμ_2]; exact (StatR.set hs)
  refine z_iconst dX6_addAmendment_27 ?_
  refine z_istore_n (lv' := [(3, vi 0), (0, vr Γ 12), (1, vi a1), (2, vr Γ 64)]) dX6_addAmendment_28 rfl (Nat.le_of_ble_eq_true rfl) rfl ?_
  obtain ⟨m29, h⟩ := h
  refine z_sub (lv' := [(0, vr Γ 12), (2, vr Γ 64), (3, vi 0)]) [1, 3, 0] rfl ?_
  refine L_Papers_addAmendment_29 (fun μ_6 hs h => ?_) m29 0 μ_2 hs h
  refine z_rload_n dX6_addAmendment_91 rfl 0 rfl ?_
  refine z_dup dX6_addAmendment_92 rfl ?_
  refine z_getI (q := 2544) ff_6_8 dX6_addAmendment_93 kt_12 (Nat.le_of_ble_eq_true rfl) fl_X6_53 rfl ?_
  refine z_iconst dX6_addAmendment_96 ?_
  refine z_iadd dX6_addAmendment_97 ?_
  refine z_putI (q := 2544) ff_6_8 (Or.inl rfl) rfl dX6_addAmendment_98 kt_12 (Nat.le_of_ble_eq_true rfl) fl_X6_53 rfl ?_
  refine z_mm (fun μ_7 eμ_7 => ?_)
  replace h := h μ_7 eμ_7
  replace hs : StatR μ_7.2.2 := by rw [eμ_7]; exact hs
  refine z_rload_n dX6_addAmendment_101 rfl 0 rfl ?_
  refine z_getI (q := 2544) ff_6_8 dX6_addAmendment_102 kt_12 (Nat.le_of_ble_eq_true rfl) fl_X6_53 rfl ?_
  refine z_iconst dX6_addAmendment_105 ?_
  refine z_isub dX6_addAmendment_106 ?_
  exact z_iret rfl dX6_addAmendment_107 rfl rfl rfl ⟨_, rfl, hs, h⟩
def v_Papers_hasMotion (a1 : Int) (μ : Mem) : Bool := if w a1 < 0 then false else (if w a1 < w (rI μ 2543 0) then true else false)
theorem i_Papers_hasMotion {l : Launch} {Γ : Gam} {g : Nat} {μ : Mem} {a1 : Int} : CT l Γ yX6_hasMotion cX6_hasMotion 2 (some .boolean) 0 0 0 0 [vr Γ 12, vi a1] g 175 μ (pE (vi (b2i (v_Papers_hasMotion a1 μ))) μ) := by
  refine SW.ct (by decide) (Nat.le_of_ble_eq_true rfl) ?_
  refine z_sub (lv' := [(0, vr Γ 12), (1, vi a1)]) [0, 1] rfl ?_
  have hv : v_Papers_hasMotion a1 μ = v_Papers_hasMotion a1 μ := rfl
  refine z_iload_n dX6_hasMotion_0 rfl 1 rfl ?_
  refine z_if_lt (tgt := 16) dX6_hasMotion_1 (by decide) (eq_ite hv) (fun hv => ?_) (fun hv => ?_)
  · refine z_iconst dX6_hasMotion_16 ?_
    exact z_zret (b := false) rfl dX6_hasMotion_17 rfl rfl rfl ⟨by first | (rw [hv]; done) | rfl, rfl⟩
  · refine z_iload_n dX6_hasMotion_4 rfl 1 rfl ?_
    refine z_rload_n dX6_hasMotion_5 rfl 0 rfl ?_
    refine z_getI (q := 2543) ff_6_7 dX6_hasMotion_6 kt_12 (Nat.le_of_ble_eq_true rfl) fl_X6_38 rfl ?_
    refine z_icmp_ge (tgt := 16) dX6_hasMotion_9 (by decide) (eq_ite hv) (fun hv => ?_) (fun hv => ?_)
    · refine z_iconst dX6_hasMotion_12 ?_
      refine z_goto (tgt := 17) dX6_hasMotion_13 (by decide) ?_
      exact z_zret (b := true) rfl dX6_hasMotion_17 rfl rfl rfl ⟨by first | (rw [hv]; done) | rfl, rfl⟩
    · refine z_iconst dX6_hasMotion_16 ?_
      exact z_zret (b := false) rfl dX6_hasMotion_17 rfl rfl rfl ⟨by first | (rw [hv]; done) | rfl, rfl⟩
abbrev Y_H_amend : Yt := (4, (some .int), yX11_amend.name, { frames := 9, cells := 0, slots := 0, locals := 211 }, 175, 0, 0)
def f_H_amend (a1 : Int) (μ : Mem) (k : Int → Mem → Prop) : Prop := if (v_Papers_hasMotion a1 μ) = true then (if w (v_Floor_stateOf a1 μ) = 0 then (if w (rI μ 2544 0) < w 40 then (f_LineR_readAmendment  μ (fun r40 μ_1 => ∀ μ_2 : Mem, μ_2 = sI μ_1 2281 0 0 → if r40 = true then (f_Papers_addAmendment a1 μ_2 (fun r75 μ_3 => f_Floor_bring (100 + r75) μ_3 (fun μ_4 => f_Chair_closeLatest  μ_4 (fun μ_5 => k r75 μ_5)))) else (k ((-1) - (rI μ_2 2286 0)) μ_2))) else (k (-1) μ)) else (k (-1) μ)) else (k (-1) μ)
theorem i_H_amend {l : Launch} {Γ : Gam} {g : Nat} {a1 : Int} {μ : Mem} {k : Int → Mem → Prop} (hs : StatR μ.2.2) (h : f_H_amend a1 μ k) : CT l Γ yX11_amend cX11_amend 4 (some .int) 9 211 0 0 [vr Γ 0, vi a1] g 175 μ (pI k) := by
  refine SW.ct (by decide) (Nat.le_of_ble_eq_true rfl) ?_
  refine z_sub (lv' := [(0, vr Γ 0), (1, vi a1)]) [0, 1] rfl ?_
  show SW l Γ yX11_amend.cls cX11_amend Y_H_amend (pI k) g 175 0 0 μ 0 [(0, vr Γ 0), (1, vi a1)] []
  unfold f_H_amend at h
  refine z_rload_n dX11_amend_0 rfl 0 rfl ?_
  refine z_getR (q := 1004) ff_11_4 dX11_amend_1 kt_0 (Nat.le_of_ble_eq_true rfl) fl_X11_26 rfl (hs.1 _ _ sr_1004) ?_
  refine z_iload_n dX11_amend_4 rfl 1 rfl ?_
  refine z_VE (i_Papers_hasMotion ) vk_X6_hasMotion kt_12 (Nat.le_of_ble_eq_true rfl) rfl ml_X11_222 ⟨Nat.le_of_ble_eq_true rfl, Nat.le_of_ble_eq_true rfl⟩ ⟨Nat.zero_le _, Nat.zero_le _⟩ rfl rfl (Nat.le_of_ble_eq_true rfl) dX11_amend_5 ?_
  refine z_ifeq_b (tgt := 34) dX11_amend_8 (by decide) h (fun h => ?_) (fun h => ?_)
  · refine z_rload_n dX11_amend_11 rfl 0 rfl ?_
    refine z_getR (q := 1005) ff_11_5 dX11_amend_12 kt_0 (Nat.le_of_ble_eq_true rfl) fl_X11_57 rfl (hs.1 _ _ sr_1005) ?_
    refine z_iload_n dX11_amend_15 rfl 1 rfl ?_
    refine z_VE (i_Floor_stateOf hs) vk_X3_stateOf kt_67 (Nat.le_of_ble_eq_true rfl) rfl ml_X11_118 ⟨Nat.le_of_ble_eq_true rfl, Nat.le_of_ble_eq_true rfl⟩ ⟨Nat.zero_le _, Nat.zero_le _⟩ rfl rfl (Nat.le_of_ble_eq_true rfl) dX11_amend_16 ?_
    refine z_if_ne (tgt := 34) dX11_amend_19 (by decide) h (fun h => ?_) (fun h => ?_)
    · refine z_rload_n dX11_amend_22 rfl 0 rfl ?_
      refine z_getR (q := 1004) ff_11_4 dX11_amend_23 kt_0 (Nat.le_of_ble_eq_true rfl) fl_X11_26 rfl (hs.1 _ _ sr_1004) ?_
      refine z_getI (q := 2544) ff_6_8 dX11_amend_26 kt_12 (Nat.le_of_ble_eq_true rfl) fl_X11_225 rfl ?_
      refine z_bipush dX11_amend_29 (by decide) ?_
      refine z_icmp_lt (tgt := 36) dX11_amend_31 (by decide) h (fun h => ?_) (fun h => ?_)
      · refine z_rload_n dX11_amend_36 rfl 0 rfl ?_
        refine z_getR (q := 1003) ff_11_3 dX11_amend_37 kt_0 (Nat.le_of_ble_eq_true rfl) fl_X11_48 rfl (hs.1 _ _ sr_1003) ?_
        refine z_VB (i_LineR_readAmendment  hs h) vk_X4_readAmendment kt_64 (Nat.le_of_ble_eq_true rfl) rfl ml_X11_228 ⟨Nat.le_of_ble_eq_true rfl, Nat.le_of_ble_eq_true rfl⟩ ⟨Nat.zero_le _, Nat.zero_le _⟩ rfl rfl (Nat.le_of_ble_eq_true rfl) dX11_amend_40 (fun r40 μ_1 hs h => ?_)
        refine z_istore_n (lv' := [(2, vi (b2i r40)), (0, vr Γ 0), (1, vi a1)]) dX11_amend_43 rfl (Nat.le_of_ble_eq_true rfl) rfl ?_
        refine z_rload_n dX11_amend_44 rfl 1 rfl ?_
        refine z_getR (q := 1001) ff_11_1 dX11_amend_45 kt_0 (Nat.le_of_ble_eq_true rfl) fl_X11_19 rfl (hs.1 _ _ sr_1001) ?_
        refine z_iconst dX11_amend_48 ?_
        refine z_putI (q := 2281) ff_9_1 (Or.inl rfl) rfl dX11_amend_49 kt_10 (Nat.le_of_ble_eq_true rfl) fl_X11_153 rfl ?_
        refine z_mm (fun μ_2 eμ_2 => ?_)
        replace h := h μ_2 eμ_2
        replace hs : StatR μ_2.2.2 := by rw [eμ_2]; exact hs
        refine z_iload_n dX11_amend_52 rfl 0 rfl ?_
        refine z_ifne_b (tgt := 66) dX11_amend_53 (by decide) h (fun h => ?_) (fun h => ?_)
        · refine z_rload_n dX11_amend_66 rfl 1 rfl ?_
          refine z_getR (q := 1004) ff_11_4 dX11_amend_67 kt_0 (Nat.le_of_ble_eq_true rfl) fl_X11_26 rfl (hs.1 _ _ sr_1004) ?_
          refine z_iload_n dX11_amend_70 rfl 2 rfl ?_
          refine z_rload_n dX11_amend_71 rfl 1 rfl ?_
          refine z_getR (q := 1003) ff_11_3 dX11_amend_72 kt_0 (Nat.le_of_ble_eq_true rfl) fl_X11_48 rfl (hs.1 _ _ sr_1003) ?_
          refine z_VI (i_Papers_addAmendment  hs h) vk_X6_addAmendment kt_12 (Nat.le_of_ble_eq_true rfl) rfl ml_X11_231 ⟨Nat.le_of_ble_eq_true rfl, Nat.le_of_ble_eq_true rfl⟩ ⟨Nat.zero_le _, Nat.zero_le _⟩ rfl rfl (Nat.le_of_ble_eq_true rfl) dX11_amend_75 (fun r75 μ_3 hs h => ?_)
          refine z_istore_n (lv' := [(3, vi r75), (2, vi (b2i r40)), (0, vr Γ 0), (1, vi a1)]) dX11_amend_78 rfl (Nat.le_of_ble_eq_true rfl) rfl ?_
          refine z_rload_n dX11_amend_79 rfl 2 rfl ?_
          refine z_getR (q := 1005) ff_11_5 dX11_amend_80 kt_0 (Nat.le_of_ble_eq_true rfl) fl_X11_57 rfl (hs.1 _ _ sr_1005) ?_
          refine z_bipush dX11_amend_83 (by decide) ?_
          refine z_iload_n dX11_amend_85 rfl 0 rfl ?_
          refine z_iadd dX11_amend_86 ?_
          refine z_VU (i_Floor_bring  hs h) vk_X3_bring kt_67 (Nat.le_of_ble_eq_true rfl) rfl ml_X11_174 ⟨Nat.le_of_ble_eq_true rfl, Nat.le_of_ble_eq_true rfl⟩ ⟨Nat.zero_le _, Nat.zero_le _⟩ rfl rfl (Nat.le_of_ble_eq_true rfl) dX11_amend_87 (fun μ_4 hs h => ?_)
          refine z_rload_n dX11_amend_90 rfl 2 rfl ?_
          refine z_getR (q := 1007) ff_11_7 dX11_amend_91 kt_0 (Nat.le_of_ble_eq_true rfl) fl_X11_75 rfl (hs.1 _ _ sr_1007) ?_
          refine z_VU (i_Chair_closeLatest  hs h) vk_X0_closeLatest kt_83 (Nat.le_of_ble_eq_true rfl) rfl ml_X11_180 ⟨Nat.le_of_ble_eq_true rfl, Nat.le_of_ble_eq_true rfl⟩ ⟨Nat.zero_le _, Nat.zero_le _⟩ rfl rfl (Nat.le_of_ble_eq_true rfl) dX11_amend_94 (fun μ_5 hs h => ?_)
          refine z_iload_n dX11_amend_97 rfl 0 rfl ?_
          exact z_iret rfl dX11_amend_98 rfl rfl rfl ⟨_, rfl, hs, h⟩
        · refine z_iconst dX11_amend_56 ?_
          refine z_rload_n dX11_amend_57 rfl 1 rfl ?_
          refine z_getR (q := 1001) ff_11_1 dX11_amend_58 kt_0 (Nat.le_of_ble_eq_true rfl) fl_X11_19 rfl (hs.1 _ _ sr_1001) ?_
          refine z_getI (q := 2286) ff_9_6 dX11_amend_61 kt_10 (Nat.le_of_ble_eq_true rfl) fl_X11_171 rfl ?_
          refine z_isub dX11_amend_64 ?_
          exact z_iret rfl dX11_amend_65 rfl rfl rfl ⟨_, rfl, hs, h⟩
      · refine z_iconst dX11_amend_34 ?_
        exact z_iret rfl dX11_amend_35 rfl rfl rfl ⟨_, rfl, hs, h⟩
    · refine z_iconst dX11_amend_34 ?_
      exact z_iret rfl dX11_amend_35 rfl rfl rfl ⟨_, rfl, hs, h⟩
  · refine z_iconst dX11_amend_34 ?_
    exact z_iret rfl dX11_amend_35 rfl rfl rfl ⟨_, rfl, hs, h⟩
def v_H_place  (μ : Mem) : Int := rI μ 2287 0
theorem i_H_place {l : Launch} {Γ : Gam} {g : Nat} {μ : Mem} (hs : StatR μ.2.2) : CT l Γ yX11_place cX11_place 1 (some .int) 0 0 0 0 [vr Γ 0] g 175 μ (pE (vi (v_H_place μ)) μ) := by
  refine SW.ct (by decide) (Nat.le_of_ble_eq_true rfl) ?_
  refine z_sub (lv' := [(0, vr Γ 0)]) [0] rfl ?_
  have hv : v_H_place μ = v_H_place μ := rfl
  refine z_rload_n dX11_place_0 rfl 0 rfl ?_
  refine z_getR (q := 1001) ff_11_1 dX11_place_1 kt_0 (Nat.le_of_ble_eq_true rfl) fl_X11_19 rfl (hs.1 _ _ sr_1001) ?_
  refine z_getI (q := 2287) ff_9_7 dX11_place_4 kt_10 (Nat.le_of_ble_eq_true rfl) fl_X11_235 rfl ?_
  exact z_iret rfl dX11_place_7 rfl rfl rfl ⟨by first | (rw [hv]; done) | rfl, rfl⟩
def v_Reg_isKnownDay (a1 : Int) (μ : Mem) : Bool := if w a1 < 0 then false else (if w (rI μ 1139 0) < w a1 then false else true)
theorem i_Reg_isKnownDay {l : Launch} {Γ : Gam} {g : Nat} {μ : Mem} {a1 : Int} : CT l Γ yX7_isKnownDay cX7_isKnownDay 2 (some .boolean) 0 0 0 0 [vr Γ 1, vi a1] g 175 μ (pE (vi (b2i (v_Reg_isKnownDay a1 μ))) μ) := by
  refine SW.ct (by decide) (Nat.le_of_ble_eq_true rfl) ?_
  refine z_sub (lv' := [(0, vr Γ 1), (1, vi a1)]) [0, 1] rfl ?_
  have hv : v_Reg_isKnownDay a1 μ = v_Reg_isKnownDay a1 μ := rfl
  refine z_iload_n dX7_isKnownDay_0 rfl 1 rfl ?_
  refine z_if_lt (tgt := 16) dX7_isKnownDay_1 (by decide) (eq_ite hv) (fun hv => ?_) (fun hv => ?_)
  · refine z_iconst dX7_isKnownDay_16 ?_
    exact z_zret (b := false) rfl dX7_isKnownDay_17 rfl rfl rfl ⟨by first | (rw [hv]; done) | rfl, rfl⟩
  · refine z_iload_n dX7_isKnownDay_4 rfl 1 rfl ?_
    refine z_rload_n dX7_isKnownDay_5 rfl 0 rfl ?_
    refine z_getI (q := 1139) ff_7_11 dX7_isKnownDay_6 kt_1 (Nat.le_of_ble_eq_true rfl) fl_X7_46 rfl ?_
    refine z_icmp_gt (tgt := 16) dX7_isKnownDay_9 (by decide) (eq_ite hv) (fun hv => ?_) (fun hv => ?_)
    · refine z_iconst dX7_isKnownDay_16 ?_
      exact z_zret (b := false) rfl dX7_isKnownDay_17 rfl rfl rfl ⟨by first | (rw [hv]; done) | rfl, rfl⟩
    · refine z_iconst dX7_isKnownDay_12 ?_
      refine z_goto (tgt := 17) dX7_isKnownDay_13 (by decide) ?_
      exact z_zret (b := true) rfl dX7_isKnownDay_17 rfl rfl rfl ⟨by first | (rw [hv]; done) | rfl, rfl⟩
abbrev Y_H_paid : Yt := (3, (some .int), yX11_paid.name, { frames := 4, cells := 0, slots := 0, locals := 89 }, 175, 0, 0)
def f_H_paid (a1 : Int) (a2 : Int) (μ : Mem) (k : Int → Mem → Prop) : Prop := if (v_Reg_hasAffiliate a1 μ) = true then (if (v_Reg_isKnownDay a2 μ) = true then (f_Count_take (-1) a2 μ (fun μ_1 => f_Papers_inForce (rI μ_1 9584 0) μ_1 (fun r49 μ_2 => isRu r49 = true ∧ f_Count_paidHeadsOf a1 (rI μ_2 (gid r49 4) 0) μ_2 (fun r55 μ_3 => k r55 μ_3)))) else (k (-1) μ)) else (k (-1) μ)
theorem i_H_paid {l : Launch} {Γ : Gam} {g : Nat} {a1 : Int} {a2 : Int} {μ : Mem} {k : Int → Mem → Prop} (hs : StatR μ.2.2) (h : f_H_paid a1 a2 μ k) : CT l Γ yX11_paid cX11_paid 3 (some .int) 4 89 0 0 [vr Γ 0, vi a1, vi a2] g 175 μ (pI k) := by
  refine SW.ct (by decide) (Nat.le_of_ble_eq_true rfl) ?_
  refine z_sub (lv' := [(0, vr Γ 0), (1, vi a1), (2, vi a2)]) [0, 1, 2] rfl ?_
  show SW l Γ yX11_paid.cls cX11_paid Y_H_paid (pI k) g 175 0 0 μ 0 [(0, vr Γ 0), (1, vi a1), (2, vi a2)] []
  unfold f_H_paid at h
  refine z_rload_n dX11_paid_0 rfl 0 rfl ?_
  refine z_getR (q := 1000) ff_11_0 dX11_paid_1 kt_0 (Nat.le_of_ble_eq_true rfl) fl_X11_12 rfl (hs.1 _ _ sr_1000) ?_
  refine z_iload_n dX11_paid_4 rfl 1 rfl ?_
  refine z_VE (i_Reg_hasAffiliate ) vk_X7_hasAffiliate kt_1 (Nat.le_of_ble_eq_true rfl) rfl ml_X11_103 ⟨Nat.le_of_ble_eq_true rfl, Nat.le_of_ble_eq_true rfl⟩ ⟨Nat.zero_le _, Nat.zero_le _⟩ rfl rfl (Nat.le_of_ble_eq_true rfl) dX11_paid_5 ?_
  refine z_ifeq_b (tgt := 22) dX11_paid_8 (by decide) h (fun h => ?_) (fun h => ?_)
  · refine z_rload_n dX11_paid_11 rfl 0 rfl ?_
    refine z_getR (q := 1000) ff_11_0 dX11_paid_12 kt_0 (Nat.le_of_ble_eq_true rfl) fl_X11_12 rfl (hs.1 _ _ sr_1000) ?_
    refine z_iload_n dX11_paid_15 rfl 2 rfl ?_
    refine z_VE (i_Reg_isKnownDay ) vk_X7_isKnownDay kt_1 (Nat.le_of_ble_eq_true rfl) rfl ml_X11_238 ⟨Nat.le_of_ble_eq_true rfl, Nat.le_of_ble_eq_true rfl⟩ ⟨Nat.zero_le _, Nat.zero_le _⟩ rfl rfl (Nat.le_of_ble_eq_true rfl) dX11_paid_16 ?_
    refine z_ifne_b (tgt := 24) dX11_paid_19 (by decide) h (fun h => ?_) (fun h => ?_)
    · refine z_rload_n dX11_paid_24 rfl 0 rfl ?_
      refine z_getR (q := 1006) ff_11_6 dX11_paid_25 kt_0 (Nat.le_of_ble_eq_true rfl) fl_X11_66 rfl (hs.1 _ _ sr_1006) ?_
      refine z_iconst dX11_paid_28 ?_
      refine z_iload_n dX11_paid_29 rfl 2 rfl ?_
      refine z_VU (i_Count_take  hs h) vk_X2_take kt_73 (Nat.le_of_ble_eq_true rfl) rfl ml_X11_142 ⟨Nat.le_of_ble_eq_true rfl, Nat.le_of_ble_eq_true rfl⟩ ⟨Nat.zero_le _, Nat.zero_le _⟩ rfl rfl (Nat.le_of_ble_eq_true rfl) dX11_paid_30 (fun μ_1 hs h => ?_)
      refine z_rload_n dX11_paid_33 rfl 0 rfl ?_
      refine z_getR (q := 1006) ff_11_6 dX11_paid_34 kt_0 (Nat.le_of_ble_eq_true rfl) fl_X11_66 rfl (hs.1 _ _ sr_1006) ?_
      refine z_iload_n dX11_paid_37 rfl 1 rfl ?_
      refine z_rload_n dX11_paid_38 rfl 0 rfl ?_
      refine z_getR (q := 1004) ff_11_4 dX11_paid_39 kt_0 (Nat.le_of_ble_eq_true rfl) fl_X11_26 rfl (hs.1 _ _ sr_1004) ?_
      refine z_rload_n dX11_paid_42 rfl 0 rfl ?_
      refine z_getR (q := 1005) ff_11_5 dX11_paid_43 kt_0 (Nat.le_of_ble_eq_true rfl) fl_X11_57 rfl (hs.1 _ _ sr_1005) ?_
      refine z_getI (q := 9584) ff_3_8 dX11_paid_46 kt_67 (Nat.le_of_ble_eq_true rfl) fl_X11_125 rfl ?_
      refine z_VA (i_Papers_inForce  hs h) vk_X6_inForce kt_12 (Nat.le_of_ble_eq_true rfl) rfl ml_X11_129 ⟨Nat.le_of_ble_eq_true rfl, Nat.le_of_ble_eq_true rfl⟩ ⟨Nat.zero_le _, Nat.zero_le _⟩ rfl rfl (Nat.le_of_ble_eq_true rfl) dX11_paid_49 (fun r49 μ_2 hs h => ?_)
      obtain ⟨hr_r49, h⟩ := h
      refine z_getI (q := (gid r49 4)) ff_8_4 dX11_paid_52 (ru_k hr_r49) (ru_l hr_r49) fl_X11_241 rfl ?_
      refine z_VI (i_Count_paidHeadsOf  hs h) vk_X2_paidHeadsOf kt_73 (Nat.le_of_ble_eq_true rfl) rfl ml_X11_244 ⟨Nat.le_of_ble_eq_true rfl, Nat.le_of_ble_eq_true rfl⟩ ⟨Nat.zero_le _, Nat.zero_le _⟩ rfl rfl (Nat.le_of_ble_eq_true rfl) dX11_paid_55 (fun r55 μ_3 hs h => ?_)
      exact z_iret rfl dX11_paid_58 rfl rfl rfl ⟨_, rfl, hs, h⟩
    · refine z_iconst dX11_paid_22 ?_
      exact z_iret rfl dX11_paid_23 rfl rfl rfl ⟨_, rfl, hs, h⟩
  · refine z_iconst dX11_paid_22 ?_
    exact z_iret rfl dX11_paid_23 rfl rfl rfl ⟨_, rfl, hs, h⟩
abbrev Y_Reg_branchesOf : Yt := (4, (some .int), yX7_branchesOf.name, { frames := 1, cells := 0, slots := 0, locals := 21 }, 175, 0, 0)
def l_Reg_branchesOf_4 (a1 : Int) (μ : Mem) (X_4_38 : Int → Prop) : Nat → Int → Int → Prop
  | 0, _, _ => False
  | fu4 + 1, v2, v3 => if w v3 < w (rI μ 1137 0) then (∀ x30 : Int, x30 = (if w (at' μ 3 48 v3) = w a1 then 1 else 0) → ∀ v2_1 : Int, v2_1 = v2 + x30 → (l_Reg_branchesOf_4 a1 μ X_4_38 fu4) v2_1 (v3 + 1)) else (X_4_38 v2)
def f_Reg_branchesOf (a1 : Int) (μ : Mem) (k : Int → Mem → Prop) : Prop := ∃ m4 : Nat, l_Reg_branchesOf_4 a1 μ (fun (v2_2 : Int) => k v2_2 μ) m4 0 0
theorem L_Reg_branchesOf_4 {l : Launch} {Γ : Gam} {g : Nat} {a1 : Int} {μ : Mem} {X_4_38 : Int → Prop} {k : Int → Mem → Prop} (hs : StatR μ.2.2) (hX_4_38 : ∀ (u2 : Int), X_4_38 u2 → SW l Γ yX7_branchesOf.cls cX7_branchesOf Y_Reg_branchesOf (pI k) g 175 0 0 μ 38 [(2, vi u2)] []) (n9 : Nat) : ∀ (v2 : Int) (v3 : Int), l_Reg_branchesOf_4 a1 μ X_4_38 n9 v2 v3 → SW l Γ yX7_branchesOf.cls cX7_branchesOf Y_Reg_branchesOf (pI k) g 175 0 0 μ 4 [(0, vr Γ 1), (1, vi a1), (2, vi v2), (3, vi v3)] [] := by
  induction n9 with
  | zero =>
    intro v2 v3 h
    exact h.elim
  | succ n9 hR_4 =>
    intro v2 v3 h
    rw [l_Reg_branchesOf_4] at h
    refine z_iload_n dX7_branchesOf_4 rfl 3 rfl ?_
    refine z_rload_n dX7_branchesOf_5 rfl 0 rfl ?_
    refine z_getI (q := 1137) ff_7_9 dX7_branchesOf_6 kt_1 (Nat.le_of_ble_eq_true rfl) fl_X7_43 rfl ?_
    refine z_icmp_ge (tgt := 38) dX7_branchesOf_9 (by decide) h (fun h => ?_) (fun h => ?_)
    · refine z_iload_n dX7_branchesOf_12 rfl 2 rfl ?_
      refine z_rload_n dX7_branchesOf_13 rfl 0 rfl ?_
      refine z_getR (q := 1129) ff_7_1 dX7_branchesOf_14 kt_1 (Nat.le_of_ble_eq_true rfl) fl_X7_15 rfl (hs.1 _ _ sr_1129) ?_
      refine z_iload_n dX7_branchesOf_17 rfl 3 rfl ?_
      refine z_NE (i_X11_at kt_3 (Nat.le_of_ble_eq_true rfl)) ok_X11_at nw_X7_57 ⟨Nat.le_of_ble_eq_true rfl, Nat.le_of_ble_eq_true rfl⟩ ⟨Nat.zero_le _, Nat.zero_le _⟩ rfl rfl (Nat.le_of_ble_eq_true rfl) dX7_branchesOf_18 ?_
      refine z_iload_n dX7_branchesOf_21 rfl 1 rfl ?_
      refine z_phi 30 [vi v2] (fun V9 hv J9 => ?_) h (fun x30 h => ?_)
      · refine z_icmp_ne (tgt := 29) dX7_branchesOf_22 (by decide) (eq_ite hv) (fun hv => ?_) (fun hv => ?_)
        · refine z_iconst dX7_branchesOf_25 ?_
          refine z_goto (tgt := 30) dX7_branchesOf_26 (by decide) ?_
          exact J9 _ hv.symm
        · refine z_iconst dX7_branchesOf_29 ?_
          exact J9 _ hv.symm
      · refine z_iadd dX7_branchesOf_30 ?_
        refine z_nm (fun v2_1 ev2_1 => ?_)
        replace h := h v2_1 ev2_1
        refine z_istore_n (lv' := [(2, vi v2_1), (0, vr Γ 1), (1, vi a1), (3, vi v3)]) dX7_branchesOf_31 rfl (Nat.le_of_ble_eq_true rfl) rfl ?_
        refine z_iinc (j := 3) (lv' := [(3, vi (v3 + 1)), (2, vi v2_1), (0, vr Γ 1), (1, vi a1)]) dX7_branchesOf_32 rfl (Nat.le_of_ble_eq_true rfl) rfl ?_
        refine z_goto (tgt := 4) dX7_branchesOf_35 (by decide) ?_
        refine z_sub (lv' := [(0, vr Γ 1), (1, vi a1), (2, vi v2_1), (3, vi (v3 + 1))]) [2, 3, 1, 0] rfl ?_
        exact hR_4 v2_1 (v3 + 1) h
    · refine z_sub (lv' := [(2, vi v2)]) [2] rfl ?_
      exact hX_4_38 v2 h
theorem i_Reg_branchesOf {l : Launch} {Γ : Gam} {g : Nat} {a1 : Int} {μ : Mem} {k : Int → Mem → Prop} (hs : StatR μ.2.2) (h : f_Reg_branchesOf a1 μ k) : CT l Γ yX7_branchesOf cX7_branchesOf 4 (some .int) 1 21 0 0 [vr Γ 1, vi a1] g 175 μ (pI k) := by
  refine SW.ct (by decide) (Nat.le_of_ble_eq_true rfl) ?_
  refine z_sub (lv' := [(0, vr Γ 1), (1, vi a1)]) [0, 1] rfl ?_
  show SW l Γ yX7_branchesOf.cls cX7_branchesOf Y_Reg_branchesOf (pI k) g 175 0 0 μ 0 [(0, vr Γ 1), (1, vi a1)] []
  unfold f_Reg_branchesOf at h
  refine z_iconst dX7_branchesOf_0 ?_
  refine z_istore_n (lv' := [(2, vi 0), (0, vr Γ 1), (1, vi a1)]) dX7_branchesOf_1 rfl (Nat.le_of_ble_eq_true rfl) rfl ?_
  refine z_iconst dX7_branchesOf_2 ?_
  refine z_istore_n (lv' := [(3, vi 0), (2, vi 0), (0, vr Γ 1), (1, vi a1)]) dX7_branchesOf_3 rfl (Nat.le_of_ble_eq_true rfl) rfl ?_
  obtain ⟨m4, h⟩ := h
  refine z_sub (lv' := [(0, vr Γ 1), (1, vi a1), (2, vi 0), (3, vi 0)]) [2, 3, 1, 0] rfl ?_
  refine L_Reg_branchesOf_4 hs (fun v2_2 h => ?_) m4 0 0 h
  refine z_iload_n dX7_branchesOf_38 rfl 0 rfl ?_
  exact z_iret rfl dX7_branchesOf_39 rfl rfl rfl ⟨_, rfl, hs, h⟩
